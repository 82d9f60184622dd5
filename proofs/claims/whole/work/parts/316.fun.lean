def lp_242_20 : Nat → Nat → Int32 → Int32 → Int32 → AmC → Option (((Int32) ⊕ (Int32)) × AmC)
  | 0, _, _, _, _, _ => none
  | n + 1, p0, p3, p4, p5, C => (if p5 ≤ 0 then some ((.inr p4), C) else (if (4 : Int32) ≤ p3 then some ((.inr p4), C) else (if p3 < (2 : Int32) then if isK p0 10 = true then (cP C p0 81).bind (fun r16 => if isK r16 12 = true then if amIn p5 (aLen r16) = true then (cP C p0 81).bind (fun r20 => if isK r20 12 = true then if amIn p4 (aLen r20) = true then (if (cI C r20 (Int32.toNatClampNeg p4)) < (cI C r16 (Int32.toNatClampNeg p5)) then lp_242_20 n p0 p3 p4 (p5 + (-1 : Int32)) C else lp_242_20 n p0 p3 p5 (p5 + (-1 : Int32)) C) else none else none) else none else none) else none else (if ¬ p5 = (1 : Int32) then if isK p0 10 = true then (cP C p0 81).bind (fun r27 => if isK r27 12 = true then if amIn p5 (aLen r27) = true then (cP C p0 81).bind (fun r31 => if isK r31 12 = true then if amIn p4 (aLen r31) = true then (if (cI C r31 (Int32.toNatClampNeg p4)) < (cI C r27 (Int32.toNatClampNeg p5)) then lp_242_20 n p0 p3 p4 (p5 + (-1 : Int32)) C else lp_242_20 n p0 p3 p5 (p5 + (-1 : Int32)) C) else none else none) else none else none) else none else some ((.inl p4), C)))))
set_option maxRecDepth 20000 in
set_option maxHeartbeats 4000000 in
theorem lt_242_20 : ∀ (n : Nat) (p0 : Nat) (p3 : Int32) (p4 : Int32) (p5 : Int32) (C : AmC) (r : ((Int32) ⊕ (Int32)) × AmC), lp_242_20 n p0 p3 p4 p5 C = some r → ∀ (o : AmO) (M' : AmM), (match r with
        | ((.inl w4), C') => En false 242 31 [(4, .int w4)] [] (mkM C') o M'
        | ((.inr w4), C') => En false 242 45 [(4, .int w4)] [] (mkM C') o M') → En false 242 20 [(0, .ref p0), (3, .int p3), (4, .int p4), (5, .int p5)] [] (mkM C) o M' := by
  intro n
  induction n with
  | zero => intro p0 p3 p4 p5 C r h; cases h
  | succ n ih =>
    intro p0 p3 p4 p5 C r h o M' hk
    unfold lp_242_20 at h
    refine en_iload rfl rfl ?_
    rcases gi h with ⟨c12, h⟩ | ⟨c12, h⟩
    · refine en_if_le_t c12 rfl ?_
      cases h
      exact en_sub [2] rfl rfl hk
    · refine en_if_le_f c12 rfl ?_
      refine en_iload rfl rfl ?_
      refine ec_iconst cst_4 rfl ?_
      rcases gi h with ⟨c13, h⟩ | ⟨c13, h⟩
      · refine en_icmp_ge_t c13 rfl ?_
        cases h
        exact en_sub [2] rfl rfl hk
      · refine en_icmp_ge_f c13 rfl ?_
        refine en_iload rfl rfl ?_
        refine ec_iconst cst_2 rfl ?_
        rcases gi h with ⟨c14, h⟩ | ⟨c14, h⟩
        · refine en_icmp_lt_t c14 rfl ?_
          refine en_aload rfl rfl ?_
          obtain ⟨g15, h⟩ := gd h
          obtain ⟨r16, e17, h⟩ := gb h
          refine ec_getP (ci := 10) (j := 81) ⟨rfl, rfl, rfl⟩ g15 e17 rfl ?_
          refine en_iload rfl rfl ?_
          obtain ⟨g18, h⟩ := gd h
          obtain ⟨g19, h⟩ := gd h
          refine ec_iaload g18 g19 rfl ?_
          refine en_aload rfl rfl ?_
          obtain ⟨r20, e21, h⟩ := gb h
          refine ec_getP (ci := 10) (j := 81) ⟨rfl, rfl, rfl⟩ g15 e21 rfl ?_
          refine en_iload rfl rfl ?_
          obtain ⟨g22, h⟩ := gd h
          obtain ⟨g23, h⟩ := gd h
          refine ec_iaload g22 g23 rfl ?_
          rcases gi h with ⟨c24, h⟩ | ⟨c24, h⟩
          · refine en_icmp_gt_t c24 rfl ?_
            refine ec_iinc (l' := [(5, .int (p5 + (-1 : Int32))), (0, .ref p0), (3, .int p3), (4, .int p4)]) rfl cst_m1 rfl rfl ?_
            refine en_goto rfl ?_
            refine en_sub [1, 2, 3, 0] rfl rfl ?_
            exact ih _ _ _ _ _ _ h o M' hk
          · refine en_icmp_gt_f c24 rfl ?_
            refine en_iload rfl rfl ?_
            refine en_istore (l' := [(4, .int p5), (0, .ref p0), (3, .int p3), (5, .int p5)]) rfl rfl ?_
            refine ec_iinc (l' := [(5, .int (p5 + (-1 : Int32))), (4, .int p5), (0, .ref p0), (3, .int p3)]) rfl cst_m1 rfl rfl ?_
            refine en_goto rfl ?_
            refine en_sub [2, 3, 1, 0] rfl rfl ?_
            exact ih _ _ _ _ _ _ h o M' hk
        · refine en_icmp_lt_f c14 rfl ?_
          refine en_iload rfl rfl ?_
          refine ec_iconst cst_1 rfl ?_
          rcases gi h with ⟨c25, h⟩ | ⟨c25, h⟩
          · refine en_icmp_ne_t c25 rfl ?_
            refine en_aload rfl rfl ?_
            obtain ⟨g26, h⟩ := gd h
            obtain ⟨r27, e28, h⟩ := gb h
            refine ec_getP (ci := 10) (j := 81) ⟨rfl, rfl, rfl⟩ g26 e28 rfl ?_
            refine en_iload rfl rfl ?_
            obtain ⟨g29, h⟩ := gd h
            obtain ⟨g30, h⟩ := gd h
            refine ec_iaload g29 g30 rfl ?_
            refine en_aload rfl rfl ?_
            obtain ⟨r31, e32, h⟩ := gb h
            refine ec_getP (ci := 10) (j := 81) ⟨rfl, rfl, rfl⟩ g26 e32 rfl ?_
            refine en_iload rfl rfl ?_
            obtain ⟨g33, h⟩ := gd h
            obtain ⟨g34, h⟩ := gd h
            refine ec_iaload g33 g34 rfl ?_
            rcases gi h with ⟨c35, h⟩ | ⟨c35, h⟩
            · refine en_icmp_gt_t c35 rfl ?_
              refine ec_iinc (l' := [(5, .int (p5 + (-1 : Int32))), (0, .ref p0), (3, .int p3), (4, .int p4)]) rfl cst_m1 rfl rfl ?_
              refine en_goto rfl ?_
              refine en_sub [1, 2, 3, 0] rfl rfl ?_
              exact ih _ _ _ _ _ _ h o M' hk
            · refine en_icmp_gt_f c35 rfl ?_
              refine en_iload rfl rfl ?_
              refine en_istore (l' := [(4, .int p5), (0, .ref p0), (3, .int p3), (5, .int p5)]) rfl rfl ?_
              refine ec_iinc (l' := [(5, .int (p5 + (-1 : Int32))), (4, .int p5), (0, .ref p0), (3, .int p3)]) rfl cst_m1 rfl rfl ?_
              refine en_goto rfl ?_
              refine en_sub [2, 3, 1, 0] rfl rfl ?_
              exact ih _ _ _ _ _ _ h o M' hk
          · refine en_icmp_ne_f c25 rfl ?_
            cases h
            exact en_sub [2] rfl rfl hk
/-- BulkWriterModel.planned(II)I -/
def f_242 (n : Nat) (a0 : Nat) (a1 : Int32) (a2 : Int32) (C : AmC) : Option (Int32 × AmC) := if isK a0 10 = true then (f_238 n a0 a1 a2 C).bind (fun z => match z with | (q2, C3) => (f_225 n a0 (0 : Int32) C3).bind (fun z => match z with | (_, C6) => (f_241 n a0 a1 a2 C6).bind (fun z => match z with | (_, C9) => (if ¬ q2 = 0 then (lp_242_20 n a0 q2 (3 : Int32) (2 : Int32) C9).bind (fun q => match q with | ((.inl u39), C38) => some (u39, C38) | ((.inr u40), C38) => some (u40, C38)) else some ((0 : Int32), C9))))) else none
set_option maxRecDepth 20000 in
set_option maxHeartbeats 4000000 in
theorem t_242 {n : Nat} {a0 : Nat} {a1 : Int32} {a2 : Int32} {C : AmC} {r : Int32} {C' : AmC} (h : f_242 n a0 a1 a2 C = some (r, C')) : En false 242 0 [(0, .ref a0), (1, .int a1), (2, .int a2)] [] (mkM C) (.inl (some (.int r))) (mkM C') := by
  unfold f_242 at h
  refine en_aload rfl rfl ?_
  refine en_iload rfl rfl ?_
  refine en_iload rfl rfl ?_
  obtain ⟨g1, h⟩ := gd h
  obtain ⟨⟨q2, C3⟩, e4, h⟩ := gb h
  dsimp only at h
  refine ec_callV1 (k' := 238) (n := 3) (rc := 10) (a := a0) (as := [.int a1, .int a2]) ⟨rfl, rfl⟩ rfl rfl (Nat.le_of_ble_eq_true rfl) (Nat.le_of_ble_eq_true rfl) (Nat.le_of_ble_eq_true rfl) g1 rfl (t_238 e4) ?_
  refine en_istore (l' := [(3, .int q2), (0, .ref a0), (1, .int a1), (2, .int a2)]) rfl rfl ?_
  refine en_aload rfl rfl ?_
  refine ec_iconst cst_0 rfl ?_
  obtain ⟨⟨q5, C6⟩, e7, h⟩ := gb h
  dsimp only at h
  refine ec_callV0 (k' := 225) (n := 2) (rc := 10) (a := a0) (as := [.int (0 : Int32)]) ⟨rfl, rfl⟩ rfl rfl (Nat.le_of_ble_eq_true rfl) (Nat.le_of_ble_eq_true rfl) (Nat.le_of_ble_eq_true rfl) g1 rfl (t_225 e7) ?_
  refine en_aload rfl rfl ?_
  refine en_iload rfl rfl ?_
  refine en_iload rfl rfl ?_
  obtain ⟨⟨q8, C9⟩, e10, h⟩ := gb h
  dsimp only at h
  refine ec_callV0 (k' := 241) (n := 3) (rc := 10) (a := a0) (as := [.int a1, .int a2]) ⟨rfl, rfl⟩ rfl rfl (Nat.le_of_ble_eq_true rfl) (Nat.le_of_ble_eq_true rfl) (Nat.le_of_ble_eq_true rfl) g1 rfl (t_241 e10) ?_
  refine en_iload rfl rfl ?_
  rcases gi h with ⟨c11, h⟩ | ⟨c11, h⟩
  · refine en_if_ne_t c11 rfl ?_
    refine ec_iconst cst_3 rfl ?_
    refine en_istore (l' := [(4, .int (3 : Int32)), (3, .int q2), (0, .ref a0), (1, .int a1), (2, .int a2)]) rfl rfl ?_
    refine ec_iconst cst_2 rfl ?_
    refine en_istore (l' := [(5, .int (2 : Int32)), (4, .int (3 : Int32)), (3, .int q2), (0, .ref a0), (1, .int a1), (2, .int a2)]) rfl rfl ?_
    obtain ⟨⟨q36, C38⟩, e37, h⟩ := gb h
    refine en_sub [3, 2, 1, 0] rfl rfl (lt_242_20 n _ _ _ _ _ _ e37 _ _ ?_)
    rcases q36 with u39 | u40
    · dsimp only at h ⊢
      refine en_goto rfl ?_
      refine en_iload rfl rfl ?_
      cases h
      exact en_iret rfl
    · dsimp only at h ⊢
      refine en_iload rfl rfl ?_
      cases h
      exact en_iret rfl
  · refine en_if_ne_f c11 rfl ?_
    refine ec_iconst cst_0 rfl ?_
    cases h
    exact en_iret rfl
/-- BulkWriterModel.paths()I -/
def f_243 (n : Nat) (a0 : Nat) (C : AmC) : Option (Int32 × AmC) := if isK a0 10 = true then (cP C a0 22).bind (fun r2 => if isK r2 12 = true then if amIn (cI C a0 40) (aLen r2) = true then some (((1 : Int32) + ((2 : Int32) * (cI C r2 (Int32.toNatClampNeg (cI C a0 40))))), C) else none else none) else none
set_option maxRecDepth 20000 in
set_option maxHeartbeats 4000000 in
theorem t_243 {n : Nat} {a0 : Nat} {C : AmC} {r : Int32} {C' : AmC} (h : f_243 n a0 C = some (r, C')) : En false 243 0 [(0, .ref a0)] [] (mkM C) (.inl (some (.int r))) (mkM C') := by
  unfold f_243 at h
  refine ec_iconst cst_1 rfl ?_
  refine ec_iconst cst_2 rfl ?_
  refine en_aload rfl rfl ?_
  obtain ⟨g1, h⟩ := gd h
  obtain ⟨r2, e3, h⟩ := gb h
  refine ec_getP (ci := 10) (j := 22) ⟨rfl, rfl, rfl⟩ g1 e3 rfl ?_
  refine en_aload rfl rfl ?_
  refine ec_getI (ci := 10) (j := 40) ⟨rfl, rfl, rfl⟩ g1 rfl ?_
  obtain ⟨g4, h⟩ := gd h
  obtain ⟨g5, h⟩ := gd h
  refine ec_iaload g4 g5 rfl ?_
  refine en_imul rfl ?_
  refine en_iadd rfl ?_
  cases h
  exact en_iret rfl
def lp_244_4 : Nat → Nat → Int32 → Int32 → Int32 → AmC → Option (((Int32)) × AmC)
  | 0, _, _, _, _, _ => none
  | n + 1, p0, p1, p2, p3, C => (if (30 : Int32) ≤ p3 then some (p2, C) else if isK p0 10 = true then (cP C p0 0).bind (fun r3 => if isK r3 12 = true then if amIn (p1 + p3) (aLen r3) = true then lp_244_4 n p0 p1 (p2 + (cI C r3 (Int32.toNatClampNeg (p1 + p3)))) (p3 + (1 : Int32)) C else none else none) else none)
set_option maxRecDepth 20000 in
set_option maxHeartbeats 4000000 in
theorem lt_244_4 : ∀ (n : Nat) (p0 : Nat) (p1 : Int32) (p2 : Int32) (p3 : Int32) (C : AmC) (r : ((Int32)) × AmC), lp_244_4 n p0 p1 p2 p3 C = some r → ∀ (o : AmO) (M' : AmM), (match r with
        | (w2, C') => En false 244 18 [(2, .int w2)] [] (mkM C') o M') → En false 244 4 [(0, .ref p0), (1, .int p1), (2, .int p2), (3, .int p3)] [] (mkM C) o M' := by
  intro n
  induction n with
  | zero => intro p0 p1 p2 p3 C r h; cases h
  | succ n ih =>
    intro p0 p1 p2 p3 C r h o M' hk
    unfold lp_244_4 at h
    refine en_iload rfl rfl ?_
    refine ec_iconst cst_30 rfl ?_
    rcases gi h with ⟨c1, h⟩ | ⟨c1, h⟩
    · refine en_icmp_ge_t c1 rfl ?_
      cases h
      exact en_sub [2] rfl rfl hk
    · refine en_icmp_ge_f c1 rfl ?_
      refine en_iload rfl rfl ?_
      refine en_aload rfl rfl ?_
      obtain ⟨g2, h⟩ := gd h
      obtain ⟨r3, e4, h⟩ := gb h
      refine ec_getP (ci := 10) (j := 0) ⟨rfl, rfl, rfl⟩ g2 e4 rfl ?_
      refine en_iload rfl rfl ?_
      refine en_iload rfl rfl ?_
      refine en_iadd rfl ?_
      obtain ⟨g5, h⟩ := gd h
      obtain ⟨g6, h⟩ := gd h
      refine ec_iaload g5 g6 rfl ?_
      refine en_iadd rfl ?_
      refine en_istore (l' := [(2, .int (p2 + (cI C r3 (Int32.toNatClampNeg (p1 + p3))))), (0, .ref p0), (1, .int p1), (3, .int p3)]) rfl rfl ?_
      refine ec_iinc (l' := [(3, .int (p3 + (1 : Int32))), (2, .int (p2 + (cI C r3 (Int32.toNatClampNeg (p1 + p3))))), (0, .ref p0), (1, .int p1)]) rfl cst_1 rfl rfl ?_
      refine en_goto rfl ?_
      refine en_sub [2, 3, 1, 0] rfl rfl ?_
      exact ih _ _ _ _ _ _ h o M' hk
/-- BulkWriterModel.rowMany(I)I -/
def f_244 (n : Nat) (a0 : Nat) (a1 : Int32) (C : AmC) : Option (Int32 × AmC) := (lp_244_4 n a0 a1 (0 : Int32) (0 : Int32) C).bind (fun q => match q with | (u10, C9) => some (u10, C9))
set_option maxRecDepth 20000 in
set_option maxHeartbeats 4000000 in
theorem t_244 {n : Nat} {a0 : Nat} {a1 : Int32} {C : AmC} {r : Int32} {C' : AmC} (h : f_244 n a0 a1 C = some (r, C')) : En false 244 0 [(0, .ref a0), (1, .int a1)] [] (mkM C) (.inl (some (.int r))) (mkM C') := by
  unfold f_244 at h
  refine ec_iconst cst_0 rfl ?_
  refine en_istore (l' := [(2, .int (0 : Int32)), (0, .ref a0), (1, .int a1)]) rfl rfl ?_
  refine ec_iconst cst_0 rfl ?_
  refine en_istore (l' := [(3, .int (0 : Int32)), (2, .int (0 : Int32)), (0, .ref a0), (1, .int a1)]) rfl rfl ?_
  obtain ⟨⟨q7, C9⟩, e8, h⟩ := gb h
  refine en_sub [2, 3, 1, 0] rfl rfl (lt_244_4 n _ _ _ _ _ _ e8 _ _ ?_)
  revert h e8; revert q7; intro u10 e8 h
  dsimp only at h ⊢
  refine en_iload rfl rfl ?_
  cases h
  exact en_iret rfl
/-- BulkWriterModel.count(I)I -/
def f_245 (n : Nat) (a0 : Nat) (a1 : Int32) (C : AmC) : Option (Int32 × AmC) := if isK a0 10 = true then (f_163 n a1 (0 : Int32) (12 : Int32) (uI C a0 5 (0 : Int32))).bind (fun z => match z with | (q2, C3) => (f_162 n a0 q2 (1 : Int32) C3).bind (fun z => match z with | (q5, C6) => (if ¬ q5 = 0 then (if a1 = (0 : Int32) then (cP C6 a0 21).bind (fun r19 => if isK r19 12 = true then if amIn (cI C6 a0 40) (aLen r19) = true then some ((cI C6 r19 (Int32.toNatClampNeg (cI C6 a0 40))), C6) else none else none) else if a1 = (1 : Int32) then (f_244 n a0 (0 : Int32) C6).bind (fun z => match z with | (q23, C24) => some (q23, C24)) else if a1 = (2 : Int32) then (cP C6 a0 22).bind (fun r26 => if isK r26 12 = true then if amIn (cI C6 a0 40) (aLen r26) = true then some ((cI C6 r26 (Int32.toNatClampNeg (cI C6 a0 40))), C6) else none else none) else if a1 = (3 : Int32) then (cP C6 a0 23).bind (fun r30 => if isK r30 12 = true then if amIn (cI C6 a0 40) (aLen r30) = true then some ((cI C6 r30 (Int32.toNatClampNeg (cI C6 a0 40))), C6) else none else none) else if a1 = (4 : Int32) then (cP C6 a0 24).bind (fun r34 => if isK r34 12 = true then if amIn (cI C6 a0 40) (aLen r34) = true then some ((cI C6 r34 (Int32.toNatClampNeg (cI C6 a0 40))), C6) else none else none) else if a1 = (5 : Int32) then (cP C6 a0 25).bind (fun r38 => if isK r38 12 = true then if amIn (cI C6 a0 40) (aLen r38) = true then some ((cI C6 r38 (Int32.toNatClampNeg (cI C6 a0 40))), C6) else none else none) else if a1 = (6 : Int32) then (f_243 n a0 C6).bind (fun z => match z with | (q42, C43) => some (q42, C43)) else if a1 = (7 : Int32) then some ((cI C6 a0 6), C6) else if a1 = (8 : Int32) then some ((cI C6 a0 8), C6) else if a1 = (9 : Int32) then some ((cI C6 a0 43), C6) else (cP C6 a0 4).bind (fun r45 => if isK r45 12 = true then if amIn (a1 - (10 : Int32)) (aLen r45) = true then some ((cI C6 r45 (Int32.toNatClampNeg (a1 - (10 : Int32)))), C6) else none else none)) else some ((0 : Int32), C6)))) else none
set_option maxRecDepth 20000 in
set_option maxHeartbeats 4000000 in
theorem t_245 {n : Nat} {a0 : Nat} {a1 : Int32} {C : AmC} {r : Int32} {C' : AmC} (h : f_245 n a0 a1 C = some (r, C')) : En false 245 0 [(0, .ref a0), (1, .int a1)] [] (mkM C) (.inl (some (.int r))) (mkM C') := by
  unfold f_245 at h
  refine en_aload rfl rfl ?_
  refine ec_iconst cst_0 rfl ?_
  obtain ⟨g1, h⟩ := gd h
  refine ec_putI (ci := 10) (j := 5) ⟨rfl, rfl, rfl⟩ g1 rfl ?_
  refine en_aload rfl rfl ?_
  refine en_iload rfl rfl ?_
  refine ec_iconst cst_0 rfl ?_
  refine ec_iconst cst_12 rfl ?_
  obtain ⟨⟨q2, C3⟩, e4, h⟩ := gb h
  dsimp only at h
  refine ec_callS1 (k' := 163) (n := 3) (as := [.int a1, .int (0 : Int32), .int (12 : Int32)]) rfl rfl rfl (Nat.le_of_ble_eq_true rfl) (Nat.le_of_ble_eq_true rfl) (Nat.le_of_ble_eq_true rfl) rfl (t_163 e4) ?_
  refine ec_iconst cst_1 rfl ?_
  obtain ⟨⟨q5, C6⟩, e7, h⟩ := gb h
  dsimp only at h
  refine ec_callV1 (k' := 162) (n := 3) (rc := 10) (a := a0) (as := [.int q2, .int (1 : Int32)]) ⟨rfl, rfl⟩ rfl rfl (Nat.le_of_ble_eq_true rfl) (Nat.le_of_ble_eq_true rfl) (Nat.le_of_ble_eq_true rfl) g1 rfl (t_162 e7) ?_
  rcases gi h with ⟨c8, h⟩ | ⟨c8, h⟩
  · refine en_if_ne_t c8 rfl ?_
    refine en_iload rfl rfl ?_
    rcases gi h with ⟨c9, h⟩ | ⟨c9, h⟩
    · refine en_tab_i (t := 15) (by rw [c9]; decide) (by rw [c9]; rfl) rfl ?_
      refine en_aload rfl rfl ?_
      obtain ⟨r19, e20, h⟩ := gb h
      refine ec_getP (ci := 10) (j := 21) ⟨rfl, rfl, rfl⟩ g1 e20 rfl ?_
      refine en_aload rfl rfl ?_
      refine ec_getI (ci := 10) (j := 40) ⟨rfl, rfl, rfl⟩ g1 rfl ?_
      obtain ⟨g21, h⟩ := gd h
      obtain ⟨g22, h⟩ := gd h
      refine ec_iaload g21 g22 rfl ?_
      cases h
      exact en_iret rfl
    ·
      rcases gi h with ⟨c10, h⟩ | ⟨c10, h⟩
      · refine en_tab_i (t := 21) (by rw [c10]; decide) (by rw [c10]; rfl) rfl ?_
        refine en_aload rfl rfl ?_
        refine ec_iconst cst_0 rfl ?_
        obtain ⟨⟨q23, C24⟩, e25, h⟩ := gb h
        dsimp only at h
        refine ec_callV1 (k' := 244) (n := 2) (rc := 10) (a := a0) (as := [.int (0 : Int32)]) ⟨rfl, rfl⟩ rfl rfl (Nat.le_of_ble_eq_true rfl) (Nat.le_of_ble_eq_true rfl) (Nat.le_of_ble_eq_true rfl) g1 rfl (t_244 e25) ?_
        cases h
        exact en_iret rfl
      ·
        rcases gi h with ⟨c11, h⟩ | ⟨c11, h⟩
        · refine en_tab_i (t := 25) (by rw [c11]; decide) (by rw [c11]; rfl) rfl ?_
          refine en_aload rfl rfl ?_
          obtain ⟨r26, e27, h⟩ := gb h
          refine ec_getP (ci := 10) (j := 22) ⟨rfl, rfl, rfl⟩ g1 e27 rfl ?_
          refine en_aload rfl rfl ?_
          refine ec_getI (ci := 10) (j := 40) ⟨rfl, rfl, rfl⟩ g1 rfl ?_
          obtain ⟨g28, h⟩ := gd h
          obtain ⟨g29, h⟩ := gd h
          refine ec_iaload g28 g29 rfl ?_
          cases h
          exact en_iret rfl
        ·
          rcases gi h with ⟨c12, h⟩ | ⟨c12, h⟩
          · refine en_tab_i (t := 31) (by rw [c12]; decide) (by rw [c12]; rfl) rfl ?_
            refine en_aload rfl rfl ?_
            obtain ⟨r30, e31, h⟩ := gb h
            refine ec_getP (ci := 10) (j := 23) ⟨rfl, rfl, rfl⟩ g1 e31 rfl ?_
            refine en_aload rfl rfl ?_
            refine ec_getI (ci := 10) (j := 40) ⟨rfl, rfl, rfl⟩ g1 rfl ?_
            obtain ⟨g32, h⟩ := gd h
            obtain ⟨g33, h⟩ := gd h
            refine ec_iaload g32 g33 rfl ?_
            cases h
            exact en_iret rfl
          ·
            rcases gi h with ⟨c13, h⟩ | ⟨c13, h⟩
            · refine en_tab_i (t := 37) (by rw [c13]; decide) (by rw [c13]; rfl) rfl ?_
              refine en_aload rfl rfl ?_
              obtain ⟨r34, e35, h⟩ := gb h
              refine ec_getP (ci := 10) (j := 24) ⟨rfl, rfl, rfl⟩ g1 e35 rfl ?_
              refine en_aload rfl rfl ?_
              refine ec_getI (ci := 10) (j := 40) ⟨rfl, rfl, rfl⟩ g1 rfl ?_
              obtain ⟨g36, h⟩ := gd h
              obtain ⟨g37, h⟩ := gd h
              refine ec_iaload g36 g37 rfl ?_
              cases h
              exact en_iret rfl
            ·
              rcases gi h with ⟨c14, h⟩ | ⟨c14, h⟩
              · refine en_tab_i (t := 43) (by rw [c14]; decide) (by rw [c14]; rfl) rfl ?_
                refine en_aload rfl rfl ?_
                obtain ⟨r38, e39, h⟩ := gb h
                refine ec_getP (ci := 10) (j := 25) ⟨rfl, rfl, rfl⟩ g1 e39 rfl ?_
                refine en_aload rfl rfl ?_
                refine ec_getI (ci := 10) (j := 40) ⟨rfl, rfl, rfl⟩ g1 rfl ?_
                obtain ⟨g40, h⟩ := gd h
                obtain ⟨g41, h⟩ := gd h
                refine ec_iaload g40 g41 rfl ?_
                cases h
                exact en_iret rfl
              ·
                rcases gi h with ⟨c15, h⟩ | ⟨c15, h⟩
                · refine en_tab_i (t := 49) (by rw [c15]; decide) (by rw [c15]; rfl) rfl ?_
                  refine en_aload rfl rfl ?_
                  obtain ⟨⟨q42, C43⟩, e44, h⟩ := gb h
                  dsimp only at h
                  refine ec_callV1 (k' := 243) (n := 1) (rc := 10) (a := a0) (as := []) ⟨rfl, rfl⟩ rfl rfl (Nat.le_of_ble_eq_true rfl) (Nat.le_of_ble_eq_true rfl) (Nat.le_of_ble_eq_true rfl) g1 rfl (t_243 e44) ?_
                  cases h
                  exact en_iret rfl
                ·
                  rcases gi h with ⟨c16, h⟩ | ⟨c16, h⟩
                  · refine en_tab_i (t := 52) (by rw [c16]; decide) (by rw [c16]; rfl) rfl ?_
                    refine en_aload rfl rfl ?_
                    refine ec_getI (ci := 10) (j := 6) ⟨rfl, rfl, rfl⟩ g1 rfl ?_
                    cases h
                    exact en_iret rfl
                  ·
                    rcases gi h with ⟨c17, h⟩ | ⟨c17, h⟩
                    · refine en_tab_i (t := 55) (by rw [c17]; decide) (by rw [c17]; rfl) rfl ?_
                      refine en_aload rfl rfl ?_
                      refine ec_getI (ci := 10) (j := 8) ⟨rfl, rfl, rfl⟩ g1 rfl ?_
                      cases h
                      exact en_iret rfl
                    ·
                      rcases gi h with ⟨c18, h⟩ | ⟨c18, h⟩
                      · refine en_tab_i (t := 58) (by rw [c18]; decide) (by rw [c18]; rfl) rfl ?_
                        refine en_aload rfl rfl ?_
                        refine ec_getI (ci := 10) (j := 43) ⟨rfl, rfl, rfl⟩ g1 rfl ?_
                        cases h
                        exact en_iret rfl
                      ·
                        refine en_tab_o (by have z0 := ne_toInt c9 (v := 0) (by decide); have z1 := ne_toInt c10 (v := 1) (by decide); have z2 := ne_toInt c11 (v := 2) (by decide); have z3 := ne_toInt c12 (v := 3) (by decide); have z4 := ne_toInt c13 (v := 4) (by decide); have z5 := ne_toInt c14 (v := 5) (by decide); have z6 := ne_toInt c15 (v := 6) (by decide); have z7 := ne_toInt c16 (v := 7) (by decide); have z8 := ne_toInt c17 (v := 8) (by decide); have z9 := ne_toInt c18 (v := 9) (by decide); omega) rfl ?_
                        refine en_aload rfl rfl ?_
                        obtain ⟨r45, e46, h⟩ := gb h
                        refine ec_getP (ci := 10) (j := 4) ⟨rfl, rfl, rfl⟩ g1 e46 rfl ?_
                        refine en_iload rfl rfl ?_
                        refine ec_iconst cst_10 rfl ?_
                        refine en_isub rfl ?_
                        obtain ⟨g47, h⟩ := gd h
                        obtain ⟨g48, h⟩ := gd h
                        refine ec_iaload g47 g48 rfl ?_
                        cases h
                        exact en_iret rfl
  · refine en_if_ne_f c8 rfl ?_
    refine ec_iconst cst_0 rfl ?_
    cases h
    exact en_iret rfl
/-- BulkWriterModel.isCell(II)Z -/
def f_246 (n : Nat) (a0 : Nat) (a1 : Int32) (a2 : Int32) (C : AmC) : Option (Int32 × AmC) := (f_163 n a1 (0 : Int32) (29 : Int32) C).bind (fun z => match z with | (q1, C2) => (if q1 = 0 then if isK a0 10 = true then (f_162 n a0 (0 : Int32) (1 : Int32) C2).bind (fun z => match z with | (q6, C7) => if q6 = 0 ∨ q6 = 1 then some (q6, C7) else none) else none else if isK a0 10 = true then (cP C2 a0 21).bind (fun r11 => if isK r11 12 = true then if amIn (cI C2 a0 40) (aLen r11) = true then (f_163 n a2 (0 : Int32) ((cI C2 r11 (Int32.toNatClampNeg (cI C2 a0 40))) - (1 : Int32)) C2).bind (fun z => match z with | (q15, C16) => (if q15 = 0 then (f_162 n a0 (0 : Int32) (1 : Int32) C16).bind (fun z => match z with | (q19, C20) => if q19 = 0 ∨ q19 = 1 then some (q19, C20) else none) else (f_162 n a0 (1 : Int32) (1 : Int32) C16).bind (fun z => match z with | (q23, C24) => if q23 = 0 ∨ q23 = 1 then some (q23, C24) else none))) else none else none) else none))
set_option maxRecDepth 20000 in
set_option maxHeartbeats 4000000 in
theorem t_246 {n : Nat} {a0 : Nat} {a1 : Int32} {a2 : Int32} {C : AmC} {r : Int32} {C' : AmC} (h : f_246 n a0 a1 a2 C = some (r, C')) : En false 246 0 [(0, .ref a0), (1, .int a1), (2, .int a2)] [] (mkM C) (.inl (some (.int r))) (mkM C') := by
  unfold f_246 at h
  refine en_aload rfl rfl ?_
  refine en_iload rfl rfl ?_
  refine ec_iconst cst_0 rfl ?_
  refine ec_iconst cst_29 rfl ?_
  obtain ⟨⟨q1, C2⟩, e3, h⟩ := gb h
  dsimp only at h
  refine ec_callS1 (k' := 163) (n := 3) (as := [.int a1, .int (0 : Int32), .int (29 : Int32)]) rfl rfl rfl (Nat.le_of_ble_eq_true rfl) (Nat.le_of_ble_eq_true rfl) (Nat.le_of_ble_eq_true rfl) rfl (t_163 e3) ?_
  rcases gi h with ⟨c4, h⟩ | ⟨c4, h⟩
  · refine en_if_eq_t c4 rfl ?_
    refine ec_iconst cst_0 rfl ?_
    refine ec_iconst cst_1 rfl ?_
    obtain ⟨g5, h⟩ := gd h
    obtain ⟨⟨q6, C7⟩, e8, h⟩ := gb h
    dsimp only at h
    refine ec_callV1 (k' := 162) (n := 3) (rc := 10) (a := a0) (as := [.int (0 : Int32), .int (1 : Int32)]) ⟨rfl, rfl⟩ rfl rfl (Nat.le_of_ble_eq_true rfl) (Nat.le_of_ble_eq_true rfl) (Nat.le_of_ble_eq_true rfl) g5 rfl (t_162 e8) ?_
    obtain ⟨g9, h⟩ := gd h
    cases h
    exact en_zret g9 rfl
  · refine en_if_eq_f c4 rfl ?_
    refine en_iload rfl rfl ?_
    refine ec_iconst cst_0 rfl ?_
    refine en_aload rfl rfl ?_
    obtain ⟨g10, h⟩ := gd h
    obtain ⟨r11, e12, h⟩ := gb h
    refine ec_getP (ci := 10) (j := 21) ⟨rfl, rfl, rfl⟩ g10 e12 rfl ?_
    refine en_aload rfl rfl ?_
    refine ec_getI (ci := 10) (j := 40) ⟨rfl, rfl, rfl⟩ g10 rfl ?_
    obtain ⟨g13, h⟩ := gd h
    obtain ⟨g14, h⟩ := gd h
    refine ec_iaload g13 g14 rfl ?_
    refine ec_iconst cst_1 rfl ?_
    refine en_isub rfl ?_
    obtain ⟨⟨q15, C16⟩, e17, h⟩ := gb h
    dsimp only at h
    refine ec_callS1 (k' := 163) (n := 3) (as := [.int a2, .int (0 : Int32), .int ((cI C2 r11 (Int32.toNatClampNeg (cI C2 a0 40))) - (1 : Int32))]) rfl rfl rfl (Nat.le_of_ble_eq_true rfl) (Nat.le_of_ble_eq_true rfl) (Nat.le_of_ble_eq_true rfl) rfl (t_163 e17) ?_
    rcases gi h with ⟨c18, h⟩ | ⟨c18, h⟩
    · refine en_if_eq_t c18 rfl ?_
      refine ec_iconst cst_0 rfl ?_
      refine ec_iconst cst_1 rfl ?_
      obtain ⟨⟨q19, C20⟩, e21, h⟩ := gb h
      dsimp only at h
      refine ec_callV1 (k' := 162) (n := 3) (rc := 10) (a := a0) (as := [.int (0 : Int32), .int (1 : Int32)]) ⟨rfl, rfl⟩ rfl rfl (Nat.le_of_ble_eq_true rfl) (Nat.le_of_ble_eq_true rfl) (Nat.le_of_ble_eq_true rfl) g10 rfl (t_162 e21) ?_
      obtain ⟨g22, h⟩ := gd h
      cases h
      exact en_zret g22 rfl
    · refine en_if_eq_f c18 rfl ?_
      refine ec_iconst cst_1 rfl ?_
      refine en_goto rfl ?_
      refine ec_iconst cst_1 rfl ?_
      obtain ⟨⟨q23, C24⟩, e25, h⟩ := gb h
      dsimp only at h
      refine ec_callV1 (k' := 162) (n := 3) (rc := 10) (a := a0) (as := [.int (1 : Int32), .int (1 : Int32)]) ⟨rfl, rfl⟩ rfl rfl (Nat.le_of_ble_eq_true rfl) (Nat.le_of_ble_eq_true rfl) (Nat.le_of_ble_eq_true rfl) g10 rfl (t_162 e25) ?_
      obtain ⟨g26, h⟩ := gd h
      cases h
      exact en_zret g26 rfl
/-- BulkWriterModel.cell(II)I -/
def f_247 (n : Nat) (a0 : Nat) (a1 : Int32) (a2 : Int32) (C : AmC) : Option (Int32 × AmC) := if isK a0 10 = true then (f_246 n a0 a1 a2 (uI C a0 5 (0 : Int32))).bind (fun z => match z with | (q2, C3) => (if ¬ q2 = 0 then (cP C3 a0 0).bind (fun r6 => if isK r6 12 = true then if amIn a1 (aLen r6) = true then (if ¬ (cI C3 r6 (Int32.toNatClampNeg a1)) = 0 then (cP C3 a0 0).bind (fun r11 => if isK r11 12 = true then if amIn (((30 : Int32) + ((4 : Int32) * a1)) + a2) (aLen r11) = true then some ((cI C3 r11 (Int32.toNatClampNeg (((30 : Int32) + ((4 : Int32) * a1)) + a2))), C3) else none else none) else some ((-100000 : Int32), C3)) else none else none) else some ((0 : Int32), C3))) else none
set_option maxRecDepth 20000 in
set_option maxHeartbeats 4000000 in
theorem t_247 {n : Nat} {a0 : Nat} {a1 : Int32} {a2 : Int32} {C : AmC} {r : Int32} {C' : AmC} (h : f_247 n a0 a1 a2 C = some (r, C')) : En false 247 0 [(0, .ref a0), (1, .int a1), (2, .int a2)] [] (mkM C) (.inl (some (.int r))) (mkM C') := by
  unfold f_247 at h
  refine en_aload rfl rfl ?_
  refine ec_iconst cst_0 rfl ?_
  obtain ⟨g1, h⟩ := gd h
  refine ec_putI (ci := 10) (j := 5) ⟨rfl, rfl, rfl⟩ g1 rfl ?_
  refine en_aload rfl rfl ?_
  refine en_iload rfl rfl ?_
  refine en_iload rfl rfl ?_
  obtain ⟨⟨q2, C3⟩, e4, h⟩ := gb h
  dsimp only at h
  refine ec_callV1 (k' := 246) (n := 3) (rc := 10) (a := a0) (as := [.int a1, .int a2]) ⟨rfl, rfl⟩ rfl rfl (Nat.le_of_ble_eq_true rfl) (Nat.le_of_ble_eq_true rfl) (Nat.le_of_ble_eq_true rfl) g1 rfl (t_246 e4) ?_
  rcases gi h with ⟨c5, h⟩ | ⟨c5, h⟩
  · refine en_if_ne_t c5 rfl ?_
    refine en_aload rfl rfl ?_
    obtain ⟨r6, e7, h⟩ := gb h
    refine ec_getP (ci := 10) (j := 0) ⟨rfl, rfl, rfl⟩ g1 e7 rfl ?_
    refine en_iload rfl rfl ?_
    obtain ⟨g8, h⟩ := gd h
    obtain ⟨g9, h⟩ := gd h
    refine ec_iaload g8 g9 rfl ?_
    rcases gi h with ⟨c10, h⟩ | ⟨c10, h⟩
    · refine en_if_ne_t c10 rfl ?_
      refine en_aload rfl rfl ?_
      obtain ⟨r11, e12, h⟩ := gb h
      refine ec_getP (ci := 10) (j := 0) ⟨rfl, rfl, rfl⟩ g1 e12 rfl ?_
      refine ec_iconst cst_30 rfl ?_
      refine ec_iconst cst_4 rfl ?_
      refine en_iload rfl rfl ?_
      refine en_imul rfl ?_
      refine en_iadd rfl ?_
      refine en_iload rfl rfl ?_
      refine en_iadd rfl ?_
      obtain ⟨g13, h⟩ := gd h
      obtain ⟨g14, h⟩ := gd h
      refine ec_iaload g13 g14 rfl ?_
      cases h
      exact en_iret rfl
    · refine en_if_ne_f c10 rfl ?_
      refine ec_iconst cst_m100000 rfl ?_
      refine en_goto rfl ?_
      cases h
      exact en_iret rfl
  · refine en_if_ne_f c5 rfl ?_
    refine ec_iconst cst_0 rfl ?_
    cases h
    exact en_iret rfl
/-- BulkWriterModel.isPath(I)Z -/
def f_248 (n : Nat) (a0 : Nat) (a1 : Int32) (C : AmC) : Option (Int32 × AmC) := if isK a0 10 = true then (f_243 n a0 C).bind (fun z => match z with | (q2, C3) => (f_163 n a1 (0 : Int32) (q2 - (1 : Int32)) C3).bind (fun z => match z with | (q5, C6) => (f_162 n a0 q5 (1 : Int32) C6).bind (fun z => match z with | (q8, C9) => if q8 = 0 ∨ q8 = 1 then some (q8, C9) else none))) else none
set_option maxRecDepth 20000 in
set_option maxHeartbeats 4000000 in
theorem t_248 {n : Nat} {a0 : Nat} {a1 : Int32} {C : AmC} {r : Int32} {C' : AmC} (h : f_248 n a0 a1 C = some (r, C')) : En false 248 0 [(0, .ref a0), (1, .int a1)] [] (mkM C) (.inl (some (.int r))) (mkM C') := by
  unfold f_248 at h
  refine en_aload rfl rfl ?_
  refine en_iload rfl rfl ?_
  refine ec_iconst cst_0 rfl ?_
  refine en_aload rfl rfl ?_
  obtain ⟨g1, h⟩ := gd h
  obtain ⟨⟨q2, C3⟩, e4, h⟩ := gb h
  dsimp only at h
  refine ec_callV1 (k' := 243) (n := 1) (rc := 10) (a := a0) (as := []) ⟨rfl, rfl⟩ rfl rfl (Nat.le_of_ble_eq_true rfl) (Nat.le_of_ble_eq_true rfl) (Nat.le_of_ble_eq_true rfl) g1 rfl (t_243 e4) ?_
  refine ec_iconst cst_1 rfl ?_
  refine en_isub rfl ?_
  obtain ⟨⟨q5, C6⟩, e7, h⟩ := gb h
  dsimp only at h
  refine ec_callS1 (k' := 163) (n := 3) (as := [.int a1, .int (0 : Int32), .int (q2 - (1 : Int32))]) rfl rfl rfl (Nat.le_of_ble_eq_true rfl) (Nat.le_of_ble_eq_true rfl) (Nat.le_of_ble_eq_true rfl) rfl (t_163 e7) ?_
  refine ec_iconst cst_1 rfl ?_
  obtain ⟨⟨q8, C9⟩, e10, h⟩ := gb h
  dsimp only at h
  refine ec_callV1 (k' := 162) (n := 3) (rc := 10) (a := a0) (as := [.int q5, .int (1 : Int32)]) ⟨rfl, rfl⟩ rfl rfl (Nat.le_of_ble_eq_true rfl) (Nat.le_of_ble_eq_true rfl) (Nat.le_of_ble_eq_true rfl) g1 rfl (t_162 e10) ?_
  obtain ⟨g11, h⟩ := gd h
  cases h
  exact en_zret g11 rfl
def lp_249_36 : Nat → Nat → Int32 → Int32 → Int32 → AmC → Option (((Int32)) × AmC)
  | 0, _, _, _, _, _ => none
  | n + 1, p0, p2, p3, p4, C => (if p2 < p4 then some (p3, C) else if isK p0 10 = true then (f_205 n p0 (0 : Int32) C).bind (fun z => match z with | (q19, C20) => lp_249_36 n p0 p2 q19 (p4 + (1 : Int32)) C20) else none)
set_option maxRecDepth 20000 in
set_option maxHeartbeats 4000000 in
theorem lt_249_36 : ∀ (n : Nat) (p0 : Nat) (p2 : Int32) (p3 : Int32) (p4 : Int32) (C : AmC) (r : ((Int32)) × AmC), lp_249_36 n p0 p2 p3 p4 C = some r → ∀ (o : AmO) (M' : AmM), (match r with
        | (w3, C') => En false 249 45 [(3, .int w3)] [] (mkM C') o M') → En false 249 36 [(0, .ref p0), (2, .int p2), (3, .int p3), (4, .int p4)] [] (mkM C) o M' := by
  intro n
  induction n with
  | zero => intro p0 p2 p3 p4 C r h; cases h
  | succ n ih =>
    intro p0 p2 p3 p4 C r h o M' hk
    unfold lp_249_36 at h
    refine en_iload rfl rfl ?_
    refine en_iload rfl rfl ?_
    rcases gi h with ⟨c17, h⟩ | ⟨c17, h⟩
    · refine en_icmp_gt_t c17 rfl ?_
      cases h
      exact en_sub [2] rfl rfl hk
    · refine en_icmp_gt_f c17 rfl ?_
      refine en_aload rfl rfl ?_
      refine ec_iconst cst_0 rfl ?_
      obtain ⟨g18, h⟩ := gd h
      obtain ⟨⟨q19, C20⟩, e21, h⟩ := gb h
      dsimp only at h
      refine ec_callV1 (k' := 205) (n := 2) (rc := 10) (a := p0) (as := [.int (0 : Int32)]) ⟨rfl, rfl⟩ rfl rfl (Nat.le_of_ble_eq_true rfl) (Nat.le_of_ble_eq_true rfl) (Nat.le_of_ble_eq_true rfl) g18 rfl (t_205 e21) ?_
      refine en_istore (l' := [(3, .int q19), (0, .ref p0), (2, .int p2), (4, .int p4)]) rfl rfl ?_
      refine ec_iinc (l' := [(4, .int (p4 + (1 : Int32))), (3, .int q19), (0, .ref p0), (2, .int p2)]) rfl cst_1 rfl rfl ?_
      refine en_goto rfl ?_
      refine en_sub [2, 3, 1, 0] rfl rfl ?_
      exact ih _ _ _ _ _ _ h o M' hk
/-- BulkWriterModel.along(II)I -/
def f_249 (n : Nat) (a0 : Nat) (a1 : Int32) (a2 : Int32) (C : AmC) : Option (Int32 × AmC) := if isK a0 10 = true then (f_248 n a0 a1 (uI C a0 5 (0 : Int32))).bind (fun z => match z with | (q2, C3) => (if q2 = 0 then some ((0 : Int32), C3) else (if a2 < 0 then (f_162 n a0 (0 : Int32) (1 : Int32) C3).bind (fun z => match z with | (q7, C8) => (if ¬ q7 = 0 then (f_225 n a0 (0 : Int32) C8).bind (fun z => match z with | (_, C12) => (f_204 n a0 a1 (uI C12 a0 59 (-1 : Int32))).bind (fun z => match z with | (_, C15) => (lp_249_36 n a0 a2 (-1 : Int32) (0 : Int32) C15).bind (fun q => match q with | (u25, C24) => some (u25, C24)))) else some ((0 : Int32), C8))) else (f_244 n a0 (0 : Int32) C3).bind (fun z => match z with | (q26, C27) => (if q26 ≤ a2 then (f_162 n a0 (0 : Int32) (1 : Int32) C27).bind (fun z => match z with | (q30, C31) => (if ¬ q30 = 0 then (f_225 n a0 (0 : Int32) C31).bind (fun z => match z with | (_, C35) => (f_204 n a0 a1 (uI C35 a0 59 (-1 : Int32))).bind (fun z => match z with | (_, C38) => (lp_249_36 n a0 a2 (-1 : Int32) (0 : Int32) C38).bind (fun q => match q with | (u43, C42) => some (u43, C42)))) else some ((0 : Int32), C31))) else (f_162 n a0 (1 : Int32) (1 : Int32) C27).bind (fun z => match z with | (q44, C45) => (if ¬ q44 = 0 then (f_225 n a0 (0 : Int32) C45).bind (fun z => match z with | (_, C49) => (f_204 n a0 a1 (uI C49 a0 59 (-1 : Int32))).bind (fun z => match z with | (_, C52) => (lp_249_36 n a0 a2 (-1 : Int32) (0 : Int32) C52).bind (fun q => match q with | (u57, C56) => some (u57, C56)))) else some ((0 : Int32), C45)))))))) else none
set_option maxRecDepth 20000 in
set_option maxHeartbeats 4000000 in
theorem t_249 {n : Nat} {a0 : Nat} {a1 : Int32} {a2 : Int32} {C : AmC} {r : Int32} {C' : AmC} (h : f_249 n a0 a1 a2 C = some (r, C')) : En false 249 0 [(0, .ref a0), (1, .int a1), (2, .int a2)] [] (mkM C) (.inl (some (.int r))) (mkM C') := by
  unfold f_249 at h
  refine en_aload rfl rfl ?_
  refine ec_iconst cst_0 rfl ?_
  obtain ⟨g1, h⟩ := gd h
  refine ec_putI (ci := 10) (j := 5) ⟨rfl, rfl, rfl⟩ g1 rfl ?_
  refine en_aload rfl rfl ?_
  refine en_iload rfl rfl ?_
  obtain ⟨⟨q2, C3⟩, e4, h⟩ := gb h
  dsimp only at h
  refine ec_callV1 (k' := 248) (n := 2) (rc := 10) (a := a0) (as := [.int a1]) ⟨rfl, rfl⟩ rfl rfl (Nat.le_of_ble_eq_true rfl) (Nat.le_of_ble_eq_true rfl) (Nat.le_of_ble_eq_true rfl) g1 rfl (t_248 e4) ?_
  rcases gi h with ⟨c5, h⟩ | ⟨c5, h⟩
  · refine en_if_eq_t c5 rfl ?_
    refine ec_iconst cst_0 rfl ?_
    cases h
    exact en_iret rfl
  · refine en_if_eq_f c5 rfl ?_
    refine en_aload rfl rfl ?_
    refine en_iload rfl rfl ?_
    rcases gi h with ⟨c6, h⟩ | ⟨c6, h⟩
    · refine en_if_lt_t c6 rfl ?_
      refine ec_iconst cst_0 rfl ?_
      refine ec_iconst cst_1 rfl ?_
      obtain ⟨⟨q7, C8⟩, e9, h⟩ := gb h
      dsimp only at h
      refine ec_callV1 (k' := 162) (n := 3) (rc := 10) (a := a0) (as := [.int (0 : Int32), .int (1 : Int32)]) ⟨rfl, rfl⟩ rfl rfl (Nat.le_of_ble_eq_true rfl) (Nat.le_of_ble_eq_true rfl) (Nat.le_of_ble_eq_true rfl) g1 rfl (t_162 e9) ?_
      rcases gi h with ⟨c10, h⟩ | ⟨c10, h⟩
      · refine en_if_ne_t c10 rfl ?_
        refine en_aload rfl rfl ?_
        refine ec_iconst cst_0 rfl ?_
        obtain ⟨⟨q11, C12⟩, e13, h⟩ := gb h
        dsimp only at h
        refine ec_callV0 (k' := 225) (n := 2) (rc := 10) (a := a0) (as := [.int (0 : Int32)]) ⟨rfl, rfl⟩ rfl rfl (Nat.le_of_ble_eq_true rfl) (Nat.le_of_ble_eq_true rfl) (Nat.le_of_ble_eq_true rfl) g1 rfl (t_225 e13) ?_
        refine en_aload rfl rfl ?_
        refine ec_iconst cst_m1 rfl ?_
        refine ec_putI (ci := 10) (j := 59) ⟨rfl, rfl, rfl⟩ g1 rfl ?_
        refine en_aload rfl rfl ?_
        refine en_iload rfl rfl ?_
        obtain ⟨⟨q14, C15⟩, e16, h⟩ := gb h
        dsimp only at h
        refine ec_callV0 (k' := 204) (n := 2) (rc := 10) (a := a0) (as := [.int a1]) ⟨rfl, rfl⟩ rfl rfl (Nat.le_of_ble_eq_true rfl) (Nat.le_of_ble_eq_true rfl) (Nat.le_of_ble_eq_true rfl) g1 rfl (t_204 e16) ?_
        refine ec_iconst cst_m1 rfl ?_
        refine en_istore (l' := [(3, .int (-1 : Int32)), (0, .ref a0), (1, .int a1), (2, .int a2)]) rfl rfl ?_
        refine ec_iconst cst_0 rfl ?_
        refine en_istore (l' := [(4, .int (0 : Int32)), (3, .int (-1 : Int32)), (0, .ref a0), (1, .int a1), (2, .int a2)]) rfl rfl ?_
        obtain ⟨⟨q22, C24⟩, e23, h⟩ := gb h
        refine en_sub [2, 4, 1, 0] rfl rfl (lt_249_36 n _ _ _ _ _ _ e23 _ _ ?_)
        revert h e23; revert q22; intro u25 e23 h
        dsimp only at h ⊢
        refine en_iload rfl rfl ?_
        cases h
        exact en_iret rfl
      · refine en_if_ne_f c10 rfl ?_
        refine ec_iconst cst_0 rfl ?_
        cases h
        exact en_iret rfl
    · refine en_if_lt_f c6 rfl ?_
      refine en_iload rfl rfl ?_
      refine en_aload rfl rfl ?_
      refine ec_iconst cst_0 rfl ?_
      obtain ⟨⟨q26, C27⟩, e28, h⟩ := gb h
      dsimp only at h
      refine ec_callV1 (k' := 244) (n := 2) (rc := 10) (a := a0) (as := [.int (0 : Int32)]) ⟨rfl, rfl⟩ rfl rfl (Nat.le_of_ble_eq_true rfl) (Nat.le_of_ble_eq_true rfl) (Nat.le_of_ble_eq_true rfl) g1 rfl (t_244 e28) ?_
      rcases gi h with ⟨c29, h⟩ | ⟨c29, h⟩
      · refine en_icmp_ge_t c29 rfl ?_
        refine ec_iconst cst_0 rfl ?_
        refine ec_iconst cst_1 rfl ?_
        obtain ⟨⟨q30, C31⟩, e32, h⟩ := gb h
        dsimp only at h
        refine ec_callV1 (k' := 162) (n := 3) (rc := 10) (a := a0) (as := [.int (0 : Int32), .int (1 : Int32)]) ⟨rfl, rfl⟩ rfl rfl (Nat.le_of_ble_eq_true rfl) (Nat.le_of_ble_eq_true rfl) (Nat.le_of_ble_eq_true rfl) g1 rfl (t_162 e32) ?_
        rcases gi h with ⟨c33, h⟩ | ⟨c33, h⟩
        · refine en_if_ne_t c33 rfl ?_
          refine en_aload rfl rfl ?_
          refine ec_iconst cst_0 rfl ?_
          obtain ⟨⟨q34, C35⟩, e36, h⟩ := gb h
          dsimp only at h
          refine ec_callV0 (k' := 225) (n := 2) (rc := 10) (a := a0) (as := [.int (0 : Int32)]) ⟨rfl, rfl⟩ rfl rfl (Nat.le_of_ble_eq_true rfl) (Nat.le_of_ble_eq_true rfl) (Nat.le_of_ble_eq_true rfl) g1 rfl (t_225 e36) ?_
          refine en_aload rfl rfl ?_
          refine ec_iconst cst_m1 rfl ?_
          refine ec_putI (ci := 10) (j := 59) ⟨rfl, rfl, rfl⟩ g1 rfl ?_
          refine en_aload rfl rfl ?_
          refine en_iload rfl rfl ?_
          obtain ⟨⟨q37, C38⟩, e39, h⟩ := gb h
          dsimp only at h
          refine ec_callV0 (k' := 204) (n := 2) (rc := 10) (a := a0) (as := [.int a1]) ⟨rfl, rfl⟩ rfl rfl (Nat.le_of_ble_eq_true rfl) (Nat.le_of_ble_eq_true rfl) (Nat.le_of_ble_eq_true rfl) g1 rfl (t_204 e39) ?_
          refine ec_iconst cst_m1 rfl ?_
          refine en_istore (l' := [(3, .int (-1 : Int32)), (0, .ref a0), (1, .int a1), (2, .int a2)]) rfl rfl ?_
          refine ec_iconst cst_0 rfl ?_
          refine en_istore (l' := [(4, .int (0 : Int32)), (3, .int (-1 : Int32)), (0, .ref a0), (1, .int a1), (2, .int a2)]) rfl rfl ?_
          obtain ⟨⟨q40, C42⟩, e41, h⟩ := gb h
          refine en_sub [2, 4, 1, 0] rfl rfl (lt_249_36 n _ _ _ _ _ _ e41 _ _ ?_)
          revert h e41; revert q40; intro u43 e41 h
          dsimp only at h ⊢
          refine en_iload rfl rfl ?_
          cases h
          exact en_iret rfl
        · refine en_if_ne_f c33 rfl ?_
          refine ec_iconst cst_0 rfl ?_
          cases h
          exact en_iret rfl
      · refine en_icmp_ge_f c29 rfl ?_
        refine ec_iconst cst_1 rfl ?_
        refine en_goto rfl ?_
        refine ec_iconst cst_1 rfl ?_
        obtain ⟨⟨q44, C45⟩, e46, h⟩ := gb h
        dsimp only at h
        refine ec_callV1 (k' := 162) (n := 3) (rc := 10) (a := a0) (as := [.int (1 : Int32), .int (1 : Int32)]) ⟨rfl, rfl⟩ rfl rfl (Nat.le_of_ble_eq_true rfl) (Nat.le_of_ble_eq_true rfl) (Nat.le_of_ble_eq_true rfl) g1 rfl (t_162 e46) ?_
        rcases gi h with ⟨c47, h⟩ | ⟨c47, h⟩
        · refine en_if_ne_t c47 rfl ?_
          refine en_aload rfl rfl ?_
          refine ec_iconst cst_0 rfl ?_
          obtain ⟨⟨q48, C49⟩, e50, h⟩ := gb h
          dsimp only at h
          refine ec_callV0 (k' := 225) (n := 2) (rc := 10) (a := a0) (as := [.int (0 : Int32)]) ⟨rfl, rfl⟩ rfl rfl (Nat.le_of_ble_eq_true rfl) (Nat.le_of_ble_eq_true rfl) (Nat.le_of_ble_eq_true rfl) g1 rfl (t_225 e50) ?_
          refine en_aload rfl rfl ?_
          refine ec_iconst cst_m1 rfl ?_
          refine ec_putI (ci := 10) (j := 59) ⟨rfl, rfl, rfl⟩ g1 rfl ?_
          refine en_aload rfl rfl ?_
          refine en_iload rfl rfl ?_
          obtain ⟨⟨q51, C52⟩, e53, h⟩ := gb h
          dsimp only at h
          refine ec_callV0 (k' := 204) (n := 2) (rc := 10) (a := a0) (as := [.int a1]) ⟨rfl, rfl⟩ rfl rfl (Nat.le_of_ble_eq_true rfl) (Nat.le_of_ble_eq_true rfl) (Nat.le_of_ble_eq_true rfl) g1 rfl (t_204 e53) ?_
          refine ec_iconst cst_m1 rfl ?_
          refine en_istore (l' := [(3, .int (-1 : Int32)), (0, .ref a0), (1, .int a1), (2, .int a2)]) rfl rfl ?_
          refine ec_iconst cst_0 rfl ?_
          refine en_istore (l' := [(4, .int (0 : Int32)), (3, .int (-1 : Int32)), (0, .ref a0), (1, .int a1), (2, .int a2)]) rfl rfl ?_
          obtain ⟨⟨q54, C56⟩, e55, h⟩ := gb h
          refine en_sub [2, 4, 1, 0] rfl rfl (lt_249_36 n _ _ _ _ _ _ e55 _ _ ?_)
          revert h e55; revert q54; intro u57 e55 h
          dsimp only at h ⊢
          refine en_iload rfl rfl ?_
          cases h
          exact en_iret rfl
        · refine en_if_ne_f c47 rfl ?_
          refine ec_iconst cst_0 rfl ?_
          cases h
          exact en_iret rfl
/-- BulkWriterModel.isStatement(I)Z -/
def f_250 (n : Nat) (a0 : Nat) (a1 : Int32) (C : AmC) : Option (Int32 × AmC) := if isK a0 10 = true then (cP C a0 25).bind (fun r2 => if isK r2 12 = true then if amIn (cI C a0 40) (aLen r2) = true then (f_163 n a1 (0 : Int32) ((cI C r2 (Int32.toNatClampNeg (cI C a0 40))) - (1 : Int32)) C).bind (fun z => match z with | (q6, C7) => (f_162 n a0 q6 (1 : Int32) C7).bind (fun z => match z with | (q9, C10) => if q9 = 0 ∨ q9 = 1 then some (q9, C10) else none)) else none else none) else none
set_option maxRecDepth 20000 in
set_option maxHeartbeats 4000000 in
theorem t_250 {n : Nat} {a0 : Nat} {a1 : Int32} {C : AmC} {r : Int32} {C' : AmC} (h : f_250 n a0 a1 C = some (r, C')) : En false 250 0 [(0, .ref a0), (1, .int a1)] [] (mkM C) (.inl (some (.int r))) (mkM C') := by
  unfold f_250 at h
  refine en_aload rfl rfl ?_
  refine en_iload rfl rfl ?_
  refine ec_iconst cst_0 rfl ?_
  refine en_aload rfl rfl ?_
  obtain ⟨g1, h⟩ := gd h
  obtain ⟨r2, e3, h⟩ := gb h
  refine ec_getP (ci := 10) (j := 25) ⟨rfl, rfl, rfl⟩ g1 e3 rfl ?_
  refine en_aload rfl rfl ?_
  refine ec_getI (ci := 10) (j := 40) ⟨rfl, rfl, rfl⟩ g1 rfl ?_
  obtain ⟨g4, h⟩ := gd h
  obtain ⟨g5, h⟩ := gd h
  refine ec_iaload g4 g5 rfl ?_
  refine ec_iconst cst_1 rfl ?_
  refine en_isub rfl ?_
  obtain ⟨⟨q6, C7⟩, e8, h⟩ := gb h
  dsimp only at h
  refine ec_callS1 (k' := 163) (n := 3) (as := [.int a1, .int (0 : Int32), .int ((cI C r2 (Int32.toNatClampNeg (cI C a0 40))) - (1 : Int32))]) rfl rfl rfl (Nat.le_of_ble_eq_true rfl) (Nat.le_of_ble_eq_true rfl) (Nat.le_of_ble_eq_true rfl) rfl (t_163 e8) ?_
  refine ec_iconst cst_1 rfl ?_
  obtain ⟨⟨q9, C10⟩, e11, h⟩ := gb h
  dsimp only at h
  refine ec_callV1 (k' := 162) (n := 3) (rc := 10) (a := a0) (as := [.int q6, .int (1 : Int32)]) ⟨rfl, rfl⟩ rfl rfl (Nat.le_of_ble_eq_true rfl) (Nat.le_of_ble_eq_true rfl) (Nat.le_of_ble_eq_true rfl) g1 rfl (t_162 e11) ?_
  obtain ⟨g12, h⟩ := gd h
  cases h
  exact en_zret g12 rfl
/-- BulkWriterModel.right(II)I -/
def f_251 (n : Nat) (a0 : Nat) (a1 : Int32) (a2 : Int32) (C : AmC) : Option (Int32 × AmC) := if isK a0 10 = true then (f_250 n a0 a1 (uI C a0 5 (0 : Int32))).bind (fun z => match z with | (q2, C3) => (if q2 = 0 then some ((0 : Int32), C3) else (f_163 n a2 (0 : Int32) (3 : Int32) C3).bind (fun z => match z with | (q6, C7) => (f_162 n a0 q6 (1 : Int32) C7).bind (fun z => match z with | (q9, C10) => (if ¬ q9 = 0 then (f_226 n a0 (((8 : Int32) * (cI C10 a0 40)) + a1) (0 : Int32) C10).bind (fun z => match z with | (_, C14) => (if ¬ a2 = 0 then (if ¬ a2 = (1 : Int32) then (if ¬ a2 = (2 : Int32) then some ((cI C14 a0 68), C14) else some ((cI C14 a0 67), C14)) else some ((cI C14 a0 66), C14)) else some ((cI C14 a0 65), C14))) else some ((0 : Int32), C10)))))) else none
set_option maxRecDepth 20000 in
set_option maxHeartbeats 4000000 in
theorem t_251 {n : Nat} {a0 : Nat} {a1 : Int32} {a2 : Int32} {C : AmC} {r : Int32} {C' : AmC} (h : f_251 n a0 a1 a2 C = some (r, C')) : En false 251 0 [(0, .ref a0), (1, .int a1), (2, .int a2)] [] (mkM C) (.inl (some (.int r))) (mkM C') := by
  unfold f_251 at h
  refine en_aload rfl rfl ?_
  refine ec_iconst cst_0 rfl ?_
  obtain ⟨g1, h⟩ := gd h
  refine ec_putI (ci := 10) (j := 5) ⟨rfl, rfl, rfl⟩ g1 rfl ?_
  refine en_aload rfl rfl ?_
  refine en_iload rfl rfl ?_
  obtain ⟨⟨q2, C3⟩, e4, h⟩ := gb h
  dsimp only at h
  refine ec_callV1 (k' := 250) (n := 2) (rc := 10) (a := a0) (as := [.int a1]) ⟨rfl, rfl⟩ rfl rfl (Nat.le_of_ble_eq_true rfl) (Nat.le_of_ble_eq_true rfl) (Nat.le_of_ble_eq_true rfl) g1 rfl (t_250 e4) ?_
  rcases gi h with ⟨c5, h⟩ | ⟨c5, h⟩
  · refine en_if_eq_t c5 rfl ?_
    refine ec_iconst cst_0 rfl ?_
    cases h
    exact en_iret rfl
  · refine en_if_eq_f c5 rfl ?_
    refine en_aload rfl rfl ?_
    refine en_iload rfl rfl ?_
    refine ec_iconst cst_0 rfl ?_
    refine ec_iconst cst_3 rfl ?_
    obtain ⟨⟨q6, C7⟩, e8, h⟩ := gb h
    dsimp only at h
    refine ec_callS1 (k' := 163) (n := 3) (as := [.int a2, .int (0 : Int32), .int (3 : Int32)]) rfl rfl rfl (Nat.le_of_ble_eq_true rfl) (Nat.le_of_ble_eq_true rfl) (Nat.le_of_ble_eq_true rfl) rfl (t_163 e8) ?_
    refine ec_iconst cst_1 rfl ?_
    obtain ⟨⟨q9, C10⟩, e11, h⟩ := gb h
    dsimp only at h
    refine ec_callV1 (k' := 162) (n := 3) (rc := 10) (a := a0) (as := [.int q6, .int (1 : Int32)]) ⟨rfl, rfl⟩ rfl rfl (Nat.le_of_ble_eq_true rfl) (Nat.le_of_ble_eq_true rfl) (Nat.le_of_ble_eq_true rfl) g1 rfl (t_162 e11) ?_
    rcases gi h with ⟨c12, h⟩ | ⟨c12, h⟩
    · refine en_if_ne_t c12 rfl ?_
      refine en_aload rfl rfl ?_
      refine ec_iconst cst_8 rfl ?_
      refine en_aload rfl rfl ?_
      refine ec_getI (ci := 10) (j := 40) ⟨rfl, rfl, rfl⟩ g1 rfl ?_
      refine en_imul rfl ?_
      refine en_iload rfl rfl ?_
      refine en_iadd rfl ?_
      refine ec_iconst cst_0 rfl ?_
      obtain ⟨⟨q13, C14⟩, e15, h⟩ := gb h
      dsimp only at h
      refine ec_callV0 (k' := 226) (n := 3) (rc := 10) (a := a0) (as := [.int (((8 : Int32) * (cI C10 a0 40)) + a1), .int (0 : Int32)]) ⟨rfl, rfl⟩ rfl rfl (Nat.le_of_ble_eq_true rfl) (Nat.le_of_ble_eq_true rfl) (Nat.le_of_ble_eq_true rfl) g1 rfl (t_226 e15) ?_
      refine en_iload rfl rfl ?_
      rcases gi h with ⟨c16, h⟩ | ⟨c16, h⟩
      · refine en_if_ne_t c16 rfl ?_
        refine en_iload rfl rfl ?_
        refine ec_iconst cst_1 rfl ?_
        rcases gi h with ⟨c17, h⟩ | ⟨c17, h⟩
        · refine en_icmp_ne_t c17 rfl ?_
          refine en_iload rfl rfl ?_
          refine ec_iconst cst_2 rfl ?_
          rcases gi h with ⟨c18, h⟩ | ⟨c18, h⟩
          · refine en_icmp_ne_t c18 rfl ?_
            refine en_aload rfl rfl ?_
            refine ec_getI (ci := 10) (j := 68) ⟨rfl, rfl, rfl⟩ g1 rfl ?_
            cases h
            exact en_iret rfl
          · refine en_icmp_ne_f c18 rfl ?_
            refine en_aload rfl rfl ?_
            refine ec_getI (ci := 10) (j := 67) ⟨rfl, rfl, rfl⟩ g1 rfl ?_
            refine en_goto rfl ?_
            cases h
            exact en_iret rfl
        · refine en_icmp_ne_f c17 rfl ?_
          refine en_aload rfl rfl ?_
          refine ec_getI (ci := 10) (j := 66) ⟨rfl, rfl, rfl⟩ g1 rfl ?_
          refine en_goto rfl ?_
          cases h
          exact en_iret rfl
      · refine en_if_ne_f c16 rfl ?_
        refine en_aload rfl rfl ?_
        refine ec_getI (ci := 10) (j := 65) ⟨rfl, rfl, rfl⟩ g1 rfl ?_
        refine en_goto rfl ?_
        cases h
        exact en_iret rfl
    · refine en_if_ne_f c12 rfl ?_
      refine ec_iconst cst_0 rfl ?_
      cases h
      exact en_iret rfl
/-- BulkWriterModel.plan(III)I -/
def f_252 (n : Nat) (a0 : Nat) (a1 : Int32) (a2 : Int32) (a3 : Int32) (C : AmC) : Option (Int32 × AmC) := if isK a0 10 = true then (f_250 n a0 a1 (uI C a0 5 (0 : Int32))).bind (fun z => match z with | (q2, C3) => (if q2 = 0 then some ((0 : Int32), C3) else (f_248 n a0 a2 C3).bind (fun z => match z with | (q6, C7) => (if q6 = 0 then some ((0 : Int32), C7) else (f_163 n a3 (0 : Int32) (3 : Int32) C7).bind (fun z => match z with | (q10, C11) => (f_162 n a0 q10 (1 : Int32) C11).bind (fun z => match z with | (q13, C14) => (if ¬ q13 = 0 then (f_242 n a0 (((8 : Int32) * (cI C14 a0 40)) + a1) a2 C14).bind (fun z => match z with | (q17, C18) => (if ¬ a3 = 0 then (if ¬ a3 = (1 : Int32) then (if ¬ a3 = (2 : Int32) then some ((cI C18 a0 69), C18) else (cP C18 a0 81).bind (fun r23 => if isK r23 12 = true then if amIn q17 (aLen r23) = true then some ((cI C18 r23 (Int32.toNatClampNeg q17)), C18) else none else none)) else some (q17, C18)) else (f_238 n a0 (((8 : Int32) * (cI C14 a0 40)) + a1) a2 C18).bind (fun z => match z with | (q27, C28) => some (q27, C28)))) else some ((0 : Int32), C14)))))))) else none
set_option maxRecDepth 20000 in
set_option maxHeartbeats 4000000 in
theorem t_252 {n : Nat} {a0 : Nat} {a1 : Int32} {a2 : Int32} {a3 : Int32} {C : AmC} {r : Int32} {C' : AmC} (h : f_252 n a0 a1 a2 a3 C = some (r, C')) : En false 252 0 [(0, .ref a0), (1, .int a1), (2, .int a2), (3, .int a3)] [] (mkM C) (.inl (some (.int r))) (mkM C') := by
  unfold f_252 at h
  refine en_aload rfl rfl ?_
  refine ec_iconst cst_0 rfl ?_
  obtain ⟨g1, h⟩ := gd h
  refine ec_putI (ci := 10) (j := 5) ⟨rfl, rfl, rfl⟩ g1 rfl ?_
  refine en_aload rfl rfl ?_
  refine en_iload rfl rfl ?_
  obtain ⟨⟨q2, C3⟩, e4, h⟩ := gb h
  dsimp only at h
  refine ec_callV1 (k' := 250) (n := 2) (rc := 10) (a := a0) (as := [.int a1]) ⟨rfl, rfl⟩ rfl rfl (Nat.le_of_ble_eq_true rfl) (Nat.le_of_ble_eq_true rfl) (Nat.le_of_ble_eq_true rfl) g1 rfl (t_250 e4) ?_
  rcases gi h with ⟨c5, h⟩ | ⟨c5, h⟩
  · refine en_if_eq_t c5 rfl ?_
    refine ec_iconst cst_0 rfl ?_
    cases h
    exact en_iret rfl
  · refine en_if_eq_f c5 rfl ?_
    refine en_aload rfl rfl ?_
    refine en_iload rfl rfl ?_
    obtain ⟨⟨q6, C7⟩, e8, h⟩ := gb h
    dsimp only at h
    refine ec_callV1 (k' := 248) (n := 2) (rc := 10) (a := a0) (as := [.int a2]) ⟨rfl, rfl⟩ rfl rfl (Nat.le_of_ble_eq_true rfl) (Nat.le_of_ble_eq_true rfl) (Nat.le_of_ble_eq_true rfl) g1 rfl (t_248 e8) ?_
    rcases gi h with ⟨c9, h⟩ | ⟨c9, h⟩
    · refine en_if_eq_t c9 rfl ?_
      refine ec_iconst cst_0 rfl ?_
      cases h
      exact en_iret rfl
    · refine en_if_eq_f c9 rfl ?_
      refine en_aload rfl rfl ?_
      refine en_iload rfl rfl ?_
      refine ec_iconst cst_0 rfl ?_
      refine ec_iconst cst_3 rfl ?_
      obtain ⟨⟨q10, C11⟩, e12, h⟩ := gb h
      dsimp only at h
      refine ec_callS1 (k' := 163) (n := 3) (as := [.int a3, .int (0 : Int32), .int (3 : Int32)]) rfl rfl rfl (Nat.le_of_ble_eq_true rfl) (Nat.le_of_ble_eq_true rfl) (Nat.le_of_ble_eq_true rfl) rfl (t_163 e12) ?_
      refine ec_iconst cst_1 rfl ?_
      obtain ⟨⟨q13, C14⟩, e15, h⟩ := gb h
      dsimp only at h
      refine ec_callV1 (k' := 162) (n := 3) (rc := 10) (a := a0) (as := [.int q10, .int (1 : Int32)]) ⟨rfl, rfl⟩ rfl rfl (Nat.le_of_ble_eq_true rfl) (Nat.le_of_ble_eq_true rfl) (Nat.le_of_ble_eq_true rfl) g1 rfl (t_162 e15) ?_
      rcases gi h with ⟨c16, h⟩ | ⟨c16, h⟩
      · refine en_if_ne_t c16 rfl ?_
        refine ec_iconst cst_8 rfl ?_
        refine en_aload rfl rfl ?_
        refine ec_getI (ci := 10) (j := 40) ⟨rfl, rfl, rfl⟩ g1 rfl ?_
        refine en_imul rfl ?_
        refine en_iload rfl rfl ?_
        refine en_iadd rfl ?_
        refine en_istore (l' := [(4, .int (((8 : Int32) * (cI C14 a0 40)) + a1)), (0, .ref a0), (1, .int a1), (2, .int a2), (3, .int a3)]) rfl rfl ?_
        refine en_aload rfl rfl ?_
        refine en_iload rfl rfl ?_
        refine en_iload rfl rfl ?_
        obtain ⟨⟨q17, C18⟩, e19, h⟩ := gb h
        dsimp only at h
        refine ec_callV1 (k' := 242) (n := 3) (rc := 10) (a := a0) (as := [.int (((8 : Int32) * (cI C14 a0 40)) + a1), .int a2]) ⟨rfl, rfl⟩ rfl rfl (Nat.le_of_ble_eq_true rfl) (Nat.le_of_ble_eq_true rfl) (Nat.le_of_ble_eq_true rfl) g1 rfl (t_242 e19) ?_
        refine en_istore (l' := [(5, .int q17), (4, .int (((8 : Int32) * (cI C14 a0 40)) + a1)), (0, .ref a0), (1, .int a1), (2, .int a2), (3, .int a3)]) rfl rfl ?_
        refine en_iload rfl rfl ?_
        rcases gi h with ⟨c20, h⟩ | ⟨c20, h⟩
        · refine en_if_ne_t c20 rfl ?_
          refine en_iload rfl rfl ?_
          refine ec_iconst cst_1 rfl ?_
          rcases gi h with ⟨c21, h⟩ | ⟨c21, h⟩
          · refine en_icmp_ne_t c21 rfl ?_
            refine en_iload rfl rfl ?_
            refine ec_iconst cst_2 rfl ?_
            rcases gi h with ⟨c22, h⟩ | ⟨c22, h⟩
            · refine en_icmp_ne_t c22 rfl ?_
              refine en_aload rfl rfl ?_
              refine ec_getI (ci := 10) (j := 69) ⟨rfl, rfl, rfl⟩ g1 rfl ?_
              cases h
              exact en_iret rfl
            · refine en_icmp_ne_f c22 rfl ?_
              refine en_aload rfl rfl ?_
              obtain ⟨r23, e24, h⟩ := gb h
              refine ec_getP (ci := 10) (j := 81) ⟨rfl, rfl, rfl⟩ g1 e24 rfl ?_
              refine en_iload rfl rfl ?_
              obtain ⟨g25, h⟩ := gd h
              obtain ⟨g26, h⟩ := gd h
              refine ec_iaload g25 g26 rfl ?_
              refine en_goto rfl ?_
              cases h
              exact en_iret rfl
          · refine en_icmp_ne_f c21 rfl ?_
            refine en_iload rfl rfl ?_
            refine en_goto rfl ?_
            cases h
            exact en_iret rfl
        · refine en_if_ne_f c20 rfl ?_
          refine en_aload rfl rfl ?_
          refine en_iload rfl rfl ?_
          refine en_iload rfl rfl ?_
          obtain ⟨⟨q27, C28⟩, e29, h⟩ := gb h
          dsimp only at h
          refine ec_callV1 (k' := 238) (n := 3) (rc := 10) (a := a0) (as := [.int (((8 : Int32) * (cI C14 a0 40)) + a1), .int a2]) ⟨rfl, rfl⟩ rfl rfl (Nat.le_of_ble_eq_true rfl) (Nat.le_of_ble_eq_true rfl) (Nat.le_of_ble_eq_true rfl) g1 rfl (t_238 e29) ?_
          refine en_goto rfl ?_
          cases h
          exact en_iret rfl
      · refine en_if_ne_f c16 rfl ?_
        refine ec_iconst cst_0 rfl ?_
        cases h
        exact en_iret rfl
def lp_253_2 : Nat → Nat → Int32 → Nat → Int32 → Int32 → AmC → Option (((Unit) ⊕ (Unit)) × AmC)
  | 0, _, _, _, _, _, _ => none
  | n + 1, p0, p1, p2, p3, p4, C => (if (4 : Int32) ≤ p4 then some ((.inr ()), C) else if isK p0 12 = true then if amIn (((30 : Int32) + ((4 : Int32) * p1)) + p4) (aLen p0) = true then if isK p2 12 = true then if amIn (((30 : Int32) + ((4 : Int32) * p3)) + p4) (aLen p2) = true then (if (cI C p0 (Int32.toNatClampNeg (((30 : Int32) + ((4 : Int32) * p1)) + p4))) = (cI C p2 (Int32.toNatClampNeg (((30 : Int32) + ((4 : Int32) * p3)) + p4))) then lp_253_2 n p0 p1 p2 p3 (p4 + (1 : Int32)) C else some ((.inl ()), C)) else none else none else none else none)
set_option maxRecDepth 20000 in
set_option maxHeartbeats 4000000 in
theorem lt_253_2 : ∀ (n : Nat) (p0 : Nat) (p1 : Int32) (p2 : Nat) (p3 : Int32) (p4 : Int32) (C : AmC) (r : ((Unit) ⊕ (Unit)) × AmC), lp_253_2 n p0 p1 p2 p3 p4 C = some r → ∀ (o : AmO) (M' : AmM), (match r with
        | ((.inl _), C') => En false 253 24 [] [] (mkM C') o M'
        | ((.inr _), C') => En false 253 28 [] [] (mkM C') o M') → En false 253 2 [(0, .ref p0), (1, .int p1), (2, .ref p2), (3, .int p3), (4, .int p4)] [] (mkM C) o M' := by
  intro n
  induction n with
  | zero => intro p0 p1 p2 p3 p4 C r h; cases h
  | succ n ih =>
    intro p0 p1 p2 p3 p4 C r h o M' hk
    unfold lp_253_2 at h
    refine en_iload rfl rfl ?_
    refine ec_iconst cst_4 rfl ?_
    rcases gi h with ⟨c1, h⟩ | ⟨c1, h⟩
    · refine en_icmp_ge_t c1 rfl ?_
      cases h
      exact en_sub [] rfl rfl hk
    · refine en_icmp_ge_f c1 rfl ?_
      refine en_aload rfl rfl ?_
      refine ec_iconst cst_30 rfl ?_
      refine ec_iconst cst_4 rfl ?_
      refine en_iload rfl rfl ?_
      refine en_imul rfl ?_
      refine en_iadd rfl ?_
      refine en_iload rfl rfl ?_
      refine en_iadd rfl ?_
      obtain ⟨g2, h⟩ := gd h
      obtain ⟨g3, h⟩ := gd h
      refine ec_iaload g2 g3 rfl ?_
      refine en_aload rfl rfl ?_
      refine ec_iconst cst_30 rfl ?_
      refine ec_iconst cst_4 rfl ?_
      refine en_iload rfl rfl ?_
      refine en_imul rfl ?_
      refine en_iadd rfl ?_
      refine en_iload rfl rfl ?_
      refine en_iadd rfl ?_
      obtain ⟨g4, h⟩ := gd h
      obtain ⟨g5, h⟩ := gd h
      refine ec_iaload g4 g5 rfl ?_
      rcases gi h with ⟨c6, h⟩ | ⟨c6, h⟩
      · refine en_icmp_eq_t c6 rfl ?_
        refine ec_iinc (l' := [(4, .int (p4 + (1 : Int32))), (0, .ref p0), (1, .int p1), (2, .ref p2), (3, .int p3)]) rfl cst_1 rfl rfl ?_
        refine en_goto rfl ?_
        refine en_sub [1, 2, 3, 4, 0] rfl rfl ?_
        exact ih _ _ _ _ _ _ _ h o M' hk
      · refine en_icmp_eq_f c6 rfl ?_
        cases h
        exact en_sub [] rfl rfl hk
/-- BulkWriterModel.areRowsLike([II[II)Z -/
def f_253 (n : Nat) (a0 : Nat) (a1 : Int32) (a2 : Nat) (a3 : Int32) (C : AmC) : Option (Int32 × AmC) := (lp_253_2 n a0 a1 a2 a3 (0 : Int32) C).bind (fun q => match q with | ((.inl _), C9) => some ((0 : Int32), C9) | ((.inr _), C9) => some ((1 : Int32), C9))
set_option maxRecDepth 20000 in
set_option maxHeartbeats 4000000 in
theorem t_253 {n : Nat} {a0 : Nat} {a1 : Int32} {a2 : Nat} {a3 : Int32} {C : AmC} {r : Int32} {C' : AmC} (h : f_253 n a0 a1 a2 a3 C = some (r, C')) : En false 253 0 [(0, .ref a0), (1, .int a1), (2, .ref a2), (3, .int a3)] [] (mkM C) (.inl (some (.int r))) (mkM C') := by
  unfold f_253 at h
  refine ec_iconst cst_0 rfl ?_
  refine en_istore (l' := [(4, .int (0 : Int32)), (0, .ref a0), (1, .int a1), (2, .ref a2), (3, .int a3)]) rfl rfl ?_
  obtain ⟨⟨q7, C9⟩, e8, h⟩ := gb h
  refine en_sub [1, 2, 3, 4, 0] rfl rfl (lt_253_2 n _ _ _ _ _ _ _ e8 _ _ ?_)
  rcases q7 with ⟨⟩ | ⟨⟩
  · dsimp only at h ⊢
    refine ec_iconst cst_0 rfl ?_
    cases h
    exact en_zret (Or.inl rfl) rfl
  · dsimp only at h ⊢
    refine ec_iconst cst_1 rfl ?_
    cases h
    exact en_zret (Or.inr rfl) rfl
def lp_254_4 : Nat → Nat → Nat → Nat → Int32 → Int32 → AmC → Option (((Nat × Nat × Nat × Int32)) × AmC)
  | 0, _, _, _, _, _, _ => none
  | n + 1, p0, p1, p2, p3, p4, C => (if (30 : Int32) ≤ p4 then some ((p0, p1, p2, p3), C) else if isK p0 10 = true then (cP C p0 82).bind (fun r3 => if isK r3 13 = true then if amIn p4 (aLen r3) = true then lp_254_4 n p0 p1 p2 p3 (p4 + (1 : Int32)) (uI C r3 (Int32.toNatClampNeg p4) (0 : Int32)) else none else none) else none)
set_option maxRecDepth 20000 in
set_option maxHeartbeats 4000000 in
theorem lt_254_4 : ∀ (n : Nat) (p0 : Nat) (p1 : Nat) (p2 : Nat) (p3 : Int32) (p4 : Int32) (C : AmC) (r : ((Nat × Nat × Nat × Int32)) × AmC), lp_254_4 n p0 p1 p2 p3 p4 C = some r → ∀ (o : AmO) (M' : AmM), (match r with
        | ((w0, w1, w2, w3), C') => En false 254 14 [(0, .ref w0), (1, .ref w1), (2, .ref w2), (3, .int w3)] [] (mkM C') o M') → En false 254 4 [(0, .ref p0), (1, .ref p1), (2, .ref p2), (3, .int p3), (4, .int p4)] [] (mkM C) o M' := by
  intro n
  induction n with
  | zero => intro p0 p1 p2 p3 p4 C r h; cases h
  | succ n ih =>
    intro p0 p1 p2 p3 p4 C r h o M' hk
    unfold lp_254_4 at h
    refine en_iload rfl rfl ?_
    refine ec_iconst cst_30 rfl ?_
    rcases gi h with ⟨c1, h⟩ | ⟨c1, h⟩
    · refine en_icmp_ge_t c1 rfl ?_
      cases h
      exact en_sub [0, 1, 2, 3] rfl rfl hk
    · refine en_icmp_ge_f c1 rfl ?_
      refine en_aload rfl rfl ?_
      obtain ⟨g2, h⟩ := gd h
      obtain ⟨r3, e4, h⟩ := gb h
      refine ec_getP (ci := 10) (j := 82) ⟨rfl, rfl, rfl⟩ g2 e4 rfl ?_
      refine en_iload rfl rfl ?_
      refine ec_iconst cst_0 rfl ?_
      obtain ⟨g5, h⟩ := gd h
      obtain ⟨g6, h⟩ := gd h
      refine ec_zastore g5 g6 (Or.inl rfl) rfl ?_
      refine ec_iinc (l' := [(4, .int (p4 + (1 : Int32))), (0, .ref p0), (1, .ref p1), (2, .ref p2), (3, .int p3)]) rfl cst_1 rfl rfl ?_
      refine en_goto rfl ?_
      refine en_sub [1, 2, 3, 4, 0] rfl rfl ?_
      exact ih _ _ _ _ _ _ _ h o M' hk
def lp_254_26 : Nat → Nat → Nat → Nat → Int32 → Int32 → Int32 → AmC → Option (((Nat × Nat × Nat × Int32 × Int32 × Int32)) × AmC)
  | 0, _, _, _, _, _, _, _ => none
  | n + 1, p0, p1, p2, p3, p4, p5, C => (if (30 : Int32) ≤ p5 then some ((p0, p1, p2, p3, p4, p5), C) else if isK p2 12 = true then if amIn p5 (aLen p2) = true then (if (cI C p2 (Int32.toNatClampNeg p5)) = 0 then lp_254_26 n p0 p1 p2 p3 p4 (p5 + (1 : Int32)) C else if isK p0 10 = true then (cP C p0 82).bind (fun r23 => if isK r23 13 = true then if amIn p5 (aLen r23) = true then (if ¬ (cI C r23 (Int32.toNatClampNeg p5)) = 0 then lp_254_26 n p0 p1 p2 p3 p4 (p5 + (1 : Int32)) C else (f_253 n p1 p4 p2 p5 C).bind (fun z => match z with | (q28, C29) => (if ¬ q28 = 0 then some ((p0, p1, p2, p3, p4, p5), C29) else lp_254_26 n p0 p1 p2 p3 p4 (p5 + (1 : Int32)) C29))) else none else none) else none) else none else none)
set_option maxRecDepth 20000 in
set_option maxHeartbeats 4000000 in
theorem lt_254_26 : ∀ (n : Nat) (p0 : Nat) (p1 : Nat) (p2 : Nat) (p3 : Int32) (p4 : Int32) (p5 : Int32) (C : AmC) (r : ((Nat × Nat × Nat × Int32 × Int32 × Int32)) × AmC), lp_254_26 n p0 p1 p2 p3 p4 p5 C = some r → ∀ (o : AmO) (M' : AmM), (match r with
        | ((w0, w1, w2, w3, w4, w5), C') => En false 254 46 [(0, .ref w0), (1, .ref w1), (2, .ref w2), (3, .int w3), (4, .int w4), (5, .int w5)] [] (mkM C') o M') → En false 254 26 [(0, .ref p0), (1, .ref p1), (2, .ref p2), (3, .int p3), (4, .int p4), (5, .int p5)] [] (mkM C) o M' := by
  intro n
  induction n with
  | zero => intro p0 p1 p2 p3 p4 p5 C r h; cases h
  | succ n ih =>
    intro p0 p1 p2 p3 p4 p5 C r h o M' hk
    unfold lp_254_26 at h
    refine en_iload rfl rfl ?_
    refine ec_iconst cst_30 rfl ?_
    rcases gi h with ⟨c18, h⟩ | ⟨c18, h⟩
    · refine en_icmp_ge_t c18 rfl ?_
      cases h
      exact en_sub [0, 1, 2, 3, 4, 5] rfl rfl hk
    · refine en_icmp_ge_f c18 rfl ?_
      refine en_aload rfl rfl ?_
      refine en_iload rfl rfl ?_
      obtain ⟨g19, h⟩ := gd h
      obtain ⟨g20, h⟩ := gd h
      refine ec_iaload g19 g20 rfl ?_
      rcases gi h with ⟨c21, h⟩ | ⟨c21, h⟩
      · refine en_if_eq_t c21 rfl ?_
        refine ec_iinc (l' := [(5, .int (p5 + (1 : Int32))), (0, .ref p0), (1, .ref p1), (2, .ref p2), (3, .int p3), (4, .int p4)]) rfl cst_1 rfl rfl ?_
        refine en_goto rfl ?_
        refine en_sub [1, 2, 3, 4, 5, 0] rfl rfl ?_
        exact ih _ _ _ _ _ _ _ _ h o M' hk
      · refine en_if_eq_f c21 rfl ?_
        refine en_aload rfl rfl ?_
        obtain ⟨g22, h⟩ := gd h
        obtain ⟨r23, e24, h⟩ := gb h
        refine ec_getP (ci := 10) (j := 82) ⟨rfl, rfl, rfl⟩ g22 e24 rfl ?_
        refine en_iload rfl rfl ?_
        obtain ⟨g25, h⟩ := gd h
        obtain ⟨g26, h⟩ := gd h
        refine ec_baload g25 (by decide) g26 rfl ?_
        rcases gi h with ⟨c27, h⟩ | ⟨c27, h⟩
        · refine en_if_ne_t c27 rfl ?_
          refine ec_iinc (l' := [(5, .int (p5 + (1 : Int32))), (0, .ref p0), (1, .ref p1), (2, .ref p2), (3, .int p3), (4, .int p4)]) rfl cst_1 rfl rfl ?_
          refine en_goto rfl ?_
          refine en_sub [1, 2, 3, 4, 5, 0] rfl rfl ?_
          exact ih _ _ _ _ _ _ _ _ h o M' hk
        · refine en_if_ne_f c27 rfl ?_
          refine en_aload rfl rfl ?_
          refine en_iload rfl rfl ?_
          refine en_aload rfl rfl ?_
          refine en_iload rfl rfl ?_
          obtain ⟨⟨q28, C29⟩, e30, h⟩ := gb h
          dsimp only at h
          refine ec_callS1 (k' := 253) (n := 4) (as := [.ref p1, .int p4, .ref p2, .int p5]) rfl rfl rfl (Nat.le_of_ble_eq_true rfl) (Nat.le_of_ble_eq_true rfl) (Nat.le_of_ble_eq_true rfl) rfl (t_253 e30) ?_
          rcases gi h with ⟨c31, h⟩ | ⟨c31, h⟩
          · refine en_if_ne_t c31 rfl ?_
            cases h
            exact en_sub [0, 1, 2, 3, 4, 5] rfl rfl hk
          · refine en_if_ne_f c31 rfl ?_
            refine ec_iinc (l' := [(5, .int (p5 + (1 : Int32))), (0, .ref p0), (1, .ref p1), (2, .ref p2), (3, .int p3), (4, .int p4)]) rfl cst_1 rfl rfl ?_
            refine en_goto rfl ?_
            refine en_sub [1, 2, 3, 4, 5, 0] rfl rfl ?_
            exact ih _ _ _ _ _ _ _ _ h o M' hk
def lp_254_16 : Nat → Nat → Nat → Nat → Int32 → Int32 → AmC → Option (((Int32)) × AmC)
  | 0, _, _, _, _, _, _ => none
  | n + 1, p0, p1, p2, p3, p4, C => (if (30 : Int32) ≤ p4 then some (p3, C) else if isK p1 12 = true then if amIn p4 (aLen p1) = true then (if ¬ (cI C p1 (Int32.toNatClampNeg p4)) = 0 then (lp_254_26 n p0 p1 p2 p3 p4 (0 : Int32) C).bind (fun q => match q with | ((u35, u36, u37, u38, u39, u40), C34) => (if (30 : Int32) ≤ u40 then lp_254_16 n u35 u36 u37 (u38 + (1 : Int32)) (u39 + (1 : Int32)) C34 else if isK u35 10 = true then (cP C34 u35 82).bind (fun r43 => if isK r43 13 = true then if amIn u40 (aLen r43) = true then lp_254_16 n u35 u36 u37 u38 (u39 + (1 : Int32)) (uI C34 r43 (Int32.toNatClampNeg u40) (1 : Int32)) else none else none) else none)) else lp_254_16 n p0 p1 p2 p3 (p4 + (1 : Int32)) C) else none else none)
set_option maxRecDepth 20000 in
set_option maxHeartbeats 4000000 in
theorem lt_254_16 : ∀ (n : Nat) (p0 : Nat) (p1 : Nat) (p2 : Nat) (p3 : Int32) (p4 : Int32) (C : AmC) (r : ((Int32)) × AmC), lp_254_16 n p0 p1 p2 p3 p4 C = some r → ∀ (o : AmO) (M' : AmM), (match r with
        | (w3, C') => En false 254 58 [(3, .int w3)] [] (mkM C') o M') → En false 254 16 [(0, .ref p0), (1, .ref p1), (2, .ref p2), (3, .int p3), (4, .int p4)] [] (mkM C) o M' := by
  intro n
  induction n with
  | zero => intro p0 p1 p2 p3 p4 C r h; cases h
  | succ n ih =>
    intro p0 p1 p2 p3 p4 C r h o M' hk
    unfold lp_254_16 at h
    refine en_iload rfl rfl ?_
    refine ec_iconst cst_30 rfl ?_
    rcases gi h with ⟨c14, h⟩ | ⟨c14, h⟩
    · refine en_icmp_ge_t c14 rfl ?_
      cases h
      exact en_sub [3] rfl rfl hk
    · refine en_icmp_ge_f c14 rfl ?_
      refine en_aload rfl rfl ?_
      refine en_iload rfl rfl ?_
      obtain ⟨g15, h⟩ := gd h
      obtain ⟨g16, h⟩ := gd h
      refine ec_iaload g15 g16 rfl ?_
      rcases gi h with ⟨c17, h⟩ | ⟨c17, h⟩
      · refine en_if_ne_t c17 rfl ?_
        refine ec_iconst cst_0 rfl ?_
        refine en_istore (l' := [(5, .int (0 : Int32)), (0, .ref p0), (1, .ref p1), (2, .ref p2), (3, .int p3), (4, .int p4)]) rfl rfl ?_
        obtain ⟨⟨q32, C34⟩, e33, h⟩ := gb h
        refine en_sub [1, 2, 3, 4, 5, 0] rfl rfl (lt_254_26 n _ _ _ _ _ _ _ _ e33 o M' ?_)
        obtain ⟨u35, u36, u37, u38, u39, u40⟩ := q32
        dsimp only at h ⊢
        refine en_iload rfl rfl ?_
        refine ec_iconst cst_30 rfl ?_
        rcases gi h with ⟨c41, h⟩ | ⟨c41, h⟩
        · refine en_icmp_ge_t c41 rfl ?_
          refine ec_iinc (l' := [(3, .int (u38 + (1 : Int32))), (0, .ref u35), (1, .ref u36), (2, .ref u37), (4, .int u39), (5, .int u40)]) rfl cst_1 rfl rfl ?_
          refine ec_iinc (l' := [(4, .int (u39 + (1 : Int32))), (3, .int (u38 + (1 : Int32))), (0, .ref u35), (1, .ref u36), (2, .ref u37), (5, .int u40)]) rfl cst_1 rfl rfl ?_
          refine en_goto rfl ?_
          refine en_sub [2, 3, 4, 1, 0] rfl rfl ?_
          exact ih _ _ _ _ _ _ _ h o M' hk
        · refine en_icmp_ge_f c41 rfl ?_
          refine en_aload rfl rfl ?_
          obtain ⟨g42, h⟩ := gd h
          obtain ⟨r43, e44, h⟩ := gb h
          refine ec_getP (ci := 10) (j := 82) ⟨rfl, rfl, rfl⟩ g42 e44 rfl ?_
          refine en_iload rfl rfl ?_
          refine ec_iconst cst_1 rfl ?_
          obtain ⟨g45, h⟩ := gd h
          obtain ⟨g46, h⟩ := gd h
          refine ec_zastore g45 g46 (Or.inr rfl) rfl ?_
          refine en_goto rfl ?_
          refine ec_iinc (l' := [(4, .int (u39 + (1 : Int32))), (0, .ref u35), (1, .ref u36), (2, .ref u37), (3, .int u38), (5, .int u40)]) rfl cst_1 rfl rfl ?_
          refine en_goto rfl ?_
          refine en_sub [1, 2, 3, 4, 0] rfl rfl ?_
          exact ih _ _ _ _ _ _ _ h o M' hk
      · refine en_if_ne_f c17 rfl ?_
        refine en_goto rfl ?_
        refine ec_iinc (l' := [(4, .int (p4 + (1 : Int32))), (0, .ref p0), (1, .ref p1), (2, .ref p2), (3, .int p3)]) rfl cst_1 rfl rfl ?_
        refine en_goto rfl ?_
        refine en_sub [1, 2, 3, 4, 0] rfl rfl ?_
        exact ih _ _ _ _ _ _ _ h o M' hk
/-- BulkWriterModel.lacking([I[I)I -/
def f_254 (n : Nat) (a0 : Nat) (a1 : Nat) (a2 : Nat) (C : AmC) : Option (Int32 × AmC) := (lp_254_4 n a0 a1 a2 (0 : Int32) (0 : Int32) C).bind (fun q => match q with | ((u10, u11, u12, u13), C9) => (lp_254_16 n u10 u11 u12 u13 (0 : Int32) C9).bind (fun q => match q with | (u50, C49) => some (u50, C49)))
set_option maxRecDepth 20000 in
set_option maxHeartbeats 4000000 in
theorem t_254 {n : Nat} {a0 : Nat} {a1 : Nat} {a2 : Nat} {C : AmC} {r : Int32} {C' : AmC} (h : f_254 n a0 a1 a2 C = some (r, C')) : En false 254 0 [(0, .ref a0), (1, .ref a1), (2, .ref a2)] [] (mkM C) (.inl (some (.int r))) (mkM C') := by
  unfold f_254 at h
  refine ec_iconst cst_0 rfl ?_
  refine en_istore (l' := [(3, .int (0 : Int32)), (0, .ref a0), (1, .ref a1), (2, .ref a2)]) rfl rfl ?_
  refine ec_iconst cst_0 rfl ?_
  refine en_istore (l' := [(4, .int (0 : Int32)), (3, .int (0 : Int32)), (0, .ref a0), (1, .ref a1), (2, .ref a2)]) rfl rfl ?_
  obtain ⟨⟨q7, C9⟩, e8, h⟩ := gb h
  refine en_sub [2, 3, 4, 1, 0] rfl rfl (lt_254_4 n _ _ _ _ _ _ _ e8 _ _ ?_)
  obtain ⟨u10, u11, u12, u13⟩ := q7
  dsimp only at h ⊢
  refine ec_iconst cst_0 rfl ?_
  refine en_istore (l' := [(4, .int (0 : Int32)), (0, .ref u10), (1, .ref u11), (2, .ref u12), (3, .int u13)]) rfl rfl ?_
  obtain ⟨⟨q47, C49⟩, e48, h⟩ := gb h
  refine en_sub [1, 2, 3, 4, 0] rfl rfl (lt_254_16 n _ _ _ _ _ _ _ e48 _ _ ?_)
  revert h e48; revert q47; intro u50 e48 h
  dsimp only at h ⊢
  refine en_iload rfl rfl ?_
  cases h
  exact en_iret rfl
def lp_255_16 : Nat → Nat → Int32 → Int32 → Int32 → Int32 → AmC → Option (((Nat × Int32 × Int32 × Int32)) × AmC)
  | 0, _, _, _, _, _, _ => none
  | n + 1, p0, p1, p2, p3, p4, C => (if (150 : Int32) ≤ p4 then some ((p0, p1, p2, p3), C) else if isK p0 10 = true then (cP C p0 58).bind (fun r8 => (cP C p0 57).bind (fun r10 => if isK r10 12 = true then if amIn p4 (aLen r10) = true then if isK r8 12 = true then if amIn p4 (aLen r8) = true then lp_255_16 n p0 p1 p2 p3 (p4 + (1 : Int32)) (uI C r8 (Int32.toNatClampNeg p4) (cI C r10 (Int32.toNatClampNeg p4))) else none else none else none else none)) else none)
set_option maxRecDepth 20000 in
set_option maxHeartbeats 4000000 in
theorem lt_255_16 : ∀ (n : Nat) (p0 : Nat) (p1 : Int32) (p2 : Int32) (p3 : Int32) (p4 : Int32) (C : AmC) (r : ((Nat × Int32 × Int32 × Int32)) × AmC), lp_255_16 n p0 p1 p2 p3 p4 C = some r → ∀ (o : AmO) (M' : AmM), (match r with
        | ((w0, w1, w2, w3), C') => En false 255 29 [(0, .ref w0), (1, .int w1), (2, .int w2), (3, .int w3)] [] (mkM C') o M') → En false 255 16 [(0, .ref p0), (1, .int p1), (2, .int p2), (3, .int p3), (4, .int p4)] [] (mkM C) o M' := by
  intro n
  induction n with
  | zero => intro p0 p1 p2 p3 p4 C r h; cases h
  | succ n ih =>
    intro p0 p1 p2 p3 p4 C r h o M' hk
    unfold lp_255_16 at h
    refine en_iload rfl rfl ?_
    refine ec_iconst cst_150 rfl ?_
    rcases gi h with ⟨c6, h⟩ | ⟨c6, h⟩
    · refine en_icmp_ge_t c6 rfl ?_
      cases h
      exact en_sub [0, 1, 2, 3] rfl rfl hk
    · refine en_icmp_ge_f c6 rfl ?_
      refine en_aload rfl rfl ?_
      obtain ⟨g7, h⟩ := gd h
      obtain ⟨r8, e9, h⟩ := gb h
      refine ec_getP (ci := 10) (j := 58) ⟨rfl, rfl, rfl⟩ g7 e9 rfl ?_
      refine en_iload rfl rfl ?_
      refine en_aload rfl rfl ?_
      obtain ⟨r10, e11, h⟩ := gb h
      refine ec_getP (ci := 10) (j := 57) ⟨rfl, rfl, rfl⟩ g7 e11 rfl ?_
      refine en_iload rfl rfl ?_
      obtain ⟨g12, h⟩ := gd h
      obtain ⟨g13, h⟩ := gd h
      refine ec_iaload g12 g13 rfl ?_
      obtain ⟨g14, h⟩ := gd h
      obtain ⟨g15, h⟩ := gd h
      refine ec_iastore g14 g15 rfl ?_
      refine ec_iinc (l' := [(4, .int (p4 + (1 : Int32))), (0, .ref p0), (1, .int p1), (2, .int p2), (3, .int p3)]) rfl cst_1 rfl rfl ?_
      refine en_goto rfl ?_
      refine en_sub [1, 2, 3, 4, 0] rfl rfl ?_
      exact ih _ _ _ _ _ _ _ h o M' hk
/-- BulkWriterModel.goesOtherwise(III)I -/
def f_255 (n : Nat) (a0 : Nat) (a1 : Int32) (a2 : Int32) (a3 : Int32) (C : AmC) : Option (Int32 × AmC) := if isK a0 10 = true then (f_226 n a0 a1 (0 : Int32) C).bind (fun z => match z with | (_, C3) => (if ¬ (cI C3 a0 66) = (5 : Int32) then (lp_255_16 n a0 a1 a2 a3 (0 : Int32) (uI C3 a0 83 (cI C3 a0 66))).bind (fun q => match q with | ((u19, u20, u21, u22), C18) => if isK u19 10 = true then (f_225 n u19 (0 : Int32) C18).bind (fun z => match z with | (_, C25) => (f_224 n u19 u20 u21 u22 C25).bind (fun z => match z with | (_, C28) => (cP C28 u19 58).bind (fun r30 => (cP C28 u19 57).bind (fun r32 => (f_254 n u19 r30 r32 C28).bind (fun z => match z with | (q34, C35) => some (q34, C35)))))) else none) else (lp_255_16 n a0 a1 a2 a3 (0 : Int32) (uI C3 a0 83 (0 : Int32))).bind (fun q => match q with | ((u40, u41, u42, u43), C39) => if isK u40 10 = true then (f_225 n u40 (0 : Int32) C39).bind (fun z => match z with | (_, C46) => (f_224 n u40 u41 u42 u43 C46).bind (fun z => match z with | (_, C49) => (cP C49 u40 58).bind (fun r51 => (cP C49 u40 57).bind (fun r53 => (f_254 n u40 r51 r53 C49).bind (fun z => match z with | (q55, C56) => some (q55, C56)))))) else none))) else none
set_option maxRecDepth 20000 in
set_option maxHeartbeats 4000000 in
theorem t_255 {n : Nat} {a0 : Nat} {a1 : Int32} {a2 : Int32} {a3 : Int32} {C : AmC} {r : Int32} {C' : AmC} (h : f_255 n a0 a1 a2 a3 C = some (r, C')) : En false 255 0 [(0, .ref a0), (1, .int a1), (2, .int a2), (3, .int a3)] [] (mkM C) (.inl (some (.int r))) (mkM C') := by
  unfold f_255 at h
  refine en_aload rfl rfl ?_
  refine en_iload rfl rfl ?_
  refine ec_iconst cst_0 rfl ?_
  obtain ⟨g1, h⟩ := gd h
  obtain ⟨⟨q2, C3⟩, e4, h⟩ := gb h
  dsimp only at h
  refine ec_callV0 (k' := 226) (n := 3) (rc := 10) (a := a0) (as := [.int a1, .int (0 : Int32)]) ⟨rfl, rfl⟩ rfl rfl (Nat.le_of_ble_eq_true rfl) (Nat.le_of_ble_eq_true rfl) (Nat.le_of_ble_eq_true rfl) g1 rfl (t_226 e4) ?_
  refine en_aload rfl rfl ?_
  refine en_aload rfl rfl ?_
  refine ec_getI (ci := 10) (j := 66) ⟨rfl, rfl, rfl⟩ g1 rfl ?_
  refine ec_iconst cst_5 rfl ?_
  rcases gi h with ⟨c5, h⟩ | ⟨c5, h⟩
  · refine en_icmp_ne_t c5 rfl ?_
    refine en_aload rfl rfl ?_
    refine ec_getI (ci := 10) (j := 66) ⟨rfl, rfl, rfl⟩ g1 rfl ?_
    refine ec_putI (ci := 10) (j := 83) ⟨rfl, rfl, rfl⟩ g1 rfl ?_
    refine ec_iconst cst_0 rfl ?_
    refine en_istore (l' := [(4, .int (0 : Int32)), (0, .ref a0), (1, .int a1), (2, .int a2), (3, .int a3)]) rfl rfl ?_
    obtain ⟨⟨q16, C18⟩, e17, h⟩ := gb h
    refine en_sub [1, 2, 3, 4, 0] rfl rfl (lt_255_16 n _ _ _ _ _ _ _ e17 _ _ ?_)
    obtain ⟨u19, u20, u21, u22⟩ := q16
    dsimp only at h ⊢
    refine en_aload rfl rfl ?_
    refine ec_iconst cst_0 rfl ?_
    obtain ⟨g23, h⟩ := gd h
    obtain ⟨⟨q24, C25⟩, e26, h⟩ := gb h
    dsimp only at h
    refine ec_callV0 (k' := 225) (n := 2) (rc := 10) (a := u19) (as := [.int (0 : Int32)]) ⟨rfl, rfl⟩ rfl rfl (Nat.le_of_ble_eq_true rfl) (Nat.le_of_ble_eq_true rfl) (Nat.le_of_ble_eq_true rfl) g23 rfl (t_225 e26) ?_
    refine en_aload rfl rfl ?_
    refine en_iload rfl rfl ?_
    refine en_iload rfl rfl ?_
    refine en_iload rfl rfl ?_
    obtain ⟨⟨q27, C28⟩, e29, h⟩ := gb h
    dsimp only at h
    refine ec_callV0 (k' := 224) (n := 4) (rc := 10) (a := u19) (as := [.int u20, .int u21, .int u22]) ⟨rfl, rfl⟩ rfl rfl (Nat.le_of_ble_eq_true rfl) (Nat.le_of_ble_eq_true rfl) (Nat.le_of_ble_eq_true rfl) g23 rfl (t_224 e29) ?_
    refine en_aload rfl rfl ?_
    refine en_aload rfl rfl ?_
    obtain ⟨r30, e31, h⟩ := gb h
    refine ec_getP (ci := 10) (j := 58) ⟨rfl, rfl, rfl⟩ g23 e31 rfl ?_
    refine en_aload rfl rfl ?_
    obtain ⟨r32, e33, h⟩ := gb h
    refine ec_getP (ci := 10) (j := 57) ⟨rfl, rfl, rfl⟩ g23 e33 rfl ?_
    obtain ⟨⟨q34, C35⟩, e36, h⟩ := gb h
    dsimp only at h
    refine ec_callV1 (k' := 254) (n := 3) (rc := 10) (a := u19) (as := [.ref r30, .ref r32]) ⟨rfl, rfl⟩ rfl rfl (Nat.le_of_ble_eq_true rfl) (Nat.le_of_ble_eq_true rfl) (Nat.le_of_ble_eq_true rfl) g23 rfl (t_254 e36) ?_
    cases h
    exact en_iret rfl
  · refine en_icmp_ne_f c5 rfl ?_
    refine ec_iconst cst_0 rfl ?_
    refine en_goto rfl ?_
    refine ec_putI (ci := 10) (j := 83) ⟨rfl, rfl, rfl⟩ g1 rfl ?_
    refine ec_iconst cst_0 rfl ?_
    refine en_istore (l' := [(4, .int (0 : Int32)), (0, .ref a0), (1, .int a1), (2, .int a2), (3, .int a3)]) rfl rfl ?_
    obtain ⟨⟨q37, C39⟩, e38, h⟩ := gb h
    refine en_sub [1, 2, 3, 4, 0] rfl rfl (lt_255_16 n _ _ _ _ _ _ _ e38 _ _ ?_)
    obtain ⟨u40, u41, u42, u43⟩ := q37
    dsimp only at h ⊢
    refine en_aload rfl rfl ?_
    refine ec_iconst cst_0 rfl ?_
    obtain ⟨g44, h⟩ := gd h
    obtain ⟨⟨q45, C46⟩, e47, h⟩ := gb h
    dsimp only at h
    refine ec_callV0 (k' := 225) (n := 2) (rc := 10) (a := u40) (as := [.int (0 : Int32)]) ⟨rfl, rfl⟩ rfl rfl (Nat.le_of_ble_eq_true rfl) (Nat.le_of_ble_eq_true rfl) (Nat.le_of_ble_eq_true rfl) g44 rfl (t_225 e47) ?_
    refine en_aload rfl rfl ?_
    refine en_iload rfl rfl ?_
    refine en_iload rfl rfl ?_
    refine en_iload rfl rfl ?_
    obtain ⟨⟨q48, C49⟩, e50, h⟩ := gb h
    dsimp only at h
    refine ec_callV0 (k' := 224) (n := 4) (rc := 10) (a := u40) (as := [.int u41, .int u42, .int u43]) ⟨rfl, rfl⟩ rfl rfl (Nat.le_of_ble_eq_true rfl) (Nat.le_of_ble_eq_true rfl) (Nat.le_of_ble_eq_true rfl) g44 rfl (t_224 e50) ?_
    refine en_aload rfl rfl ?_
    refine en_aload rfl rfl ?_
    obtain ⟨r51, e52, h⟩ := gb h
    refine ec_getP (ci := 10) (j := 58) ⟨rfl, rfl, rfl⟩ g44 e52 rfl ?_
    refine en_aload rfl rfl ?_
    obtain ⟨r53, e54, h⟩ := gb h
    refine ec_getP (ci := 10) (j := 57) ⟨rfl, rfl, rfl⟩ g44 e54 rfl ?_
    obtain ⟨⟨q55, C56⟩, e57, h⟩ := gb h
    dsimp only at h
    refine ec_callV1 (k' := 254) (n := 3) (rc := 10) (a := u40) (as := [.ref r51, .ref r53]) ⟨rfl, rfl⟩ rfl rfl (Nat.le_of_ble_eq_true rfl) (Nat.le_of_ble_eq_true rfl) (Nat.le_of_ble_eq_true rfl) g44 rfl (t_254 e57) ?_
    cases h
    exact en_iret rfl
def lp_256_4 : Nat → Nat → Int32 → Int32 → AmC → Option (((Int32)) × AmC)
  | 0, _, _, _, _ => none
  | n + 1, p0, p1, p2, C => (if (30 : Int32) ≤ p2 then some (p1, C) else if isK p0 10 = true then (cP C p0 74).bind (fun r3 => if isK r3 12 = true then if amIn p2 (aLen r3) = true then (if (cI C r3 (Int32.toNatClampNeg p2)) ≤ (1 : Int32) then lp_256_4 n p0 (p1 + (0 : Int32)) (p2 + (1 : Int32)) C else lp_256_4 n p0 (p1 + (1 : Int32)) (p2 + (1 : Int32)) C) else none else none) else none)
set_option maxRecDepth 20000 in
set_option maxHeartbeats 4000000 in
theorem lt_256_4 : ∀ (n : Nat) (p0 : Nat) (p1 : Int32) (p2 : Int32) (C : AmC) (r : ((Int32)) × AmC), lp_256_4 n p0 p1 p2 C = some r → ∀ (o : AmO) (M' : AmM), (match r with
        | (w1, C') => En false 256 21 [(1, .int w1)] [] (mkM C') o M') → En false 256 4 [(0, .ref p0), (1, .int p1), (2, .int p2)] [] (mkM C) o M' := by
  intro n
  induction n with
  | zero => intro p0 p1 p2 C r h; cases h
  | succ n ih =>
    intro p0 p1 p2 C r h o M' hk
    unfold lp_256_4 at h
    refine en_iload rfl rfl ?_
    refine ec_iconst cst_30 rfl ?_
    rcases gi h with ⟨c1, h⟩ | ⟨c1, h⟩
    · refine en_icmp_ge_t c1 rfl ?_
      cases h
      exact en_sub [1] rfl rfl hk
    · refine en_icmp_ge_f c1 rfl ?_
      refine en_iload rfl rfl ?_
      refine en_aload rfl rfl ?_
      obtain ⟨g2, h⟩ := gd h
      obtain ⟨r3, e4, h⟩ := gb h
      refine ec_getP (ci := 10) (j := 74) ⟨rfl, rfl, rfl⟩ g2 e4 rfl ?_
      refine en_iload rfl rfl ?_
      obtain ⟨g5, h⟩ := gd h
      obtain ⟨g6, h⟩ := gd h
      refine ec_iaload g5 g6 rfl ?_
      refine ec_iconst cst_1 rfl ?_
      rcases gi h with ⟨c7, h⟩ | ⟨c7, h⟩
      · refine en_icmp_le_t c7 rfl ?_
        refine ec_iconst cst_0 rfl ?_
        refine en_iadd rfl ?_
        refine en_istore (l' := [(1, .int (p1 + (0 : Int32))), (0, .ref p0), (2, .int p2)]) rfl rfl ?_
        refine ec_iinc (l' := [(2, .int (p2 + (1 : Int32))), (1, .int (p1 + (0 : Int32))), (0, .ref p0)]) rfl cst_1 rfl rfl ?_
        refine en_goto rfl ?_
        refine en_sub [2, 1, 0] rfl rfl ?_
        exact ih _ _ _ _ _ h o M' hk
      · refine en_icmp_le_f c7 rfl ?_
        refine ec_iconst cst_1 rfl ?_
        refine en_goto rfl ?_
        refine en_iadd rfl ?_
        refine en_istore (l' := [(1, .int (p1 + (1 : Int32))), (0, .ref p0), (2, .int p2)]) rfl rfl ?_
        refine ec_iinc (l' := [(2, .int (p2 + (1 : Int32))), (1, .int (p1 + (1 : Int32))), (0, .ref p0)]) rfl cst_1 rfl rfl ?_
        refine en_goto rfl ?_
        refine en_sub [2, 1, 0] rfl rfl ?_
        exact ih _ _ _ _ _ h o M' hk
/-- BulkWriterModel.twice()I -/
def f_256 (n : Nat) (a0 : Nat) (C : AmC) : Option (Int32 × AmC) := (lp_256_4 n a0 (0 : Int32) (0 : Int32) C).bind (fun q => match q with | (u11, C10) => some (u11, C10))
set_option maxRecDepth 20000 in
set_option maxHeartbeats 4000000 in
theorem t_256 {n : Nat} {a0 : Nat} {C : AmC} {r : Int32} {C' : AmC} (h : f_256 n a0 C = some (r, C')) : En false 256 0 [(0, .ref a0)] [] (mkM C) (.inl (some (.int r))) (mkM C') := by
  unfold f_256 at h
  refine ec_iconst cst_0 rfl ?_
  refine en_istore (l' := [(1, .int (0 : Int32)), (0, .ref a0)]) rfl rfl ?_
  refine ec_iconst cst_0 rfl ?_
  refine en_istore (l' := [(2, .int (0 : Int32)), (1, .int (0 : Int32)), (0, .ref a0)]) rfl rfl ?_
  obtain ⟨⟨q8, C10⟩, e9, h⟩ := gb h
  refine en_sub [2, 1, 0] rfl rfl (lt_256_4 n _ _ _ _ _ e9 _ _ ?_)
  revert h e9; revert q8; intro u11 e9 h
  dsimp only at h ⊢
  refine en_iload rfl rfl ?_
  cases h
  exact en_iret rfl
/-- BulkWriterModel.goes(IIII)I -/
def f_257 (n : Nat) (a0 : Nat) (a1 : Int32) (a2 : Int32) (a3 : Int32) (a4 : Int32) (C : AmC) : Option (Int32 × AmC) := if isK a0 10 = true then (f_250 n a0 a1 (uI C a0 5 (0 : Int32))).bind (fun z => match z with | (q2, C3) => (if q2 = 0 then some ((0 : Int32), C3) else (f_248 n a0 a2 C3).bind (fun z => match z with | (q6, C7) => (if q6 = 0 then some ((0 : Int32), C7) else (f_163 n a3 (0 : Int32) (3 : Int32) C7).bind (fun z => match z with | (q10, C11) => (if q10 = 0 then (f_162 n a0 (0 : Int32) (1 : Int32) C11).bind (fun z => match z with | (q14, C15) => (if ¬ q14 = 0 then (f_255 n a0 (((8 : Int32) * (cI C15 a0 40)) + a1) a2 a3 C15).bind (fun z => match z with | (q18, C19) => (if ¬ a4 = 0 then (if ¬ a4 = (1 : Int32) then (if ¬ a4 = (2 : Int32) then (f_256 n a0 C19).bind (fun z => match z with | (q24, C25) => some (q24, C25)) else some ((cI C19 a0 65), C19)) else some ((cI C19 a0 66), C19)) else some (q18, C19))) else some ((0 : Int32), C15))) else (f_163 n a4 (0 : Int32) (3 : Int32) C11).bind (fun z => match z with | (q27, C28) => (if q27 = 0 then (f_162 n a0 (0 : Int32) (1 : Int32) C28).bind (fun z => match z with | (q31, C32) => (if ¬ q31 = 0 then (f_255 n a0 (((8 : Int32) * (cI C32 a0 40)) + a1) a2 a3 C32).bind (fun z => match z with | (q35, C36) => (if ¬ a4 = 0 then (if ¬ a4 = (1 : Int32) then (if ¬ a4 = (2 : Int32) then (f_256 n a0 C36).bind (fun z => match z with | (q41, C42) => some (q41, C42)) else some ((cI C36 a0 65), C36)) else some ((cI C36 a0 66), C36)) else some (q35, C36))) else some ((0 : Int32), C32))) else (f_162 n a0 (1 : Int32) (1 : Int32) C28).bind (fun z => match z with | (q44, C45) => (if ¬ q44 = 0 then (f_255 n a0 (((8 : Int32) * (cI C45 a0 40)) + a1) a2 a3 C45).bind (fun z => match z with | (q48, C49) => (if ¬ a4 = 0 then (if ¬ a4 = (1 : Int32) then (if ¬ a4 = (2 : Int32) then (f_256 n a0 C49).bind (fun z => match z with | (q54, C55) => some (q54, C55)) else some ((cI C49 a0 65), C49)) else some ((cI C49 a0 66), C49)) else some (q48, C49))) else some ((0 : Int32), C45))))))))))) else none
set_option maxRecDepth 20000 in
set_option maxHeartbeats 4000000 in
theorem t_257 {n : Nat} {a0 : Nat} {a1 : Int32} {a2 : Int32} {a3 : Int32} {a4 : Int32} {C : AmC} {r : Int32} {C' : AmC} (h : f_257 n a0 a1 a2 a3 a4 C = some (r, C')) : En false 257 0 [(0, .ref a0), (1, .int a1), (2, .int a2), (3, .int a3), (4, .int a4)] [] (mkM C) (.inl (some (.int r))) (mkM C') := by
  unfold f_257 at h
  refine en_aload rfl rfl ?_
  refine ec_iconst cst_0 rfl ?_
  obtain ⟨g1, h⟩ := gd h
  refine ec_putI (ci := 10) (j := 5) ⟨rfl, rfl, rfl⟩ g1 rfl ?_
  refine en_aload rfl rfl ?_
  refine en_iload rfl rfl ?_
  obtain ⟨⟨q2, C3⟩, e4, h⟩ := gb h
  dsimp only at h
  refine ec_callV1 (k' := 250) (n := 2) (rc := 10) (a := a0) (as := [.int a1]) ⟨rfl, rfl⟩ rfl rfl (Nat.le_of_ble_eq_true rfl) (Nat.le_of_ble_eq_true rfl) (Nat.le_of_ble_eq_true rfl) g1 rfl (t_250 e4) ?_
  rcases gi h with ⟨c5, h⟩ | ⟨c5, h⟩
  · refine en_if_eq_t c5 rfl ?_
    refine ec_iconst cst_0 rfl ?_
    cases h
    exact en_iret rfl
  · refine en_if_eq_f c5 rfl ?_
    refine en_aload rfl rfl ?_
    refine en_iload rfl rfl ?_
    obtain ⟨⟨q6, C7⟩, e8, h⟩ := gb h
    dsimp only at h
    refine ec_callV1 (k' := 248) (n := 2) (rc := 10) (a := a0) (as := [.int a2]) ⟨rfl, rfl⟩ rfl rfl (Nat.le_of_ble_eq_true rfl) (Nat.le_of_ble_eq_true rfl) (Nat.le_of_ble_eq_true rfl) g1 rfl (t_248 e8) ?_
    rcases gi h with ⟨c9, h⟩ | ⟨c9, h⟩
    · refine en_if_eq_t c9 rfl ?_
      refine ec_iconst cst_0 rfl ?_
      cases h
      exact en_iret rfl
    · refine en_if_eq_f c9 rfl ?_
      refine en_aload rfl rfl ?_
      refine en_iload rfl rfl ?_
      refine ec_iconst cst_0 rfl ?_
      refine ec_iconst cst_3 rfl ?_
      obtain ⟨⟨q10, C11⟩, e12, h⟩ := gb h
      dsimp only at h
      refine ec_callS1 (k' := 163) (n := 3) (as := [.int a3, .int (0 : Int32), .int (3 : Int32)]) rfl rfl rfl (Nat.le_of_ble_eq_true rfl) (Nat.le_of_ble_eq_true rfl) (Nat.le_of_ble_eq_true rfl) rfl (t_163 e12) ?_
      rcases gi h with ⟨c13, h⟩ | ⟨c13, h⟩
      · refine en_if_eq_t c13 rfl ?_
        refine ec_iconst cst_0 rfl ?_
        refine ec_iconst cst_1 rfl ?_
        obtain ⟨⟨q14, C15⟩, e16, h⟩ := gb h
        dsimp only at h
        refine ec_callV1 (k' := 162) (n := 3) (rc := 10) (a := a0) (as := [.int (0 : Int32), .int (1 : Int32)]) ⟨rfl, rfl⟩ rfl rfl (Nat.le_of_ble_eq_true rfl) (Nat.le_of_ble_eq_true rfl) (Nat.le_of_ble_eq_true rfl) g1 rfl (t_162 e16) ?_
        rcases gi h with ⟨c17, h⟩ | ⟨c17, h⟩
        · refine en_if_ne_t c17 rfl ?_
          refine en_aload rfl rfl ?_
          refine ec_iconst cst_8 rfl ?_
          refine en_aload rfl rfl ?_
          refine ec_getI (ci := 10) (j := 40) ⟨rfl, rfl, rfl⟩ g1 rfl ?_
          refine en_imul rfl ?_
          refine en_iload rfl rfl ?_
          refine en_iadd rfl ?_
          refine en_iload rfl rfl ?_
          refine en_iload rfl rfl ?_
          obtain ⟨⟨q18, C19⟩, e20, h⟩ := gb h
          dsimp only at h
          refine ec_callV1 (k' := 255) (n := 4) (rc := 10) (a := a0) (as := [.int (((8 : Int32) * (cI C15 a0 40)) + a1), .int a2, .int a3]) ⟨rfl, rfl⟩ rfl rfl (Nat.le_of_ble_eq_true rfl) (Nat.le_of_ble_eq_true rfl) (Nat.le_of_ble_eq_true rfl) g1 rfl (t_255 e20) ?_
          refine en_istore (l' := [(5, .int q18), (0, .ref a0), (1, .int a1), (2, .int a2), (3, .int a3), (4, .int a4)]) rfl rfl ?_
          refine en_iload rfl rfl ?_
          rcases gi h with ⟨c21, h⟩ | ⟨c21, h⟩
          · refine en_if_ne_t c21 rfl ?_
            refine en_iload rfl rfl ?_
            refine ec_iconst cst_1 rfl ?_
            rcases gi h with ⟨c22, h⟩ | ⟨c22, h⟩
            · refine en_icmp_ne_t c22 rfl ?_
              refine en_iload rfl rfl ?_
              refine ec_iconst cst_2 rfl ?_
              rcases gi h with ⟨c23, h⟩ | ⟨c23, h⟩
              · refine en_icmp_ne_t c23 rfl ?_
                refine en_aload rfl rfl ?_
                obtain ⟨⟨q24, C25⟩, e26, h⟩ := gb h
                dsimp only at h
                refine ec_callV1 (k' := 256) (n := 1) (rc := 10) (a := a0) (as := []) ⟨rfl, rfl⟩ rfl rfl (Nat.le_of_ble_eq_true rfl) (Nat.le_of_ble_eq_true rfl) (Nat.le_of_ble_eq_true rfl) g1 rfl (t_256 e26) ?_
                cases h
                exact en_iret rfl
              · refine en_icmp_ne_f c23 rfl ?_
                refine en_aload rfl rfl ?_
                refine ec_getI (ci := 10) (j := 65) ⟨rfl, rfl, rfl⟩ g1 rfl ?_
                refine en_goto rfl ?_
                cases h
                exact en_iret rfl
            · refine en_icmp_ne_f c22 rfl ?_
              refine en_aload rfl rfl ?_
              refine ec_getI (ci := 10) (j := 66) ⟨rfl, rfl, rfl⟩ g1 rfl ?_
              refine en_goto rfl ?_
              cases h
              exact en_iret rfl
          · refine en_if_ne_f c21 rfl ?_
            refine en_iload rfl rfl ?_
            refine en_goto rfl ?_
            cases h
            exact en_iret rfl
        · refine en_if_ne_f c17 rfl ?_
          refine ec_iconst cst_0 rfl ?_
          cases h
          exact en_iret rfl
      · refine en_if_eq_f c13 rfl ?_
        refine en_iload rfl rfl ?_
        refine ec_iconst cst_0 rfl ?_
        refine ec_iconst cst_3 rfl ?_
        obtain ⟨⟨q27, C28⟩, e29, h⟩ := gb h
        dsimp only at h
        refine ec_callS1 (k' := 163) (n := 3) (as := [.int a4, .int (0 : Int32), .int (3 : Int32)]) rfl rfl rfl (Nat.le_of_ble_eq_true rfl) (Nat.le_of_ble_eq_true rfl) (Nat.le_of_ble_eq_true rfl) rfl (t_163 e29) ?_
        rcases gi h with ⟨c30, h⟩ | ⟨c30, h⟩
        · refine en_if_eq_t c30 rfl ?_
          refine ec_iconst cst_0 rfl ?_
          refine ec_iconst cst_1 rfl ?_
          obtain ⟨⟨q31, C32⟩, e33, h⟩ := gb h
          dsimp only at h
          refine ec_callV1 (k' := 162) (n := 3) (rc := 10) (a := a0) (as := [.int (0 : Int32), .int (1 : Int32)]) ⟨rfl, rfl⟩ rfl rfl (Nat.le_of_ble_eq_true rfl) (Nat.le_of_ble_eq_true rfl) (Nat.le_of_ble_eq_true rfl) g1 rfl (t_162 e33) ?_
          rcases gi h with ⟨c34, h⟩ | ⟨c34, h⟩
          · refine en_if_ne_t c34 rfl ?_
            refine en_aload rfl rfl ?_
            refine ec_iconst cst_8 rfl ?_
            refine en_aload rfl rfl ?_
            refine ec_getI (ci := 10) (j := 40) ⟨rfl, rfl, rfl⟩ g1 rfl ?_
            refine en_imul rfl ?_
            refine en_iload rfl rfl ?_
            refine en_iadd rfl ?_
            refine en_iload rfl rfl ?_
            refine en_iload rfl rfl ?_
            obtain ⟨⟨q35, C36⟩, e37, h⟩ := gb h
            dsimp only at h
            refine ec_callV1 (k' := 255) (n := 4) (rc := 10) (a := a0) (as := [.int (((8 : Int32) * (cI C32 a0 40)) + a1), .int a2, .int a3]) ⟨rfl, rfl⟩ rfl rfl (Nat.le_of_ble_eq_true rfl) (Nat.le_of_ble_eq_true rfl) (Nat.le_of_ble_eq_true rfl) g1 rfl (t_255 e37) ?_
            refine en_istore (l' := [(5, .int q35), (0, .ref a0), (1, .int a1), (2, .int a2), (3, .int a3), (4, .int a4)]) rfl rfl ?_
            refine en_iload rfl rfl ?_
            rcases gi h with ⟨c38, h⟩ | ⟨c38, h⟩
            · refine en_if_ne_t c38 rfl ?_
              refine en_iload rfl rfl ?_
              refine ec_iconst cst_1 rfl ?_
              rcases gi h with ⟨c39, h⟩ | ⟨c39, h⟩
              · refine en_icmp_ne_t c39 rfl ?_
                refine en_iload rfl rfl ?_
                refine ec_iconst cst_2 rfl ?_
                rcases gi h with ⟨c40, h⟩ | ⟨c40, h⟩
                · refine en_icmp_ne_t c40 rfl ?_
                  refine en_aload rfl rfl ?_
                  obtain ⟨⟨q41, C42⟩, e43, h⟩ := gb h
                  dsimp only at h
                  refine ec_callV1 (k' := 256) (n := 1) (rc := 10) (a := a0) (as := []) ⟨rfl, rfl⟩ rfl rfl (Nat.le_of_ble_eq_true rfl) (Nat.le_of_ble_eq_true rfl) (Nat.le_of_ble_eq_true rfl) g1 rfl (t_256 e43) ?_
                  cases h
                  exact en_iret rfl
                · refine en_icmp_ne_f c40 rfl ?_
                  refine en_aload rfl rfl ?_
                  refine ec_getI (ci := 10) (j := 65) ⟨rfl, rfl, rfl⟩ g1 rfl ?_
                  refine en_goto rfl ?_
                  cases h
                  exact en_iret rfl
              · refine en_icmp_ne_f c39 rfl ?_
                refine en_aload rfl rfl ?_
                refine ec_getI (ci := 10) (j := 66) ⟨rfl, rfl, rfl⟩ g1 rfl ?_
                refine en_goto rfl ?_
                cases h
                exact en_iret rfl
            · refine en_if_ne_f c38 rfl ?_
              refine en_iload rfl rfl ?_
              refine en_goto rfl ?_
              cases h
              exact en_iret rfl
          · refine en_if_ne_f c34 rfl ?_
            refine ec_iconst cst_0 rfl ?_
            cases h
            exact en_iret rfl
        · refine en_if_eq_f c30 rfl ?_
          refine ec_iconst cst_1 rfl ?_
          refine en_goto rfl ?_
          refine ec_iconst cst_1 rfl ?_
          obtain ⟨⟨q44, C45⟩, e46, h⟩ := gb h
          dsimp only at h
          refine ec_callV1 (k' := 162) (n := 3) (rc := 10) (a := a0) (as := [.int (1 : Int32), .int (1 : Int32)]) ⟨rfl, rfl⟩ rfl rfl (Nat.le_of_ble_eq_true rfl) (Nat.le_of_ble_eq_true rfl) (Nat.le_of_ble_eq_true rfl) g1 rfl (t_162 e46) ?_
          rcases gi h with ⟨c47, h⟩ | ⟨c47, h⟩
          · refine en_if_ne_t c47 rfl ?_
            refine en_aload rfl rfl ?_
            refine ec_iconst cst_8 rfl ?_
            refine en_aload rfl rfl ?_
            refine ec_getI (ci := 10) (j := 40) ⟨rfl, rfl, rfl⟩ g1 rfl ?_
            refine en_imul rfl ?_
            refine en_iload rfl rfl ?_
            refine en_iadd rfl ?_
            refine en_iload rfl rfl ?_
            refine en_iload rfl rfl ?_
            obtain ⟨⟨q48, C49⟩, e50, h⟩ := gb h
            dsimp only at h
            refine ec_callV1 (k' := 255) (n := 4) (rc := 10) (a := a0) (as := [.int (((8 : Int32) * (cI C45 a0 40)) + a1), .int a2, .int a3]) ⟨rfl, rfl⟩ rfl rfl (Nat.le_of_ble_eq_true rfl) (Nat.le_of_ble_eq_true rfl) (Nat.le_of_ble_eq_true rfl) g1 rfl (t_255 e50) ?_
            refine en_istore (l' := [(5, .int q48), (0, .ref a0), (1, .int a1), (2, .int a2), (3, .int a3), (4, .int a4)]) rfl rfl ?_
            refine en_iload rfl rfl ?_
            rcases gi h with ⟨c51, h⟩ | ⟨c51, h⟩
            · refine en_if_ne_t c51 rfl ?_
              refine en_iload rfl rfl ?_
              refine ec_iconst cst_1 rfl ?_
              rcases gi h with ⟨c52, h⟩ | ⟨c52, h⟩
              · refine en_icmp_ne_t c52 rfl ?_
                refine en_iload rfl rfl ?_
                refine ec_iconst cst_2 rfl ?_
                rcases gi h with ⟨c53, h⟩ | ⟨c53, h⟩
                · refine en_icmp_ne_t c53 rfl ?_
                  refine en_aload rfl rfl ?_
                  obtain ⟨⟨q54, C55⟩, e56, h⟩ := gb h
                  dsimp only at h
                  refine ec_callV1 (k' := 256) (n := 1) (rc := 10) (a := a0) (as := []) ⟨rfl, rfl⟩ rfl rfl (Nat.le_of_ble_eq_true rfl) (Nat.le_of_ble_eq_true rfl) (Nat.le_of_ble_eq_true rfl) g1 rfl (t_256 e56) ?_
                  cases h
                  exact en_iret rfl
                · refine en_icmp_ne_f c53 rfl ?_
                  refine en_aload rfl rfl ?_
                  refine ec_getI (ci := 10) (j := 65) ⟨rfl, rfl, rfl⟩ g1 rfl ?_
                  refine en_goto rfl ?_
                  cases h
                  exact en_iret rfl
              · refine en_icmp_ne_f c52 rfl ?_
                refine en_aload rfl rfl ?_
                refine ec_getI (ci := 10) (j := 66) ⟨rfl, rfl, rfl⟩ g1 rfl ?_
                refine en_goto rfl ?_
                cases h
                exact en_iret rfl
            · refine en_if_ne_f c51 rfl ?_
              refine en_iload rfl rfl ?_
              refine en_goto rfl ?_
              cases h
              exact en_iret rfl
          · refine en_if_ne_f c47 rfl ?_
            refine ec_iconst cst_0 rfl ?_
            cases h
            exact en_iret rfl
def lp_258_13 : Nat → Nat → Int32 → Int32 → Int32 → AmC → Option (((Int32)) × AmC)
  | 0, _, _, _, _, _ => none
  | n + 1, p0, p1, p2, p3, C => if isK p0 10 = true then (f_243 n p0 C).bind (fun z => match z with | (q7, C8) => (if q7 ≤ p3 then some (p2, C8) else (f_255 n p0 (((8 : Int32) * (cI C8 p0 40)) + p1) p3 (0 : Int32) C8).bind (fun z => match z with | (q11, C12) => (if 0 < q11 then lp_258_13 n p0 p1 (p2 ||| ((1 : Int32) <<< (p3 &&& 31))) (p3 + (1 : Int32)) C12 else (if (cI C12 p0 66) = (cI C12 p0 83) then lp_258_13 n p0 p1 p2 (p3 + (1 : Int32)) C12 else lp_258_13 n p0 p1 (p2 ||| ((1 : Int32) <<< (p3 &&& 31))) (p3 + (1 : Int32)) C12))))) else none
set_option maxRecDepth 20000 in
set_option maxHeartbeats 4000000 in
theorem lt_258_13 : ∀ (n : Nat) (p0 : Nat) (p1 : Int32) (p2 : Int32) (p3 : Int32) (C : AmC) (r : ((Int32)) × AmC), lp_258_13 n p0 p1 p2 p3 C = some r → ∀ (o : AmO) (M' : AmM), (match r with
        | (w2, C') => En false 258 41 [(2, .int w2)] [] (mkM C') o M') → En false 258 13 [(0, .ref p0), (1, .int p1), (2, .int p2), (3, .int p3)] [] (mkM C) o M' := by
  intro n
  induction n with
  | zero => intro p0 p1 p2 p3 C r h; cases h
  | succ n ih =>
    intro p0 p1 p2 p3 C r h o M' hk
    unfold lp_258_13 at h
    refine en_iload rfl rfl ?_
    refine en_aload rfl rfl ?_
    obtain ⟨g6, h⟩ := gd h
    obtain ⟨⟨q7, C8⟩, e9, h⟩ := gb h
    dsimp only at h
    refine ec_callV1 (k' := 243) (n := 1) (rc := 10) (a := p0) (as := []) ⟨rfl, rfl⟩ rfl rfl (Nat.le_of_ble_eq_true rfl) (Nat.le_of_ble_eq_true rfl) (Nat.le_of_ble_eq_true rfl) g6 rfl (t_243 e9) ?_
    rcases gi h with ⟨c10, h⟩ | ⟨c10, h⟩
    · refine en_icmp_ge_t c10 rfl ?_
      cases h
      exact en_sub [2] rfl rfl hk
    · refine en_icmp_ge_f c10 rfl ?_
      refine en_aload rfl rfl ?_
      refine ec_iconst cst_8 rfl ?_
      refine en_aload rfl rfl ?_
      refine ec_getI (ci := 10) (j := 40) ⟨rfl, rfl, rfl⟩ g6 rfl ?_
      refine en_imul rfl ?_
      refine en_iload rfl rfl ?_
      refine en_iadd rfl ?_
      refine en_iload rfl rfl ?_
      refine ec_iconst cst_0 rfl ?_
      obtain ⟨⟨q11, C12⟩, e13, h⟩ := gb h
      dsimp only at h
      refine ec_callV1 (k' := 255) (n := 4) (rc := 10) (a := p0) (as := [.int (((8 : Int32) * (cI C8 p0 40)) + p1), .int p3, .int (0 : Int32)]) ⟨rfl, rfl⟩ rfl rfl (Nat.le_of_ble_eq_true rfl) (Nat.le_of_ble_eq_true rfl) (Nat.le_of_ble_eq_true rfl) g6 rfl (t_255 e13) ?_
      rcases gi h with ⟨c14, h⟩ | ⟨c14, h⟩
      · refine en_if_gt_t c14 rfl ?_
        refine en_iload rfl rfl ?_
        refine ec_iconst cst_1 rfl ?_
        refine en_iload rfl rfl ?_
        refine en_ishl rfl ?_
        refine en_ior rfl ?_
        refine en_istore (l' := [(2, .int (p2 ||| ((1 : Int32) <<< (p3 &&& 31)))), (0, .ref p0), (1, .int p1), (3, .int p3)]) rfl rfl ?_
        refine ec_iinc (l' := [(3, .int (p3 + (1 : Int32))), (2, .int (p2 ||| ((1 : Int32) <<< (p3 &&& 31)))), (0, .ref p0), (1, .int p1)]) rfl cst_1 rfl rfl ?_
        refine en_goto rfl ?_
        refine en_sub [2, 3, 1, 0] rfl rfl ?_
        exact ih _ _ _ _ _ _ h o M' hk
      · refine en_if_gt_f c14 rfl ?_
        refine en_aload rfl rfl ?_
        refine ec_getI (ci := 10) (j := 66) ⟨rfl, rfl, rfl⟩ g6 rfl ?_
        refine en_aload rfl rfl ?_
        refine ec_getI (ci := 10) (j := 83) ⟨rfl, rfl, rfl⟩ g6 rfl ?_
        rcases gi h with ⟨c15, h⟩ | ⟨c15, h⟩
        · refine en_icmp_eq_t c15 rfl ?_
          refine ec_iinc (l' := [(3, .int (p3 + (1 : Int32))), (0, .ref p0), (1, .int p1), (2, .int p2)]) rfl cst_1 rfl rfl ?_
          refine en_goto rfl ?_
          refine en_sub [1, 2, 3, 0] rfl rfl ?_
          exact ih _ _ _ _ _ _ h o M' hk
        · refine en_icmp_eq_f c15 rfl ?_
          refine en_iload rfl rfl ?_
          refine ec_iconst cst_1 rfl ?_
          refine en_iload rfl rfl ?_
          refine en_ishl rfl ?_
          refine en_ior rfl ?_
          refine en_istore (l' := [(2, .int (p2 ||| ((1 : Int32) <<< (p3 &&& 31)))), (0, .ref p0), (1, .int p1), (3, .int p3)]) rfl rfl ?_
          refine ec_iinc (l' := [(3, .int (p3 + (1 : Int32))), (2, .int (p2 ||| ((1 : Int32) <<< (p3 &&& 31)))), (0, .ref p0), (1, .int p1)]) rfl cst_1 rfl rfl ?_
          refine en_goto rfl ?_
          refine en_sub [2, 3, 1, 0] rfl rfl ?_
          exact ih _ _ _ _ _ _ h o M' hk
/-- BulkWriterModel.wrongPaths(I)I -/
def f_258 (n : Nat) (a0 : Nat) (a1 : Int32) (C : AmC) : Option (Int32 × AmC) := if isK a0 10 = true then (f_250 n a0 a1 (uI C a0 5 (0 : Int32))).bind (fun z => match z with | (q2, C3) => (if ¬ q2 = 0 then (lp_258_13 n a0 a1 (0 : Int32) (0 : Int32) C3).bind (fun q => match q with | (u19, C18) => some (u19, C18)) else some ((0 : Int32), C3))) else none
set_option maxRecDepth 20000 in
set_option maxHeartbeats 4000000 in
theorem t_258 {n : Nat} {a0 : Nat} {a1 : Int32} {C : AmC} {r : Int32} {C' : AmC} (h : f_258 n a0 a1 C = some (r, C')) : En false 258 0 [(0, .ref a0), (1, .int a1)] [] (mkM C) (.inl (some (.int r))) (mkM C') := by
  unfold f_258 at h
  refine en_aload rfl rfl ?_
  refine ec_iconst cst_0 rfl ?_
  obtain ⟨g1, h⟩ := gd h
  refine ec_putI (ci := 10) (j := 5) ⟨rfl, rfl, rfl⟩ g1 rfl ?_
  refine en_aload rfl rfl ?_
  refine en_iload rfl rfl ?_
  obtain ⟨⟨q2, C3⟩, e4, h⟩ := gb h
  dsimp only at h
  refine ec_callV1 (k' := 250) (n := 2) (rc := 10) (a := a0) (as := [.int a1]) ⟨rfl, rfl⟩ rfl rfl (Nat.le_of_ble_eq_true rfl) (Nat.le_of_ble_eq_true rfl) (Nat.le_of_ble_eq_true rfl) g1 rfl (t_250 e4) ?_
  rcases gi h with ⟨c5, h⟩ | ⟨c5, h⟩
  · refine en_if_ne_t c5 rfl ?_
    refine ec_iconst cst_0 rfl ?_
    refine en_istore (l' := [(2, .int (0 : Int32)), (0, .ref a0), (1, .int a1)]) rfl rfl ?_
    refine ec_iconst cst_0 rfl ?_
    refine en_istore (l' := [(3, .int (0 : Int32)), (2, .int (0 : Int32)), (0, .ref a0), (1, .int a1)]) rfl rfl ?_
    obtain ⟨⟨q16, C18⟩, e17, h⟩ := gb h
    refine en_sub [2, 3, 1, 0] rfl rfl (lt_258_13 n _ _ _ _ _ _ e17 _ _ ?_)
    revert h e17; revert q16; intro u19 e17 h
    dsimp only at h ⊢
    refine en_iload rfl rfl ?_
    cases h
    exact en_iret rfl
  · refine en_if_ne_f c5 rfl ?_
    refine ec_iconst cst_0 rfl ?_
    cases h
    exact en_iret rfl
def lp_259_23 : Nat → Nat → Int32 → Int32 → Int32 → Int32 → Int32 → AmC → Option (((Int32 × Int32 × Int32)) × AmC)
  | 0, _, _, _, _, _, _, _ => none
  | n + 1, p0, p1, p2, p3, p4, p5, C => if isK p0 10 = true then (f_243 n p0 C).bind (fun z => match z with | (q14, C15) => (if q14 ≤ p5 then some ((p2, p3, p4), C15) else (f_242 n p0 (((8 : Int32) * (cI C15 p0 40)) + p1) p5 C15).bind (fun z => match z with | (q18, C19) => (cP C19 p0 81).bind (fun r21 => if isK r21 12 = true then if amIn q18 (aLen r21) = true then (if p3 = (-1 : Int32) then lp_259_23 n p0 p1 p2 p5 ((cI C19 p0 69) + (cI C19 r21 (Int32.toNatClampNeg q18))) (p5 + (1 : Int32)) C19 else (if ((cI C19 p0 69) + (cI C19 r21 (Int32.toNatClampNeg q18))) < p4 then lp_259_23 n p0 p1 p2 p5 ((cI C19 p0 69) + (cI C19 r21 (Int32.toNatClampNeg q18))) (p5 + (1 : Int32)) C19 else lp_259_23 n p0 p1 p2 p3 p4 (p5 + (1 : Int32)) C19)) else none else none)))) else none
set_option maxRecDepth 20000 in
set_option maxHeartbeats 4000000 in
theorem lt_259_23 : ∀ (n : Nat) (p0 : Nat) (p1 : Int32) (p2 : Int32) (p3 : Int32) (p4 : Int32) (p5 : Int32) (C : AmC) (r : ((Int32 × Int32 × Int32)) × AmC), lp_259_23 n p0 p1 p2 p3 p4 p5 C = some r → ∀ (o : AmO) (M' : AmM), (match r with
        | ((w2, w3, w4), C') => En false 259 58 [(2, .int w2), (3, .int w3), (4, .int w4)] [] (mkM C') o M') → En false 259 23 [(0, .ref p0), (1, .int p1), (2, .int p2), (3, .int p3), (4, .int p4), (5, .int p5)] [] (mkM C) o M' := by
  intro n
  induction n with
  | zero => intro p0 p1 p2 p3 p4 p5 C r h; cases h
  | succ n ih =>
    intro p0 p1 p2 p3 p4 p5 C r h o M' hk
    unfold lp_259_23 at h
    refine en_iload rfl rfl ?_
    refine en_aload rfl rfl ?_
    obtain ⟨g13, h⟩ := gd h
    obtain ⟨⟨q14, C15⟩, e16, h⟩ := gb h
    dsimp only at h
    refine ec_callV1 (k' := 243) (n := 1) (rc := 10) (a := p0) (as := []) ⟨rfl, rfl⟩ rfl rfl (Nat.le_of_ble_eq_true rfl) (Nat.le_of_ble_eq_true rfl) (Nat.le_of_ble_eq_true rfl) g13 rfl (t_243 e16) ?_
    rcases gi h with ⟨c17, h⟩ | ⟨c17, h⟩
    · refine en_icmp_ge_t c17 rfl ?_
      cases h
      exact en_sub [2, 3, 4] rfl rfl hk
    · refine en_icmp_ge_f c17 rfl ?_
      refine en_aload rfl rfl ?_
      refine ec_iconst cst_8 rfl ?_
      refine en_aload rfl rfl ?_
      refine ec_getI (ci := 10) (j := 40) ⟨rfl, rfl, rfl⟩ g13 rfl ?_
      refine en_imul rfl ?_
      refine en_iload rfl rfl ?_
      refine en_iadd rfl ?_
      refine en_iload rfl rfl ?_
      obtain ⟨⟨q18, C19⟩, e20, h⟩ := gb h
      dsimp only at h
      refine ec_callV1 (k' := 242) (n := 3) (rc := 10) (a := p0) (as := [.int (((8 : Int32) * (cI C15 p0 40)) + p1), .int p5]) ⟨rfl, rfl⟩ rfl rfl (Nat.le_of_ble_eq_true rfl) (Nat.le_of_ble_eq_true rfl) (Nat.le_of_ble_eq_true rfl) g13 rfl (t_242 e20) ?_
      refine en_istore (l' := [(6, .int q18), (0, .ref p0), (1, .int p1), (2, .int p2), (3, .int p3), (4, .int p4), (5, .int p5)]) rfl rfl ?_
      refine en_aload rfl rfl ?_
      refine ec_getI (ci := 10) (j := 69) ⟨rfl, rfl, rfl⟩ g13 rfl ?_
      refine en_aload rfl rfl ?_
      obtain ⟨r21, e22, h⟩ := gb h
      refine ec_getP (ci := 10) (j := 81) ⟨rfl, rfl, rfl⟩ g13 e22 rfl ?_
      refine en_iload rfl rfl ?_
      obtain ⟨g23, h⟩ := gd h
      obtain ⟨g24, h⟩ := gd h
      refine ec_iaload g23 g24 rfl ?_
      refine en_iadd rfl ?_
      refine en_istore (l' := [(7, .int ((cI C19 p0 69) + (cI C19 r21 (Int32.toNatClampNeg q18)))), (6, .int q18), (0, .ref p0), (1, .int p1), (2, .int p2), (3, .int p3), (4, .int p4), (5, .int p5)]) rfl rfl ?_
      refine en_iload rfl rfl ?_
      refine ec_iconst cst_m1 rfl ?_
      rcases gi h with ⟨c25, h⟩ | ⟨c25, h⟩
      · refine en_icmp_eq_t c25 rfl ?_
        refine en_iload rfl rfl ?_
        refine en_istore (l' := [(3, .int p5), (7, .int ((cI C19 p0 69) + (cI C19 r21 (Int32.toNatClampNeg q18)))), (6, .int q18), (0, .ref p0), (1, .int p1), (2, .int p2), (4, .int p4), (5, .int p5)]) rfl rfl ?_
        refine en_iload rfl rfl ?_
        refine en_istore (l' := [(4, .int ((cI C19 p0 69) + (cI C19 r21 (Int32.toNatClampNeg q18)))), (3, .int p5), (7, .int ((cI C19 p0 69) + (cI C19 r21 (Int32.toNatClampNeg q18)))), (6, .int q18), (0, .ref p0), (1, .int p1), (2, .int p2), (5, .int p5)]) rfl rfl ?_
        refine ec_iinc (l' := [(5, .int (p5 + (1 : Int32))), (4, .int ((cI C19 p0 69) + (cI C19 r21 (Int32.toNatClampNeg q18)))), (3, .int p5), (7, .int ((cI C19 p0 69) + (cI C19 r21 (Int32.toNatClampNeg q18)))), (6, .int q18), (0, .ref p0), (1, .int p1), (2, .int p2)]) rfl cst_1 rfl rfl ?_
        refine en_goto rfl ?_
        refine en_sub [5, 6, 7, 2, 1, 0] rfl rfl ?_
        exact ih _ _ _ _ _ _ _ _ h o M' hk
      · refine en_icmp_eq_f c25 rfl ?_
        refine en_iload rfl rfl ?_
        refine en_iload rfl rfl ?_
        rcases gi h with ⟨c26, h⟩ | ⟨c26, h⟩
        · refine en_icmp_lt_t c26 rfl ?_
          refine en_iload rfl rfl ?_
          refine en_istore (l' := [(3, .int p5), (7, .int ((cI C19 p0 69) + (cI C19 r21 (Int32.toNatClampNeg q18)))), (6, .int q18), (0, .ref p0), (1, .int p1), (2, .int p2), (4, .int p4), (5, .int p5)]) rfl rfl ?_
          refine en_iload rfl rfl ?_
          refine en_istore (l' := [(4, .int ((cI C19 p0 69) + (cI C19 r21 (Int32.toNatClampNeg q18)))), (3, .int p5), (7, .int ((cI C19 p0 69) + (cI C19 r21 (Int32.toNatClampNeg q18)))), (6, .int q18), (0, .ref p0), (1, .int p1), (2, .int p2), (5, .int p5)]) rfl rfl ?_
          refine ec_iinc (l' := [(5, .int (p5 + (1 : Int32))), (4, .int ((cI C19 p0 69) + (cI C19 r21 (Int32.toNatClampNeg q18)))), (3, .int p5), (7, .int ((cI C19 p0 69) + (cI C19 r21 (Int32.toNatClampNeg q18)))), (6, .int q18), (0, .ref p0), (1, .int p1), (2, .int p2)]) rfl cst_1 rfl rfl ?_
          refine en_goto rfl ?_
          refine en_sub [5, 6, 7, 2, 1, 0] rfl rfl ?_
          exact ih _ _ _ _ _ _ _ _ h o M' hk
        · refine en_icmp_lt_f c26 rfl ?_
          refine en_goto rfl ?_
          refine ec_iinc (l' := [(5, .int (p5 + (1 : Int32))), (7, .int ((cI C19 p0 69) + (cI C19 r21 (Int32.toNatClampNeg q18)))), (6, .int q18), (0, .ref p0), (1, .int p1), (2, .int p2), (3, .int p3), (4, .int p4)]) rfl cst_1 rfl rfl ?_
          refine en_goto rfl ?_
          refine en_sub [3, 4, 5, 6, 7, 0] rfl rfl ?_
          exact ih _ _ _ _ _ _ _ _ h o M' hk
/-- BulkWriterModel.cheapest(II)I -/
def f_259 (n : Nat) (a0 : Nat) (a1 : Int32) (a2 : Int32) (C : AmC) : Option (Int32 × AmC) := if isK a0 10 = true then (f_250 n a0 a1 (uI C a0 5 (0 : Int32))).bind (fun z => match z with | (q2, C3) => (if q2 = 0 then some ((0 : Int32), C3) else (f_163 n a2 (0 : Int32) (1 : Int32) C3).bind (fun z => match z with | (q6, C7) => (f_162 n a0 q6 (1 : Int32) C7).bind (fun z => match z with | (q9, C10) => (if ¬ q9 = 0 then (lp_259_23 n a0 a1 a2 (-1 : Int32) (0 : Int32) (0 : Int32) C10).bind (fun q => match q with | ((u30, u31, u32), C29) => (if ¬ u30 = 0 then some (u32, C29) else some (u31, C29))) else some ((0 : Int32), C10)))))) else none
set_option maxRecDepth 20000 in
set_option maxHeartbeats 4000000 in
theorem t_259 {n : Nat} {a0 : Nat} {a1 : Int32} {a2 : Int32} {C : AmC} {r : Int32} {C' : AmC} (h : f_259 n a0 a1 a2 C = some (r, C')) : En false 259 0 [(0, .ref a0), (1, .int a1), (2, .int a2)] [] (mkM C) (.inl (some (.int r))) (mkM C') := by
  unfold f_259 at h
  refine en_aload rfl rfl ?_
  refine ec_iconst cst_0 rfl ?_
  obtain ⟨g1, h⟩ := gd h
  refine ec_putI (ci := 10) (j := 5) ⟨rfl, rfl, rfl⟩ g1 rfl ?_
  refine en_aload rfl rfl ?_
  refine en_iload rfl rfl ?_
  obtain ⟨⟨q2, C3⟩, e4, h⟩ := gb h
  dsimp only at h
  refine ec_callV1 (k' := 250) (n := 2) (rc := 10) (a := a0) (as := [.int a1]) ⟨rfl, rfl⟩ rfl rfl (Nat.le_of_ble_eq_true rfl) (Nat.le_of_ble_eq_true rfl) (Nat.le_of_ble_eq_true rfl) g1 rfl (t_250 e4) ?_
  rcases gi h with ⟨c5, h⟩ | ⟨c5, h⟩
  · refine en_if_eq_t c5 rfl ?_
    refine ec_iconst cst_0 rfl ?_
    cases h
    exact en_iret rfl
  · refine en_if_eq_f c5 rfl ?_
    refine en_aload rfl rfl ?_
    refine en_iload rfl rfl ?_
    refine ec_iconst cst_0 rfl ?_
    refine ec_iconst cst_1 rfl ?_
    obtain ⟨⟨q6, C7⟩, e8, h⟩ := gb h
    dsimp only at h
    refine ec_callS1 (k' := 163) (n := 3) (as := [.int a2, .int (0 : Int32), .int (1 : Int32)]) rfl rfl rfl (Nat.le_of_ble_eq_true rfl) (Nat.le_of_ble_eq_true rfl) (Nat.le_of_ble_eq_true rfl) rfl (t_163 e8) ?_
    refine ec_iconst cst_1 rfl ?_
    obtain ⟨⟨q9, C10⟩, e11, h⟩ := gb h
    dsimp only at h
    refine ec_callV1 (k' := 162) (n := 3) (rc := 10) (a := a0) (as := [.int q6, .int (1 : Int32)]) ⟨rfl, rfl⟩ rfl rfl (Nat.le_of_ble_eq_true rfl) (Nat.le_of_ble_eq_true rfl) (Nat.le_of_ble_eq_true rfl) g1 rfl (t_162 e11) ?_
    rcases gi h with ⟨c12, h⟩ | ⟨c12, h⟩
    · refine en_if_ne_t c12 rfl ?_
      refine ec_iconst cst_m1 rfl ?_
      refine en_istore (l' := [(3, .int (-1 : Int32)), (0, .ref a0), (1, .int a1), (2, .int a2)]) rfl rfl ?_
      refine ec_iconst cst_0 rfl ?_
      refine en_istore (l' := [(4, .int (0 : Int32)), (3, .int (-1 : Int32)), (0, .ref a0), (1, .int a1), (2, .int a2)]) rfl rfl ?_
      refine ec_iconst cst_0 rfl ?_
      refine en_istore (l' := [(5, .int (0 : Int32)), (4, .int (0 : Int32)), (3, .int (-1 : Int32)), (0, .ref a0), (1, .int a1), (2, .int a2)]) rfl rfl ?_
      obtain ⟨⟨q27, C29⟩, e28, h⟩ := gb h
      refine en_sub [3, 4, 5, 2, 1, 0] rfl rfl (lt_259_23 n _ _ _ _ _ _ _ _ e28 _ _ ?_)
      obtain ⟨u30, u31, u32⟩ := q27
      dsimp only at h ⊢
      refine en_iload rfl rfl ?_
      rcases gi h with ⟨c33, h⟩ | ⟨c33, h⟩
      · refine en_if_ne_t c33 rfl ?_
        refine en_iload rfl rfl ?_
        cases h
        exact en_iret rfl
      · refine en_if_ne_f c33 rfl ?_
        refine en_iload rfl rfl ?_
        refine en_goto rfl ?_
        cases h
        exact en_iret rfl
    · refine en_if_ne_f c12 rfl ?_
      refine ec_iconst cst_0 rfl ?_
      cases h
      exact en_iret rfl
def lp_260_2 : Nat → Nat → Int32 → AmC → Option (((Nat)) × AmC)
  | 0, _, _, _ => none
  | n + 1, p0, p1, C => (if (1150 : Int32) ≤ p1 then some (p0, C) else if isK p0 10 = true then (cP C p0 84).bind (fun r3 => if isK r3 12 = true then if amIn p1 (aLen r3) = true then lp_260_2 n p0 (p1 + (1 : Int32)) (uI C r3 (Int32.toNatClampNeg p1) (0 : Int32)) else none else none) else none)
set_option maxRecDepth 20000 in
set_option maxHeartbeats 4000000 in
theorem lt_260_2 : ∀ (n : Nat) (p0 : Nat) (p1 : Int32) (C : AmC) (r : ((Nat)) × AmC), lp_260_2 n p0 p1 C = some r → ∀ (o : AmO) (M' : AmM), (match r with
        | (w0, C') => En false 260 12 [(0, .ref w0)] [] (mkM C') o M') → En false 260 2 [(0, .ref p0), (1, .int p1)] [] (mkM C) o M' := by
  intro n
  induction n with
  | zero => intro p0 p1 C r h; cases h
  | succ n ih =>
    intro p0 p1 C r h o M' hk
    unfold lp_260_2 at h
    refine en_iload rfl rfl ?_
    refine ec_iconst cst_1150 rfl ?_
    rcases gi h with ⟨c1, h⟩ | ⟨c1, h⟩
    · refine en_icmp_ge_t c1 rfl ?_
      cases h
      exact en_sub [0] rfl rfl hk
    · refine en_icmp_ge_f c1 rfl ?_
      refine en_aload rfl rfl ?_
      obtain ⟨g2, h⟩ := gd h
      obtain ⟨r3, e4, h⟩ := gb h
      refine ec_getP (ci := 10) (j := 84) ⟨rfl, rfl, rfl⟩ g2 e4 rfl ?_
      refine en_iload rfl rfl ?_
      refine ec_iconst cst_0 rfl ?_
      obtain ⟨g5, h⟩ := gd h
      obtain ⟨g6, h⟩ := gd h
      refine ec_iastore g5 g6 rfl ?_
      refine ec_iinc (l' := [(1, .int (p1 + (1 : Int32))), (0, .ref p0)]) rfl cst_1 rfl rfl ?_
      refine en_goto rfl ?_
      refine en_sub [1, 0] rfl rfl ?_
      exact ih _ _ _ _ h o M' hk
def lp_260_27 : Nat → Nat → Int32 → Int32 → AmC → Option (((Nat × Int32)) × AmC)
  | 0, _, _, _, _ => none
  | n + 1, p0, p1, p2, C => (if (4 : Int32) ≤ p2 then some ((p0, p1), C) else if isK p0 10 = true then (cP C p0 84).bind (fun r23 => (cP C p0 0).bind (fun r25 => if isK r25 12 = true then if amIn (((30 : Int32) + ((4 : Int32) * p1)) + p2) (aLen r25) = true then if isK r23 12 = true then if amIn (((230 : Int32) + ((4 : Int32) * p1)) + p2) (aLen r23) = true then lp_260_27 n p0 p1 (p2 + (1 : Int32)) (uI C r23 (Int32.toNatClampNeg (((230 : Int32) + ((4 : Int32) * p1)) + p2)) (cI C r25 (Int32.toNatClampNeg (((30 : Int32) + ((4 : Int32) * p1)) + p2)))) else none else none else none else none)) else none)
set_option maxRecDepth 20000 in
set_option maxHeartbeats 4000000 in
theorem lt_260_27 : ∀ (n : Nat) (p0 : Nat) (p1 : Int32) (p2 : Int32) (C : AmC) (r : ((Nat × Int32)) × AmC), lp_260_27 n p0 p1 p2 C = some r → ∀ (o : AmO) (M' : AmM), (match r with
        | ((w0, w1), C') => En false 260 52 [(0, .ref w0), (1, .int w1)] [] (mkM C') o M') → En false 260 27 [(0, .ref p0), (1, .int p1), (2, .int p2)] [] (mkM C) o M' := by
  intro n
  induction n with
  | zero => intro p0 p1 p2 C r h; cases h
  | succ n ih =>
    intro p0 p1 p2 C r h o M' hk
    unfold lp_260_27 at h
    refine en_iload rfl rfl ?_
    refine ec_iconst cst_4 rfl ?_
    rcases gi h with ⟨c21, h⟩ | ⟨c21, h⟩
    · refine en_icmp_ge_t c21 rfl ?_
      cases h
      exact en_sub [0, 1] rfl rfl hk
    · refine en_icmp_ge_f c21 rfl ?_
      refine en_aload rfl rfl ?_
      obtain ⟨g22, h⟩ := gd h
      obtain ⟨r23, e24, h⟩ := gb h
      refine ec_getP (ci := 10) (j := 84) ⟨rfl, rfl, rfl⟩ g22 e24 rfl ?_
      refine ec_iconst cst_230 rfl ?_
      refine ec_iconst cst_4 rfl ?_
      refine en_iload rfl rfl ?_
      refine en_imul rfl ?_
      refine en_iadd rfl ?_
      refine en_iload rfl rfl ?_
      refine en_iadd rfl ?_
      refine en_aload rfl rfl ?_
      obtain ⟨r25, e26, h⟩ := gb h
      refine ec_getP (ci := 10) (j := 0) ⟨rfl, rfl, rfl⟩ g22 e26 rfl ?_
      refine ec_iconst cst_30 rfl ?_
      refine ec_iconst cst_4 rfl ?_
      refine en_iload rfl rfl ?_
      refine en_imul rfl ?_
      refine en_iadd rfl ?_
      refine en_iload rfl rfl ?_
      refine en_iadd rfl ?_
      obtain ⟨g27, h⟩ := gd h
      obtain ⟨g28, h⟩ := gd h
      refine ec_iaload g27 g28 rfl ?_
      obtain ⟨g29, h⟩ := gd h
      obtain ⟨g30, h⟩ := gd h
      refine ec_iastore g29 g30 rfl ?_
      refine ec_iinc (l' := [(2, .int (p2 + (1 : Int32))), (0, .ref p0), (1, .int p1)]) rfl cst_1 rfl rfl ?_
      refine en_goto rfl ?_
      refine en_sub [1, 2, 0] rfl rfl ?_
      exact ih _ _ _ _ _ h o M' hk
def lp_260_14 : Nat → Nat → Int32 → AmC → Option (((Unit)) × AmC)
  | 0, _, _, _ => none
  | n + 1, p0, p1, C => (if (30 : Int32) ≤ p1 then some ((), C) else if isK p0 10 = true then (cP C p0 84).bind (fun r13 => (cP C p0 0).bind (fun r15 => if isK r15 12 = true then if amIn p1 (aLen r15) = true then if isK r13 12 = true then if amIn p1 (aLen r13) = true then (lp_260_27 n p0 p1 (0 : Int32) (uI C r13 (Int32.toNatClampNeg p1) (cI C r15 (Int32.toNatClampNeg p1)))).bind (fun q => match q with | ((u34, u35), C33) => lp_260_14 n u34 (u35 + (1 : Int32)) C33) else none else none else none else none)) else none)
set_option maxRecDepth 20000 in
set_option maxHeartbeats 4000000 in
theorem lt_260_14 : ∀ (n : Nat) (p0 : Nat) (p1 : Int32) (C : AmC) (r : ((Unit)) × AmC), lp_260_14 n p0 p1 C = some r → ∀ (o : AmO) (M' : AmM), (match r with
        | (_, C') => En false 260 54 [] [] (mkM C') o M') → En false 260 14 [(0, .ref p0), (1, .int p1)] [] (mkM C) o M' := by
  intro n
  induction n with
  | zero => intro p0 p1 C r h; cases h
  | succ n ih =>
    intro p0 p1 C r h o M' hk
    unfold lp_260_14 at h
    refine en_iload rfl rfl ?_
    refine ec_iconst cst_30 rfl ?_
    rcases gi h with ⟨c11, h⟩ | ⟨c11, h⟩
    · refine en_icmp_ge_t c11 rfl ?_
      cases h
      exact en_sub [] rfl rfl hk
    · refine en_icmp_ge_f c11 rfl ?_
      refine en_aload rfl rfl ?_
      obtain ⟨g12, h⟩ := gd h
      obtain ⟨r13, e14, h⟩ := gb h
      refine ec_getP (ci := 10) (j := 84) ⟨rfl, rfl, rfl⟩ g12 e14 rfl ?_
      refine en_iload rfl rfl ?_
      refine en_aload rfl rfl ?_
      obtain ⟨r15, e16, h⟩ := gb h
      refine ec_getP (ci := 10) (j := 0) ⟨rfl, rfl, rfl⟩ g12 e16 rfl ?_
      refine en_iload rfl rfl ?_
      obtain ⟨g17, h⟩ := gd h
      obtain ⟨g18, h⟩ := gd h
      refine ec_iaload g17 g18 rfl ?_
      obtain ⟨g19, h⟩ := gd h
      obtain ⟨g20, h⟩ := gd h
      refine ec_iastore g19 g20 rfl ?_
      refine ec_iconst cst_0 rfl ?_
      refine en_istore (l' := [(2, .int (0 : Int32)), (0, .ref p0), (1, .int p1)]) rfl rfl ?_
      obtain ⟨⟨q31, C33⟩, e32, h⟩ := gb h
      refine en_sub [1, 2, 0] rfl rfl (lt_260_27 n _ _ _ _ _ e32 o M' ?_)
      obtain ⟨u34, u35⟩ := q31
      dsimp only at h ⊢
      refine ec_iinc (l' := [(1, .int (u35 + (1 : Int32))), (0, .ref u34)]) rfl cst_1 rfl rfl ?_
      refine en_goto rfl ?_
      refine en_sub [1, 0] rfl rfl ?_
      exact ih _ _ _ _ h o M' hk
/-- BulkWriterModel.laysWide()V -/
def f_260 (n : Nat) (a0 : Nat) (C : AmC) : Option (Unit × AmC) := (lp_260_2 n a0 (0 : Int32) C).bind (fun q => match q with | (u10, C9) => (lp_260_14 n u10 (0 : Int32) C9).bind (fun q => match q with | (_, C38) => some ((), C38)))
set_option maxRecDepth 20000 in
set_option maxHeartbeats 4000000 in
theorem t_260 {n : Nat} {a0 : Nat} {C : AmC} {r : Unit} {C' : AmC} (h : f_260 n a0 C = some (r, C')) : En false 260 0 [(0, .ref a0)] [] (mkM C) (.inl none) (mkM C') := by
  unfold f_260 at h
  refine ec_iconst cst_0 rfl ?_
  refine en_istore (l' := [(1, .int (0 : Int32)), (0, .ref a0)]) rfl rfl ?_
  obtain ⟨⟨q7, C9⟩, e8, h⟩ := gb h
  refine en_sub [1, 0] rfl rfl (lt_260_2 n _ _ _ _ e8 _ _ ?_)
  revert h e8; revert q7; intro u10 e8 h
  dsimp only at h ⊢
  refine ec_iconst cst_0 rfl ?_
  refine en_istore (l' := [(1, .int (0 : Int32)), (0, .ref u10)]) rfl rfl ?_
  obtain ⟨⟨q36, C38⟩, e37, h⟩ := gb h
  refine en_sub [1, 0] rfl rfl (lt_260_14 n _ _ _ _ e37 _ _ ?_)
  dsimp only at h ⊢
  cases h
  exact en_vret rfl
/-- BulkWriterModel.wideAt(I)I -/
def f_261 (n : Nat) (a0 : Nat) (a1 : Int32) (C : AmC) : Option (Int32 × AmC) := if isK a0 10 = true then (cP C a0 71).bind (fun r2 => if isK r2 12 = true then if amIn a1 (aLen r2) = true then (if ¬ (cI C r2 (Int32.toNatClampNeg a1)) = (2 : Int32) then (cP C a0 70).bind (fun r7 => if isK r7 12 = true then if amIn a1 (aLen r7) = true then some ((cI C r7 (Int32.toNatClampNeg a1)), C) else none else none) else some (((30 : Int32) + a1), C)) else none else none) else none
set_option maxRecDepth 20000 in
set_option maxHeartbeats 4000000 in
theorem t_261 {n : Nat} {a0 : Nat} {a1 : Int32} {C : AmC} {r : Int32} {C' : AmC} (h : f_261 n a0 a1 C = some (r, C')) : En false 261 0 [(0, .ref a0), (1, .int a1)] [] (mkM C) (.inl (some (.int r))) (mkM C') := by
  unfold f_261 at h
  refine en_aload rfl rfl ?_
  obtain ⟨g1, h⟩ := gd h
  obtain ⟨r2, e3, h⟩ := gb h
  refine ec_getP (ci := 10) (j := 71) ⟨rfl, rfl, rfl⟩ g1 e3 rfl ?_
  refine en_iload rfl rfl ?_
  obtain ⟨g4, h⟩ := gd h
  obtain ⟨g5, h⟩ := gd h
  refine ec_iaload g4 g5 rfl ?_
  refine ec_iconst cst_2 rfl ?_
  rcases gi h with ⟨c6, h⟩ | ⟨c6, h⟩
  · refine en_icmp_ne_t c6 rfl ?_
    refine en_aload rfl rfl ?_
    obtain ⟨r7, e8, h⟩ := gb h
    refine ec_getP (ci := 10) (j := 70) ⟨rfl, rfl, rfl⟩ g1 e8 rfl ?_
    refine en_iload rfl rfl ?_
    obtain ⟨g9, h⟩ := gd h
    obtain ⟨g10, h⟩ := gd h
    refine ec_iaload g9 g10 rfl ?_
    cases h
    exact en_iret rfl
  · refine en_icmp_ne_f c6 rfl ?_
    refine ec_iconst cst_30 rfl ?_
    refine en_iload rfl rfl ?_
    refine en_iadd rfl ?_
    refine en_goto rfl ?_
    cases h
    exact en_iret rfl
def lp_262_14 : Nat → Nat → Int32 → Int32 → Int32 → AmC → Option (((Nat × Int32 × Int32)) × AmC)
  | 0, _, _, _, _, _ => none
  | n + 1, p0, p1, p2, p3, C => (if (4 : Int32) ≤ p3 then some ((p0, p1, p2), C) else if isK p0 10 = true then (cP C p0 85).bind (fun r15 => (cP C p0 84).bind (fun r17 => if isK r17 12 = true then if amIn (((230 : Int32) + ((4 : Int32) * p2)) + p3) (aLen r17) = true then if isK r15 12 = true then if amIn ((1 : Int32) + p3) (aLen r15) = true then (cP (uI C r15 (Int32.toNatClampNeg ((1 : Int32) + p3)) (cI C r17 (Int32.toNatClampNeg (((230 : Int32) + ((4 : Int32) * p2)) + p3)))) p0 71).bind (fun r23 => if isK r23 12 = true then if amIn p1 (aLen r23) = true then (if (cI (uI C r15 (Int32.toNatClampNeg ((1 : Int32) + p3)) (cI C r17 (Int32.toNatClampNeg (((230 : Int32) + ((4 : Int32) * p2)) + p3)))) r23 (Int32.toNatClampNeg p1)) = (2 : Int32) then (cP (uI C r15 (Int32.toNatClampNeg ((1 : Int32) + p3)) (cI C r17 (Int32.toNatClampNeg (((230 : Int32) + ((4 : Int32) * p2)) + p3)))) p0 84).bind (fun r28 => (cP (uI C r15 (Int32.toNatClampNeg ((1 : Int32) + p3)) (cI C r17 (Int32.toNatClampNeg (((230 : Int32) + ((4 : Int32) * p2)) + p3)))) p0 72).bind (fun r30 => if isK r30 12 = true then if amIn (((4 : Int32) * p1) + p3) (aLen r30) = true then if isK r28 12 = true then if amIn (((230 : Int32) + ((4 : Int32) * p2)) + p3) (aLen r28) = true then lp_262_14 n p0 p1 p2 (p3 + (1 : Int32)) (uI (uI C r15 (Int32.toNatClampNeg ((1 : Int32) + p3)) (cI C r17 (Int32.toNatClampNeg (((230 : Int32) + ((4 : Int32) * p2)) + p3)))) r28 (Int32.toNatClampNeg (((230 : Int32) + ((4 : Int32) * p2)) + p3)) (cI (uI C r15 (Int32.toNatClampNeg ((1 : Int32) + p3)) (cI C r17 (Int32.toNatClampNeg (((230 : Int32) + ((4 : Int32) * p2)) + p3)))) r30 (Int32.toNatClampNeg (((4 : Int32) * p1) + p3)))) else none else none else none else none)) else (cP (uI C r15 (Int32.toNatClampNeg ((1 : Int32) + p3)) (cI C r17 (Int32.toNatClampNeg (((230 : Int32) + ((4 : Int32) * p2)) + p3)))) p0 73).bind (fun r36 => if isK r36 12 = true then if amIn p1 (aLen r36) = true then (if ¬ (((cI (uI C r15 (Int32.toNatClampNeg ((1 : Int32) + p3)) (cI C r17 (Int32.toNatClampNeg (((230 : Int32) + ((4 : Int32) * p2)) + p3)))) r36 (Int32.toNatClampNeg p1)) >>> (p3 &&& 31)) &&& (1 : Int32)) = (1 : Int32) then lp_262_14 n p0 p1 p2 (p3 + (1 : Int32)) (uI C r15 (Int32.toNatClampNeg ((1 : Int32) + p3)) (cI C r17 (Int32.toNatClampNeg (((230 : Int32) + ((4 : Int32) * p2)) + p3)))) else (cP (uI C r15 (Int32.toNatClampNeg ((1 : Int32) + p3)) (cI C r17 (Int32.toNatClampNeg (((230 : Int32) + ((4 : Int32) * p2)) + p3)))) p0 84).bind (fun r41 => (cP (uI C r15 (Int32.toNatClampNeg ((1 : Int32) + p3)) (cI C r17 (Int32.toNatClampNeg (((230 : Int32) + ((4 : Int32) * p2)) + p3)))) p0 72).bind (fun r43 => if isK r43 12 = true then if amIn (((4 : Int32) * p1) + p3) (aLen r43) = true then if isK r41 12 = true then if amIn (((230 : Int32) + ((4 : Int32) * p2)) + p3) (aLen r41) = true then lp_262_14 n p0 p1 p2 (p3 + (1 : Int32)) (uI (uI C r15 (Int32.toNatClampNeg ((1 : Int32) + p3)) (cI C r17 (Int32.toNatClampNeg (((230 : Int32) + ((4 : Int32) * p2)) + p3)))) r41 (Int32.toNatClampNeg (((230 : Int32) + ((4 : Int32) * p2)) + p3)) (cI (uI C r15 (Int32.toNatClampNeg ((1 : Int32) + p3)) (cI C r17 (Int32.toNatClampNeg (((230 : Int32) + ((4 : Int32) * p2)) + p3)))) r43 (Int32.toNatClampNeg (((4 : Int32) * p1) + p3)))) else none else none else none else none))) else none else none)) else none else none) else none else none else none else none)) else none)
set_option maxRecDepth 20000 in
set_option maxHeartbeats 4000000 in
theorem lt_262_14 : ∀ (n : Nat) (p0 : Nat) (p1 : Int32) (p2 : Int32) (p3 : Int32) (C : AmC) (r : ((Nat × Int32 × Int32)) × AmC), lp_262_14 n p0 p1 p2 p3 C = some r → ∀ (o : AmO) (M' : AmM), (match r with
        | ((w0, w1, w2), C') => En false 262 65 [(0, .ref w0), (1, .int w1), (2, .int w2)] [] (mkM C') o M') → En false 262 14 [(0, .ref p0), (1, .int p1), (2, .int p2), (3, .int p3)] [] (mkM C) o M' := by
  intro n
  induction n with
  | zero => intro p0 p1 p2 p3 C r h; cases h
  | succ n ih =>
    intro p0 p1 p2 p3 C r h o M' hk
    unfold lp_262_14 at h
    refine en_iload rfl rfl ?_
    refine ec_iconst cst_4 rfl ?_
    rcases gi h with ⟨c13, h⟩ | ⟨c13, h⟩
    · refine en_icmp_ge_t c13 rfl ?_
      cases h
      exact en_sub [0, 1, 2] rfl rfl hk
    · refine en_icmp_ge_f c13 rfl ?_
      refine ec_iconst cst_230 rfl ?_
      refine ec_iconst cst_4 rfl ?_
      refine en_iload rfl rfl ?_
      refine en_imul rfl ?_
      refine en_iadd rfl ?_
      refine en_iload rfl rfl ?_
      refine en_iadd rfl ?_
      refine en_istore (l' := [(4, .int (((230 : Int32) + ((4 : Int32) * p2)) + p3)), (0, .ref p0), (1, .int p1), (2, .int p2), (3, .int p3)]) rfl rfl ?_
      refine en_aload rfl rfl ?_
      obtain ⟨g14, h⟩ := gd h
      obtain ⟨r15, e16, h⟩ := gb h
      refine ec_getP (ci := 10) (j := 85) ⟨rfl, rfl, rfl⟩ g14 e16 rfl ?_
      refine ec_iconst cst_1 rfl ?_
      refine en_iload rfl rfl ?_
      refine en_iadd rfl ?_
      refine en_aload rfl rfl ?_
      obtain ⟨r17, e18, h⟩ := gb h
      refine ec_getP (ci := 10) (j := 84) ⟨rfl, rfl, rfl⟩ g14 e18 rfl ?_
      refine en_iload rfl rfl ?_
      obtain ⟨g19, h⟩ := gd h
      obtain ⟨g20, h⟩ := gd h
      refine ec_iaload g19 g20 rfl ?_
      obtain ⟨g21, h⟩ := gd h
      obtain ⟨g22, h⟩ := gd h
      refine ec_iastore g21 g22 rfl ?_
      refine en_aload rfl rfl ?_
      obtain ⟨r23, e24, h⟩ := gb h
      refine ec_getP (ci := 10) (j := 71) ⟨rfl, rfl, rfl⟩ g14 e24 rfl ?_
      refine en_iload rfl rfl ?_
      obtain ⟨g25, h⟩ := gd h
      obtain ⟨g26, h⟩ := gd h
      refine ec_iaload g25 g26 rfl ?_
      refine ec_iconst cst_2 rfl ?_
      rcases gi h with ⟨c27, h⟩ | ⟨c27, h⟩
      · refine en_icmp_eq_t c27 rfl ?_
        refine en_aload rfl rfl ?_
        obtain ⟨r28, e29, h⟩ := gb h
        refine ec_getP (ci := 10) (j := 84) ⟨rfl, rfl, rfl⟩ g14 e29 rfl ?_
        refine en_iload rfl rfl ?_
        refine en_aload rfl rfl ?_
        obtain ⟨r30, e31, h⟩ := gb h
        refine ec_getP (ci := 10) (j := 72) ⟨rfl, rfl, rfl⟩ g14 e31 rfl ?_
        refine ec_iconst cst_4 rfl ?_
        refine en_iload rfl rfl ?_
        refine en_imul rfl ?_
        refine en_iload rfl rfl ?_
        refine en_iadd rfl ?_
        obtain ⟨g32, h⟩ := gd h
        obtain ⟨g33, h⟩ := gd h
        refine ec_iaload g32 g33 rfl ?_
        obtain ⟨g34, h⟩ := gd h
        obtain ⟨g35, h⟩ := gd h
        refine ec_iastore g34 g35 rfl ?_
        refine ec_iinc (l' := [(3, .int (p3 + (1 : Int32))), (4, .int (((230 : Int32) + ((4 : Int32) * p2)) + p3)), (0, .ref p0), (1, .int p1), (2, .int p2)]) rfl cst_1 rfl rfl ?_
        refine en_goto rfl ?_
        refine en_sub [2, 3, 4, 0] rfl rfl ?_
        exact ih _ _ _ _ _ _ h o M' hk
      · refine en_icmp_eq_f c27 rfl ?_
        refine en_aload rfl rfl ?_
        obtain ⟨r36, e37, h⟩ := gb h
        refine ec_getP (ci := 10) (j := 73) ⟨rfl, rfl, rfl⟩ g14 e37 rfl ?_
        refine en_iload rfl rfl ?_
        obtain ⟨g38, h⟩ := gd h
        obtain ⟨g39, h⟩ := gd h
        refine ec_iaload g38 g39 rfl ?_
        refine en_iload rfl rfl ?_
        refine en_ishr rfl ?_
        refine ec_iconst cst_1 rfl ?_
        refine en_iand rfl ?_
        refine ec_iconst cst_1 rfl ?_
        rcases gi h with ⟨c40, h⟩ | ⟨c40, h⟩
        · refine en_icmp_ne_t c40 rfl ?_
          refine ec_iinc (l' := [(3, .int (p3 + (1 : Int32))), (4, .int (((230 : Int32) + ((4 : Int32) * p2)) + p3)), (0, .ref p0), (1, .int p1), (2, .int p2)]) rfl cst_1 rfl rfl ?_
          refine en_goto rfl ?_
          refine en_sub [2, 3, 4, 0] rfl rfl ?_
          exact ih _ _ _ _ _ _ h o M' hk
        · refine en_icmp_ne_f c40 rfl ?_
          refine en_aload rfl rfl ?_
          obtain ⟨r41, e42, h⟩ := gb h
          refine ec_getP (ci := 10) (j := 84) ⟨rfl, rfl, rfl⟩ g14 e42 rfl ?_
          refine en_iload rfl rfl ?_
          refine en_aload rfl rfl ?_
          obtain ⟨r43, e44, h⟩ := gb h
          refine ec_getP (ci := 10) (j := 72) ⟨rfl, rfl, rfl⟩ g14 e44 rfl ?_
          refine ec_iconst cst_4 rfl ?_
          refine en_iload rfl rfl ?_
          refine en_imul rfl ?_
          refine en_iload rfl rfl ?_
          refine en_iadd rfl ?_
          obtain ⟨g45, h⟩ := gd h
          obtain ⟨g46, h⟩ := gd h
          refine ec_iaload g45 g46 rfl ?_
          obtain ⟨g47, h⟩ := gd h
          obtain ⟨g48, h⟩ := gd h
          refine ec_iastore g47 g48 rfl ?_
          refine ec_iinc (l' := [(3, .int (p3 + (1 : Int32))), (4, .int (((230 : Int32) + ((4 : Int32) * p2)) + p3)), (0, .ref p0), (1, .int p1), (2, .int p2)]) rfl cst_1 rfl rfl ?_
          refine en_goto rfl ?_
          refine en_sub [2, 3, 4, 0] rfl rfl ?_
          exact ih _ _ _ _ _ _ h o M' hk
/-- BulkWriterModel.putsWide(I)V -/
def f_262 (n : Nat) (a0 : Nat) (a1 : Int32) (C : AmC) : Option (Unit × AmC) := if isK a0 10 = true then (f_261 n a0 a1 C).bind (fun z => match z with | (q2, C3) => (cP C3 a0 85).bind (fun r5 => (cP C3 a0 84).bind (fun r7 => if isK r7 12 = true then if amIn q2 (aLen r7) = true then if isK r5 12 = true then if amIn (0 : Int32) (aLen r5) = true then (lp_262_14 n a0 a1 q2 (0 : Int32) (uI C3 r5 (Int32.toNatClampNeg (0 : Int32)) (cI C3 r7 (Int32.toNatClampNeg q2)))).bind (fun q => match q with | ((u52, u53, u54), C51) => if isK u52 10 = true then (cP C51 u52 84).bind (fun r56 => (cP C51 u52 71).bind (fun r58 => if isK r58 12 = true then if amIn u53 (aLen r58) = true then (if ¬ (cI C51 r58 (Int32.toNatClampNeg u53)) = (1 : Int32) then if isK r56 12 = true then if amIn u54 (aLen r56) = true then some ((), uI C51 r56 (Int32.toNatClampNeg u54) (1 : Int32)) else none else none else if isK r56 12 = true then if amIn u54 (aLen r56) = true then some ((), uI C51 r56 (Int32.toNatClampNeg u54) (0 : Int32)) else none else none) else none else none)) else none) else none else none else none else none))) else none
set_option maxRecDepth 20000 in
set_option maxHeartbeats 4000000 in
theorem t_262 {n : Nat} {a0 : Nat} {a1 : Int32} {C : AmC} {r : Unit} {C' : AmC} (h : f_262 n a0 a1 C = some (r, C')) : En false 262 0 [(0, .ref a0), (1, .int a1)] [] (mkM C) (.inl none) (mkM C') := by
  unfold f_262 at h
  refine en_aload rfl rfl ?_
  refine en_iload rfl rfl ?_
  obtain ⟨g1, h⟩ := gd h
  obtain ⟨⟨q2, C3⟩, e4, h⟩ := gb h
  dsimp only at h
  refine ec_callV1 (k' := 261) (n := 2) (rc := 10) (a := a0) (as := [.int a1]) ⟨rfl, rfl⟩ rfl rfl (Nat.le_of_ble_eq_true rfl) (Nat.le_of_ble_eq_true rfl) (Nat.le_of_ble_eq_true rfl) g1 rfl (t_261 e4) ?_
  refine en_istore (l' := [(2, .int q2), (0, .ref a0), (1, .int a1)]) rfl rfl ?_
  refine en_aload rfl rfl ?_
  obtain ⟨r5, e6, h⟩ := gb h
  refine ec_getP (ci := 10) (j := 85) ⟨rfl, rfl, rfl⟩ g1 e6 rfl ?_
  refine ec_iconst cst_0 rfl ?_
  refine en_aload rfl rfl ?_
  obtain ⟨r7, e8, h⟩ := gb h
  refine ec_getP (ci := 10) (j := 84) ⟨rfl, rfl, rfl⟩ g1 e8 rfl ?_
  refine en_iload rfl rfl ?_
  obtain ⟨g9, h⟩ := gd h
  obtain ⟨g10, h⟩ := gd h
  refine ec_iaload g9 g10 rfl ?_
  obtain ⟨g11, h⟩ := gd h
  obtain ⟨g12, h⟩ := gd h
  refine ec_iastore g11 g12 rfl ?_
  refine ec_iconst cst_0 rfl ?_
  refine en_istore (l' := [(3, .int (0 : Int32)), (2, .int q2), (0, .ref a0), (1, .int a1)]) rfl rfl ?_
  obtain ⟨⟨q49, C51⟩, e50, h⟩ := gb h
  refine en_sub [2, 3, 1, 0] rfl rfl (lt_262_14 n _ _ _ _ _ _ e50 _ _ ?_)
  obtain ⟨u52, u53, u54⟩ := q49
  dsimp only at h ⊢
  refine en_aload rfl rfl ?_
  obtain ⟨g55, h⟩ := gd h
  obtain ⟨r56, e57, h⟩ := gb h
  refine ec_getP (ci := 10) (j := 84) ⟨rfl, rfl, rfl⟩ g55 e57 rfl ?_
  refine en_iload rfl rfl ?_
  refine en_aload rfl rfl ?_
  obtain ⟨r58, e59, h⟩ := gb h
  refine ec_getP (ci := 10) (j := 71) ⟨rfl, rfl, rfl⟩ g55 e59 rfl ?_
  refine en_iload rfl rfl ?_
  obtain ⟨g60, h⟩ := gd h
  obtain ⟨g61, h⟩ := gd h
  refine ec_iaload g60 g61 rfl ?_
  refine ec_iconst cst_1 rfl ?_
  rcases gi h with ⟨c62, h⟩ | ⟨c62, h⟩
  · refine en_icmp_ne_t c62 rfl ?_
    refine ec_iconst cst_1 rfl ?_
    obtain ⟨g63, h⟩ := gd h
    obtain ⟨g64, h⟩ := gd h
    refine ec_iastore g63 g64 rfl ?_
    cases h
    exact en_vret rfl
  · refine en_icmp_ne_f c62 rfl ?_
    refine ec_iconst cst_0 rfl ?_
    refine en_goto rfl ?_
    obtain ⟨g65, h⟩ := gd h
    obtain ⟨g66, h⟩ := gd h
    refine ec_iastore g65 g66 rfl ?_
    cases h
    exact en_vret rfl
def lp_263_14 : Nat → Nat → Int32 → Int32 → AmC → Option (((Unit)) × AmC)
  | 0, _, _, _, _ => none
  | n + 1, p0, p2, p3, C => (if (4 : Int32) ≤ p3 then some ((), C) else if isK p0 10 = true then (cP C p0 84).bind (fun r15 => (cP C p0 85).bind (fun r17 => if isK r17 12 = true then if amIn ((1 : Int32) + p3) (aLen r17) = true then if isK r15 12 = true then if amIn (((230 : Int32) + ((4 : Int32) * p2)) + p3) (aLen r15) = true then lp_263_14 n p0 p2 (p3 + (1 : Int32)) (uI C r15 (Int32.toNatClampNeg (((230 : Int32) + ((4 : Int32) * p2)) + p3)) (cI C r17 (Int32.toNatClampNeg ((1 : Int32) + p3)))) else none else none else none else none)) else none)
set_option maxRecDepth 20000 in
set_option maxHeartbeats 4000000 in
theorem lt_263_14 : ∀ (n : Nat) (p0 : Nat) (p2 : Int32) (p3 : Int32) (C : AmC) (r : ((Unit)) × AmC), lp_263_14 n p0 p2 p3 C = some r → ∀ (o : AmO) (M' : AmM), (match r with
        | (_, C') => En false 263 35 [] [] (mkM C') o M') → En false 263 14 [(0, .ref p0), (2, .int p2), (3, .int p3)] [] (mkM C) o M' := by
  intro n
  induction n with
  | zero => intro p0 p2 p3 C r h; cases h
  | succ n ih =>
    intro p0 p2 p3 C r h o M' hk
    unfold lp_263_14 at h
    refine en_iload rfl rfl ?_
    refine ec_iconst cst_4 rfl ?_
    rcases gi h with ⟨c13, h⟩ | ⟨c13, h⟩
    · refine en_icmp_ge_t c13 rfl ?_
      cases h
      exact en_sub [] rfl rfl hk
    · refine en_icmp_ge_f c13 rfl ?_
      refine en_aload rfl rfl ?_
      obtain ⟨g14, h⟩ := gd h
      obtain ⟨r15, e16, h⟩ := gb h
      refine ec_getP (ci := 10) (j := 84) ⟨rfl, rfl, rfl⟩ g14 e16 rfl ?_
      refine ec_iconst cst_230 rfl ?_
      refine ec_iconst cst_4 rfl ?_
      refine en_iload rfl rfl ?_
      refine en_imul rfl ?_
      refine en_iadd rfl ?_
      refine en_iload rfl rfl ?_
      refine en_iadd rfl ?_
      refine en_aload rfl rfl ?_
      obtain ⟨r17, e18, h⟩ := gb h
      refine ec_getP (ci := 10) (j := 85) ⟨rfl, rfl, rfl⟩ g14 e18 rfl ?_
      refine ec_iconst cst_1 rfl ?_
      refine en_iload rfl rfl ?_
      refine en_iadd rfl ?_
      obtain ⟨g19, h⟩ := gd h
      obtain ⟨g20, h⟩ := gd h
      refine ec_iaload g19 g20 rfl ?_
      obtain ⟨g21, h⟩ := gd h
      obtain ⟨g22, h⟩ := gd h
      refine ec_iastore g21 g22 rfl ?_
      refine ec_iinc (l' := [(3, .int (p3 + (1 : Int32))), (0, .ref p0), (2, .int p2)]) rfl cst_1 rfl rfl ?_
      refine en_goto rfl ?_
      refine en_sub [1, 2, 0] rfl rfl ?_
      exact ih _ _ _ _ _ h o M' hk
/-- BulkWriterModel.putsBack(I)V -/
def f_263 (n : Nat) (a0 : Nat) (a1 : Int32) (C : AmC) : Option (Unit × AmC) := if isK a0 10 = true then (f_261 n a0 a1 C).bind (fun z => match z with | (q2, C3) => (cP C3 a0 84).bind (fun r5 => (cP C3 a0 85).bind (fun r7 => if isK r7 12 = true then if amIn (0 : Int32) (aLen r7) = true then if isK r5 12 = true then if amIn q2 (aLen r5) = true then (lp_263_14 n a0 q2 (0 : Int32) (uI C3 r5 (Int32.toNatClampNeg q2) (cI C3 r7 (Int32.toNatClampNeg (0 : Int32))))).bind (fun q => match q with | (_, C25) => some ((), C25)) else none else none else none else none))) else none
set_option maxRecDepth 20000 in
set_option maxHeartbeats 4000000 in
theorem t_263 {n : Nat} {a0 : Nat} {a1 : Int32} {C : AmC} {r : Unit} {C' : AmC} (h : f_263 n a0 a1 C = some (r, C')) : En false 263 0 [(0, .ref a0), (1, .int a1)] [] (mkM C) (.inl none) (mkM C') := by
  unfold f_263 at h
  refine en_aload rfl rfl ?_
  refine en_iload rfl rfl ?_
  obtain ⟨g1, h⟩ := gd h
  obtain ⟨⟨q2, C3⟩, e4, h⟩ := gb h
  dsimp only at h
  refine ec_callV1 (k' := 261) (n := 2) (rc := 10) (a := a0) (as := [.int a1]) ⟨rfl, rfl⟩ rfl rfl (Nat.le_of_ble_eq_true rfl) (Nat.le_of_ble_eq_true rfl) (Nat.le_of_ble_eq_true rfl) g1 rfl (t_261 e4) ?_
  refine en_istore (l' := [(2, .int q2), (0, .ref a0), (1, .int a1)]) rfl rfl ?_
  refine en_aload rfl rfl ?_
  obtain ⟨r5, e6, h⟩ := gb h
  refine ec_getP (ci := 10) (j := 84) ⟨rfl, rfl, rfl⟩ g1 e6 rfl ?_
  refine en_iload rfl rfl ?_
  refine en_aload rfl rfl ?_
  obtain ⟨r7, e8, h⟩ := gb h
  refine ec_getP (ci := 10) (j := 85) ⟨rfl, rfl, rfl⟩ g1 e8 rfl ?_
  refine ec_iconst cst_0 rfl ?_
  obtain ⟨g9, h⟩ := gd h
  obtain ⟨g10, h⟩ := gd h
  refine ec_iaload g9 g10 rfl ?_
  obtain ⟨g11, h⟩ := gd h
  obtain ⟨g12, h⟩ := gd h
  refine ec_iastore g11 g12 rfl ?_
  refine ec_iconst cst_0 rfl ?_
  refine en_istore (l' := [(3, .int (0 : Int32)), (2, .int q2), (0, .ref a0), (1, .int a1)]) rfl rfl ?_
  obtain ⟨⟨q23, C25⟩, e24, h⟩ := gb h
  refine en_sub [2, 1, 0] rfl rfl (lt_263_14 n _ _ _ _ _ e24 _ _ ?_)
  dsimp only at h ⊢
  cases h
  exact en_vret rfl
/-- BulkWriterModel.isClear()Z -/
def f_264 (n : Nat) (a0 : Nat) (C : AmC) : Option (Int32 × AmC) := if isK a0 10 = true then (cP C a0 84).bind (fun r2 => (f_192 n a0 r2 (0 : Int32) (230 : Int32) (cI C a0 40) C).bind (fun z => match z with | (q4, C5) => (if ¬ q4 = (-1 : Int32) then some ((0 : Int32), C5) else some ((1 : Int32), C5)))) else none
set_option maxRecDepth 20000 in
set_option maxHeartbeats 4000000 in
theorem t_264 {n : Nat} {a0 : Nat} {C : AmC} {r : Int32} {C' : AmC} (h : f_264 n a0 C = some (r, C')) : En false 264 0 [(0, .ref a0)] [] (mkM C) (.inl (some (.int r))) (mkM C') := by
  unfold f_264 at h
  refine en_aload rfl rfl ?_
  refine en_aload rfl rfl ?_
  obtain ⟨g1, h⟩ := gd h
  obtain ⟨r2, e3, h⟩ := gb h
  refine ec_getP (ci := 10) (j := 84) ⟨rfl, rfl, rfl⟩ g1 e3 rfl ?_
  refine ec_iconst cst_0 rfl ?_
  refine ec_iconst cst_230 rfl ?_
  refine en_aload rfl rfl ?_
  refine ec_getI (ci := 10) (j := 40) ⟨rfl, rfl, rfl⟩ g1 rfl ?_
  obtain ⟨⟨q4, C5⟩, e6, h⟩ := gb h
  dsimp only at h
  refine ec_callV1 (k' := 192) (n := 5) (rc := 10) (a := a0) (as := [.ref r2, .int (0 : Int32), .int (230 : Int32), .int (cI C a0 40)]) ⟨rfl, rfl⟩ rfl rfl (Nat.le_of_ble_eq_true rfl) (Nat.le_of_ble_eq_true rfl) (Nat.le_of_ble_eq_true rfl) g1 rfl (t_192 e6) ?_
  refine ec_iconst cst_m1 rfl ?_
  rcases gi h with ⟨c7, h⟩ | ⟨c7, h⟩
  · refine en_icmp_ne_t c7 rfl ?_
    refine ec_iconst cst_0 rfl ?_
    cases h
    exact en_zret (Or.inl rfl) rfl
  · refine en_icmp_ne_f c7 rfl ?_
    refine ec_iconst cst_1 rfl ?_
    refine en_goto rfl ?_
    cases h
    exact en_zret (Or.inr rfl) rfl
def lp_265_24 : Nat → Nat → Int32 → Int32 → AmC → Option (((Int32)) × AmC)
  | 0, _, _, _, _ => none
  | n + 1, p0, p2, p3, C => if isK p0 10 = true then (if ((cI C p0 65) - (1 : Int32)) ≤ p3 then some (p2, C) else (f_262 n p0 p3 C).bind (fun z => match z with | (_, C15) => (f_264 n p0 C15).bind (fun z => match z with | (q17, C18) => (if q17 = 0 then lp_265_24 n p0 (p2 + (1 : Int32)) (p3 + (1 : Int32)) C18 else lp_265_24 n p0 (p2 + (0 : Int32)) (p3 + (1 : Int32)) C18)))) else none
set_option maxRecDepth 20000 in
set_option maxHeartbeats 4000000 in
theorem lt_265_24 : ∀ (n : Nat) (p0 : Nat) (p2 : Int32) (p3 : Int32) (C : AmC) (r : ((Int32)) × AmC), lp_265_24 n p0 p2 p3 C = some r → ∀ (o : AmO) (M' : AmM), (match r with
        | (w2, C') => En false 265 44 [(2, .int w2)] [] (mkM C') o M') → En false 265 24 [(0, .ref p0), (2, .int p2), (3, .int p3)] [] (mkM C) o M' := by
  intro n
  induction n with
  | zero => intro p0 p2 p3 C r h; cases h
  | succ n ih =>
    intro p0 p2 p3 C r h o M' hk
    unfold lp_265_24 at h
    refine en_iload rfl rfl ?_
    refine en_aload rfl rfl ?_
    obtain ⟨g12, h⟩ := gd h
    refine ec_getI (ci := 10) (j := 65) ⟨rfl, rfl, rfl⟩ g12 rfl ?_
    refine ec_iconst cst_1 rfl ?_
    refine en_isub rfl ?_
    rcases gi h with ⟨c13, h⟩ | ⟨c13, h⟩
    · refine en_icmp_ge_t c13 rfl ?_
      cases h
      exact en_sub [1] rfl rfl hk
    · refine en_icmp_ge_f c13 rfl ?_
      refine en_aload rfl rfl ?_
      refine en_iload rfl rfl ?_
      obtain ⟨⟨q14, C15⟩, e16, h⟩ := gb h
      dsimp only at h
      refine ec_callV0 (k' := 262) (n := 2) (rc := 10) (a := p0) (as := [.int p3]) ⟨rfl, rfl⟩ rfl rfl (Nat.le_of_ble_eq_true rfl) (Nat.le_of_ble_eq_true rfl) (Nat.le_of_ble_eq_true rfl) g12 rfl (t_262 e16) ?_
      refine en_iload rfl rfl ?_
      refine en_aload rfl rfl ?_
      obtain ⟨⟨q17, C18⟩, e19, h⟩ := gb h
      dsimp only at h
      refine ec_callV1 (k' := 264) (n := 1) (rc := 10) (a := p0) (as := []) ⟨rfl, rfl⟩ rfl rfl (Nat.le_of_ble_eq_true rfl) (Nat.le_of_ble_eq_true rfl) (Nat.le_of_ble_eq_true rfl) g12 rfl (t_264 e19) ?_
      rcases gi h with ⟨c20, h⟩ | ⟨c20, h⟩
      · refine en_if_eq_t c20 rfl ?_
        refine ec_iconst cst_1 rfl ?_
        refine en_iadd rfl ?_
        refine en_istore (l' := [(2, .int (p2 + (1 : Int32))), (0, .ref p0), (3, .int p3)]) rfl rfl ?_
        refine ec_iinc (l' := [(3, .int (p3 + (1 : Int32))), (2, .int (p2 + (1 : Int32))), (0, .ref p0)]) rfl cst_1 rfl rfl ?_
        refine en_goto rfl ?_
        refine en_sub [2, 1, 0] rfl rfl ?_
        exact ih _ _ _ _ _ h o M' hk
      · refine en_if_eq_f c20 rfl ?_
        refine ec_iconst cst_0 rfl ?_
        refine en_goto rfl ?_
        refine en_iadd rfl ?_
        refine en_istore (l' := [(2, .int (p2 + (0 : Int32))), (0, .ref p0), (3, .int p3)]) rfl rfl ?_
        refine ec_iinc (l' := [(3, .int (p3 + (1 : Int32))), (2, .int (p2 + (0 : Int32))), (0, .ref p0)]) rfl cst_1 rfl rfl ?_
        refine en_goto rfl ?_
        refine en_sub [2, 1, 0] rfl rfl ?_
        exact ih _ _ _ _ _ h o M' hk
/-- BulkWriterModel.clashes(I)I -/
def f_265 (n : Nat) (a0 : Nat) (a1 : Int32) (C : AmC) : Option (Int32 × AmC) := if isK a0 10 = true then (f_250 n a0 a1 (uI C a0 5 (0 : Int32))).bind (fun z => match z with | (q2, C3) => (if ¬ q2 = 0 then (f_226 n a0 (((8 : Int32) * (cI C3 a0 40)) + a1) (0 : Int32) C3).bind (fun z => match z with | (_, C7) => (f_260 n a0 C7).bind (fun z => match z with | (_, C10) => (lp_265_24 n a0 (0 : Int32) (0 : Int32) C10).bind (fun q => match q with | (u24, C23) => some (u24, C23)))) else some ((0 : Int32), C3))) else none
set_option maxRecDepth 20000 in
set_option maxHeartbeats 4000000 in
theorem t_265 {n : Nat} {a0 : Nat} {a1 : Int32} {C : AmC} {r : Int32} {C' : AmC} (h : f_265 n a0 a1 C = some (r, C')) : En false 265 0 [(0, .ref a0), (1, .int a1)] [] (mkM C) (.inl (some (.int r))) (mkM C') := by
  unfold f_265 at h
  refine en_aload rfl rfl ?_
  refine ec_iconst cst_0 rfl ?_
  obtain ⟨g1, h⟩ := gd h
  refine ec_putI (ci := 10) (j := 5) ⟨rfl, rfl, rfl⟩ g1 rfl ?_
  refine en_aload rfl rfl ?_
  refine en_iload rfl rfl ?_
  obtain ⟨⟨q2, C3⟩, e4, h⟩ := gb h
  dsimp only at h
  refine ec_callV1 (k' := 250) (n := 2) (rc := 10) (a := a0) (as := [.int a1]) ⟨rfl, rfl⟩ rfl rfl (Nat.le_of_ble_eq_true rfl) (Nat.le_of_ble_eq_true rfl) (Nat.le_of_ble_eq_true rfl) g1 rfl (t_250 e4) ?_
  rcases gi h with ⟨c5, h⟩ | ⟨c5, h⟩
  · refine en_if_ne_t c5 rfl ?_
    refine en_aload rfl rfl ?_
    refine ec_iconst cst_8 rfl ?_
    refine en_aload rfl rfl ?_
    refine ec_getI (ci := 10) (j := 40) ⟨rfl, rfl, rfl⟩ g1 rfl ?_
    refine en_imul rfl ?_
    refine en_iload rfl rfl ?_
    refine en_iadd rfl ?_
    refine ec_iconst cst_0 rfl ?_
    obtain ⟨⟨q6, C7⟩, e8, h⟩ := gb h
    dsimp only at h
    refine ec_callV0 (k' := 226) (n := 3) (rc := 10) (a := a0) (as := [.int (((8 : Int32) * (cI C3 a0 40)) + a1), .int (0 : Int32)]) ⟨rfl, rfl⟩ rfl rfl (Nat.le_of_ble_eq_true rfl) (Nat.le_of_ble_eq_true rfl) (Nat.le_of_ble_eq_true rfl) g1 rfl (t_226 e8) ?_
    refine en_aload rfl rfl ?_
    obtain ⟨⟨q9, C10⟩, e11, h⟩ := gb h
    dsimp only at h
    refine ec_callV0 (k' := 260) (n := 1) (rc := 10) (a := a0) (as := []) ⟨rfl, rfl⟩ rfl rfl (Nat.le_of_ble_eq_true rfl) (Nat.le_of_ble_eq_true rfl) (Nat.le_of_ble_eq_true rfl) g1 rfl (t_260 e11) ?_
    refine ec_iconst cst_0 rfl ?_
    refine en_istore (l' := [(2, .int (0 : Int32)), (0, .ref a0), (1, .int a1)]) rfl rfl ?_
    refine ec_iconst cst_0 rfl ?_
    refine en_istore (l' := [(3, .int (0 : Int32)), (2, .int (0 : Int32)), (0, .ref a0), (1, .int a1)]) rfl rfl ?_
    obtain ⟨⟨q21, C23⟩, e22, h⟩ := gb h
    refine en_sub [2, 1, 0] rfl rfl (lt_265_24 n _ _ _ _ _ e22 _ _ ?_)
    revert h e22; revert q21; intro u24 e22 h
    dsimp only at h ⊢
    refine en_iload rfl rfl ?_
    cases h
    exact en_iret rfl
  · refine en_if_ne_f c5 rfl ?_
    refine ec_iconst cst_0 rfl ?_
    cases h
    exact en_iret rfl
/-- BulkWriterModel.isPutWell(I)Z -/
def f_267 (n : Nat) (a0 : Nat) (a1 : Int32) (C : AmC) : Option (Int32 × AmC) := if isK a0 10 = true then (f_262 n a0 a1 C).bind (fun z => match z with | (_, C3) => (f_264 n a0 C3).bind (fun z => match z with | (q5, C6) => (if q5 = 0 then (f_263 n a0 a1 C6).bind (fun z => match z with | (_, C10) => some ((0 : Int32), C10)) else some ((1 : Int32), C6)))) else none
set_option maxRecDepth 20000 in
set_option maxHeartbeats 4000000 in
theorem t_267 {n : Nat} {a0 : Nat} {a1 : Int32} {C : AmC} {r : Int32} {C' : AmC} (h : f_267 n a0 a1 C = some (r, C')) : En false 267 0 [(0, .ref a0), (1, .int a1)] [] (mkM C) (.inl (some (.int r))) (mkM C') := by
  unfold f_267 at h
  refine en_aload rfl rfl ?_
  refine en_iload rfl rfl ?_
  obtain ⟨g1, h⟩ := gd h
  obtain ⟨⟨q2, C3⟩, e4, h⟩ := gb h
  dsimp only at h
  refine ec_callV0 (k' := 262) (n := 2) (rc := 10) (a := a0) (as := [.int a1]) ⟨rfl, rfl⟩ rfl rfl (Nat.le_of_ble_eq_true rfl) (Nat.le_of_ble_eq_true rfl) (Nat.le_of_ble_eq_true rfl) g1 rfl (t_262 e4) ?_
  refine en_aload rfl rfl ?_
  obtain ⟨⟨q5, C6⟩, e7, h⟩ := gb h
  dsimp only at h
  refine ec_callV1 (k' := 264) (n := 1) (rc := 10) (a := a0) (as := []) ⟨rfl, rfl⟩ rfl rfl (Nat.le_of_ble_eq_true rfl) (Nat.le_of_ble_eq_true rfl) (Nat.le_of_ble_eq_true rfl) g1 rfl (t_264 e7) ?_
  rcases gi h with ⟨c8, h⟩ | ⟨c8, h⟩
  · refine en_if_eq_t c8 rfl ?_
    refine en_aload rfl rfl ?_
    refine en_iload rfl rfl ?_
    obtain ⟨⟨q9, C10⟩, e11, h⟩ := gb h
    dsimp only at h
    refine ec_callV0 (k' := 263) (n := 2) (rc := 10) (a := a0) (as := [.int a1]) ⟨rfl, rfl⟩ rfl rfl (Nat.le_of_ble_eq_true rfl) (Nat.le_of_ble_eq_true rfl) (Nat.le_of_ble_eq_true rfl) g1 rfl (t_263 e11) ?_
    refine ec_iconst cst_0 rfl ?_
    cases h
    exact en_zret (Or.inl rfl) rfl
  · refine en_if_eq_f c8 rfl ?_
    refine ec_iconst cst_1 rfl ?_
    cases h
    exact en_zret (Or.inr rfl) rfl
def lp_266_13 : Nat → Nat → Int32 → AmC → Option (((Nat)) × AmC)
  | 0, _, _, _ => none
  | n + 1, p0, p2, C => if isK p0 10 = true then (if (cI C p0 65) ≤ p2 then some (p0, C) else (cP C p0 87).bind (fun r11 => if isK r11 13 = true then if amIn p2 (aLen r11) = true then lp_266_13 n p0 (p2 + (1 : Int32)) (uI C r11 (Int32.toNatClampNeg p2) (0 : Int32)) else none else none)) else none
set_option maxRecDepth 20000 in
set_option maxHeartbeats 4000000 in
theorem lt_266_13 : ∀ (n : Nat) (p0 : Nat) (p2 : Int32) (C : AmC) (r : ((Nat)) × AmC), lp_266_13 n p0 p2 C = some r → ∀ (o : AmO) (M' : AmM), (match r with
        | (w0, C') => En false 266 24 [(0, .ref w0)] [] (mkM C') o M') → En false 266 13 [(0, .ref p0), (2, .int p2)] [] (mkM C) o M' := by
  intro n
  induction n with
  | zero => intro p0 p2 C r h; cases h
  | succ n ih =>
    intro p0 p2 C r h o M' hk
    unfold lp_266_13 at h
    refine en_iload rfl rfl ?_
    refine en_aload rfl rfl ?_
    obtain ⟨g9, h⟩ := gd h
    refine ec_getI (ci := 10) (j := 65) ⟨rfl, rfl, rfl⟩ g9 rfl ?_
    rcases gi h with ⟨c10, h⟩ | ⟨c10, h⟩
    · refine en_icmp_ge_t c10 rfl ?_
      cases h
      exact en_sub [0] rfl rfl hk
    · refine en_icmp_ge_f c10 rfl ?_
      refine en_aload rfl rfl ?_
      obtain ⟨r11, e12, h⟩ := gb h
      refine ec_getP (ci := 10) (j := 87) ⟨rfl, rfl, rfl⟩ g9 e12 rfl ?_
      refine en_iload rfl rfl ?_
      refine ec_iconst cst_0 rfl ?_
      obtain ⟨g13, h⟩ := gd h
      obtain ⟨g14, h⟩ := gd h
      refine ec_zastore g13 g14 (Or.inl rfl) rfl ?_
      refine ec_iinc (l' := [(2, .int (p2 + (1 : Int32))), (0, .ref p0)]) rfl cst_1 rfl rfl ?_
      refine en_goto rfl ?_
      refine en_sub [1, 0] rfl rfl ?_
      exact ih _ _ _ _ h o M' hk
def lp_266_34 : Nat → Nat → Int32 → Int32 → Int32 → AmC → Option (((Nat × Int32 × Int32)) × AmC)
  | 0, _, _, _, _, _ => none
  | n + 1, p0, p2, p3, p4, C => if isK p0 10 = true then (if (cI C p0 65) ≤ p4 then some ((p0, p2, p3), C) else (if ¬ p3 = (-1 : Int32) then some ((p0, p2, p3), C) else (cP C p0 87).bind (fun r24 => if isK r24 13 = true then if amIn p4 (aLen r24) = true then (if ¬ (cI C r24 (Int32.toNatClampNeg p4)) = 0 then lp_266_34 n p0 p2 p3 (p4 + (1 : Int32)) C else (f_267 n p0 p4 C).bind (fun z => match z with | (q29, C30) => (if q29 = 0 then lp_266_34 n p0 p2 p3 (p4 + (1 : Int32)) C30 else lp_266_34 n p0 p2 p4 (p4 + (1 : Int32)) C30))) else none else none))) else none
set_option maxRecDepth 20000 in
set_option maxHeartbeats 4000000 in
theorem lt_266_34 : ∀ (n : Nat) (p0 : Nat) (p2 : Int32) (p3 : Int32) (p4 : Int32) (C : AmC) (r : ((Nat × Int32 × Int32)) × AmC), lp_266_34 n p0 p2 p3 p4 C = some r → ∀ (o : AmO) (M' : AmM), (match r with
        | ((w0, w2, w3), C') => En false 266 54 [(0, .ref w0), (2, .int w2), (3, .int w3)] [] (mkM C') o M') → En false 266 34 [(0, .ref p0), (2, .int p2), (3, .int p3), (4, .int p4)] [] (mkM C) o M' := by
  intro n
  induction n with
  | zero => intro p0 p2 p3 p4 C r h; cases h
  | succ n ih =>
    intro p0 p2 p3 p4 C r h o M' hk
    unfold lp_266_34 at h
    refine en_iload rfl rfl ?_
    refine en_aload rfl rfl ?_
    obtain ⟨g21, h⟩ := gd h
    refine ec_getI (ci := 10) (j := 65) ⟨rfl, rfl, rfl⟩ g21 rfl ?_
    rcases gi h with ⟨c22, h⟩ | ⟨c22, h⟩
    · refine en_icmp_ge_t c22 rfl ?_
      cases h
      exact en_sub [0, 1, 2] rfl rfl hk
    · refine en_icmp_ge_f c22 rfl ?_
      refine en_iload rfl rfl ?_
      refine ec_iconst cst_m1 rfl ?_
      rcases gi h with ⟨c23, h⟩ | ⟨c23, h⟩
      · refine en_icmp_ne_t c23 rfl ?_
        cases h
        exact en_sub [0, 1, 2] rfl rfl hk
      · refine en_icmp_ne_f c23 rfl ?_
        refine en_aload rfl rfl ?_
        obtain ⟨r24, e25, h⟩ := gb h
        refine ec_getP (ci := 10) (j := 87) ⟨rfl, rfl, rfl⟩ g21 e25 rfl ?_
        refine en_iload rfl rfl ?_
        obtain ⟨g26, h⟩ := gd h
        obtain ⟨g27, h⟩ := gd h
        refine ec_baload g26 (by decide) g27 rfl ?_
        rcases gi h with ⟨c28, h⟩ | ⟨c28, h⟩
        · refine en_if_ne_t c28 rfl ?_
          refine ec_iinc (l' := [(4, .int (p4 + (1 : Int32))), (0, .ref p0), (2, .int p2), (3, .int p3)]) rfl cst_1 rfl rfl ?_
          refine en_goto rfl ?_
          refine en_sub [1, 2, 3, 0] rfl rfl ?_
          exact ih _ _ _ _ _ _ h o M' hk
        · refine en_if_ne_f c28 rfl ?_
          refine en_aload rfl rfl ?_
          refine en_iload rfl rfl ?_
          obtain ⟨⟨q29, C30⟩, e31, h⟩ := gb h
          dsimp only at h
          refine ec_callV1 (k' := 267) (n := 2) (rc := 10) (a := p0) (as := [.int p4]) ⟨rfl, rfl⟩ rfl rfl (Nat.le_of_ble_eq_true rfl) (Nat.le_of_ble_eq_true rfl) (Nat.le_of_ble_eq_true rfl) g21 rfl (t_267 e31) ?_
          rcases gi h with ⟨c32, h⟩ | ⟨c32, h⟩
          · refine en_if_eq_t c32 rfl ?_
            refine ec_iinc (l' := [(4, .int (p4 + (1 : Int32))), (0, .ref p0), (2, .int p2), (3, .int p3)]) rfl cst_1 rfl rfl ?_
            refine en_goto rfl ?_
            refine en_sub [1, 2, 3, 0] rfl rfl ?_
            exact ih _ _ _ _ _ _ h o M' hk
          · refine en_if_eq_f c32 rfl ?_
            refine en_iload rfl rfl ?_
            refine en_istore (l' := [(3, .int p4), (0, .ref p0), (2, .int p2), (4, .int p4)]) rfl rfl ?_
            refine ec_iinc (l' := [(4, .int (p4 + (1 : Int32))), (3, .int p4), (0, .ref p0), (2, .int p2)]) rfl cst_1 rfl rfl ?_
            refine en_goto rfl ?_
            refine en_sub [2, 3, 1, 0] rfl rfl ?_
            exact ih _ _ _ _ _ _ h o M' hk
def lp_266_26 : Nat → Nat → Int32 → AmC → Option (((Unit) ⊕ (Unit)) × AmC)
  | 0, _, _, _ => none
  | n + 1, p0, p2, C => if isK p0 10 = true then (if (cI C p0 65) ≤ p2 then some ((.inr ()), C) else (lp_266_34 n p0 p2 (-1 : Int32) (0 : Int32) C).bind (fun q => match q with | ((u36, u37, u38), C35) => (if ¬ u38 = (-1 : Int32) then if isK u36 10 = true then (cP C35 u36 87).bind (fun r41 => if isK r41 13 = true then if amIn u38 (aLen r41) = true then (cP (uI C35 r41 (Int32.toNatClampNeg u38) (1 : Int32)) u36 86).bind (fun r45 => if isK r45 12 = true then if amIn u37 (aLen r45) = true then lp_266_26 n u36 (u37 + (1 : Int32)) (uI (uI C35 r41 (Int32.toNatClampNeg u38) (1 : Int32)) r45 (Int32.toNatClampNeg u37) u38) else none else none) else none else none) else none else some ((.inl ()), C35)))) else none
set_option maxRecDepth 20000 in
set_option maxHeartbeats 4000000 in
theorem lt_266_26 : ∀ (n : Nat) (p0 : Nat) (p2 : Int32) (C : AmC) (r : ((Unit) ⊕ (Unit)) × AmC), lp_266_26 n p0 p2 C = some r → ∀ (o : AmO) (M' : AmM), (match r with
        | ((.inl _), C') => En false 266 57 [] [] (mkM C') o M'
        | ((.inr _), C') => En false 266 71 [] [] (mkM C') o M') → En false 266 26 [(0, .ref p0), (2, .int p2)] [] (mkM C) o M' := by
  intro n
  induction n with
  | zero => intro p0 p2 C r h; cases h
  | succ n ih =>
    intro p0 p2 C r h o M' hk
    unfold lp_266_26 at h
    refine en_iload rfl rfl ?_
    refine en_aload rfl rfl ?_
    obtain ⟨g19, h⟩ := gd h
    refine ec_getI (ci := 10) (j := 65) ⟨rfl, rfl, rfl⟩ g19 rfl ?_
    rcases gi h with ⟨c20, h⟩ | ⟨c20, h⟩
    · refine en_icmp_ge_t c20 rfl ?_
      cases h
      exact en_sub [] rfl rfl hk
    · refine en_icmp_ge_f c20 rfl ?_
      refine ec_iconst cst_m1 rfl ?_
      refine en_istore (l' := [(3, .int (-1 : Int32)), (0, .ref p0), (2, .int p2)]) rfl rfl ?_
      refine ec_iconst cst_0 rfl ?_
      refine en_istore (l' := [(4, .int (0 : Int32)), (3, .int (-1 : Int32)), (0, .ref p0), (2, .int p2)]) rfl rfl ?_
      obtain ⟨⟨q33, C35⟩, e34, h⟩ := gb h
      refine en_sub [2, 3, 1, 0] rfl rfl (lt_266_34 n _ _ _ _ _ _ e34 o M' ?_)
      obtain ⟨u36, u37, u38⟩ := q33
      dsimp only at h ⊢
      refine en_iload rfl rfl ?_
      refine ec_iconst cst_m1 rfl ?_
      rcases gi h with ⟨c39, h⟩ | ⟨c39, h⟩
      · refine en_icmp_ne_t c39 rfl ?_
        refine en_aload rfl rfl ?_
        obtain ⟨g40, h⟩ := gd h
        obtain ⟨r41, e42, h⟩ := gb h
        refine ec_getP (ci := 10) (j := 87) ⟨rfl, rfl, rfl⟩ g40 e42 rfl ?_
        refine en_iload rfl rfl ?_
        refine ec_iconst cst_1 rfl ?_
        obtain ⟨g43, h⟩ := gd h
        obtain ⟨g44, h⟩ := gd h
        refine ec_zastore g43 g44 (Or.inr rfl) rfl ?_
        refine en_aload rfl rfl ?_
        obtain ⟨r45, e46, h⟩ := gb h
        refine ec_getP (ci := 10) (j := 86) ⟨rfl, rfl, rfl⟩ g40 e46 rfl ?_
        refine en_iload rfl rfl ?_
        refine en_iload rfl rfl ?_
        obtain ⟨g47, h⟩ := gd h
        obtain ⟨g48, h⟩ := gd h
        refine ec_iastore g47 g48 rfl ?_
        refine ec_iinc (l' := [(2, .int (u37 + (1 : Int32))), (0, .ref u36), (3, .int u38)]) rfl cst_1 rfl rfl ?_
        refine en_goto rfl ?_
        refine en_sub [1, 0] rfl rfl ?_
        exact ih _ _ _ _ h o M' hk
      · refine en_icmp_ne_f c39 rfl ?_
        cases h
        exact en_sub [] rfl rfl hk
/-- BulkWriterModel.isOrdered(I)Z -/
def f_266 (n : Nat) (a0 : Nat) (a1 : Int32) (C : AmC) : Option (Int32 × AmC) := if isK a0 10 = true then (f_226 n a0 a1 (0 : Int32) C).bind (fun z => match z with | (_, C3) => (if (cI C3 a0 66) = 0 then (f_260 n a0 C3).bind (fun z => match z with | (_, C7) => (lp_266_13 n a0 (0 : Int32) C7).bind (fun q => match q with | (u18, C17) => (lp_266_26 n u18 (0 : Int32) C17).bind (fun q => match q with | ((.inl _), C51) => some ((0 : Int32), C51) | ((.inr _), C51) => some ((1 : Int32), C51)))) else some ((0 : Int32), C3))) else none
set_option maxRecDepth 20000 in
set_option maxHeartbeats 4000000 in
theorem t_266 {n : Nat} {a0 : Nat} {a1 : Int32} {C : AmC} {r : Int32} {C' : AmC} (h : f_266 n a0 a1 C = some (r, C')) : En false 266 0 [(0, .ref a0), (1, .int a1)] [] (mkM C) (.inl (some (.int r))) (mkM C') := by
  unfold f_266 at h
  refine en_aload rfl rfl ?_
  refine en_iload rfl rfl ?_
  refine ec_iconst cst_0 rfl ?_
  obtain ⟨g1, h⟩ := gd h
  obtain ⟨⟨q2, C3⟩, e4, h⟩ := gb h
  dsimp only at h
  refine ec_callV0 (k' := 226) (n := 3) (rc := 10) (a := a0) (as := [.int a1, .int (0 : Int32)]) ⟨rfl, rfl⟩ rfl rfl (Nat.le_of_ble_eq_true rfl) (Nat.le_of_ble_eq_true rfl) (Nat.le_of_ble_eq_true rfl) g1 rfl (t_226 e4) ?_
  refine en_aload rfl rfl ?_
  refine ec_getI (ci := 10) (j := 66) ⟨rfl, rfl, rfl⟩ g1 rfl ?_
  rcases gi h with ⟨c5, h⟩ | ⟨c5, h⟩
  · refine en_if_eq_t c5 rfl ?_
    refine en_aload rfl rfl ?_
    obtain ⟨⟨q6, C7⟩, e8, h⟩ := gb h
    dsimp only at h
    refine ec_callV0 (k' := 260) (n := 1) (rc := 10) (a := a0) (as := []) ⟨rfl, rfl⟩ rfl rfl (Nat.le_of_ble_eq_true rfl) (Nat.le_of_ble_eq_true rfl) (Nat.le_of_ble_eq_true rfl) g1 rfl (t_260 e8) ?_
    refine ec_iconst cst_0 rfl ?_
    refine en_istore (l' := [(2, .int (0 : Int32)), (0, .ref a0), (1, .int a1)]) rfl rfl ?_
    obtain ⟨⟨q15, C17⟩, e16, h⟩ := gb h
    refine en_sub [1, 0] rfl rfl (lt_266_13 n _ _ _ _ e16 _ _ ?_)
    revert h e16; revert q15; intro u18 e16 h
    dsimp only at h ⊢
    refine ec_iconst cst_0 rfl ?_
    refine en_istore (l' := [(2, .int (0 : Int32)), (0, .ref u18)]) rfl rfl ?_
    obtain ⟨⟨q49, C51⟩, e50, h⟩ := gb h
    refine en_sub [1, 0] rfl rfl (lt_266_26 n _ _ _ _ e50 _ _ ?_)
    rcases q49 with ⟨⟩ | ⟨⟩
    · dsimp only at h ⊢
      refine ec_iconst cst_0 rfl ?_
      cases h
      exact en_zret (Or.inl rfl) rfl
    · dsimp only at h ⊢
      refine ec_iconst cst_1 rfl ?_
      cases h
      exact en_zret (Or.inr rfl) rfl
  · refine en_if_eq_f c5 rfl ?_
    refine ec_iconst cst_0 rfl ?_
    cases h
    exact en_zret (Or.inl rfl) rfl
/-- BulkWriterModel.order(II)I -/
def f_268 (n : Nat) (a0 : Nat) (a1 : Int32) (a2 : Int32) (C : AmC) : Option (Int32 × AmC) := if isK a0 10 = true then (f_250 n a0 a1 (uI C a0 5 (0 : Int32))).bind (fun z => match z with | (q2, C3) => (if ¬ q2 = 0 then (f_266 n a0 (((8 : Int32) * (cI C3 a0 40)) + a1) C3).bind (fun z => match z with | (q6, C7) => (if ¬ a2 = (-1 : Int32) then (if q6 = 0 then (f_162 n a0 (0 : Int32) (1 : Int32) C7).bind (fun z => match z with | (q11, C12) => (if q11 = 0 then some ((0 : Int32), C12) else (cP C12 a0 86).bind (fun r15 => if isK r15 12 = true then if amIn a2 (aLen r15) = true then some ((cI C12 r15 (Int32.toNatClampNeg a2)), C12) else none else none))) else (if a2 < 0 then (f_162 n a0 (0 : Int32) (1 : Int32) C7).bind (fun z => match z with | (q20, C21) => (if q20 = 0 then some ((0 : Int32), C21) else (cP C21 a0 86).bind (fun r24 => if isK r24 12 = true then if amIn a2 (aLen r24) = true then some ((cI C21 r24 (Int32.toNatClampNeg a2)), C21) else none else none))) else (if (cI C7 a0 65) ≤ a2 then (f_162 n a0 (0 : Int32) (1 : Int32) C7).bind (fun z => match z with | (q29, C30) => (if q29 = 0 then some ((0 : Int32), C30) else (cP C30 a0 86).bind (fun r33 => if isK r33 12 = true then if amIn a2 (aLen r33) = true then some ((cI C30 r33 (Int32.toNatClampNeg a2)), C30) else none else none))) else (f_162 n a0 (1 : Int32) (1 : Int32) C7).bind (fun z => match z with | (q37, C38) => (if q37 = 0 then some ((0 : Int32), C38) else (cP C38 a0 86).bind (fun r41 => if isK r41 12 = true then if amIn a2 (aLen r41) = true then some ((cI C38 r41 (Int32.toNatClampNeg a2)), C38) else none else none)))))) else (if q6 = 0 then some ((-1 : Int32), C7) else some ((cI C7 a0 65), C7)))) else some ((0 : Int32), C3))) else none
set_option maxRecDepth 20000 in
set_option maxHeartbeats 4000000 in
theorem t_268 {n : Nat} {a0 : Nat} {a1 : Int32} {a2 : Int32} {C : AmC} {r : Int32} {C' : AmC} (h : f_268 n a0 a1 a2 C = some (r, C')) : En false 268 0 [(0, .ref a0), (1, .int a1), (2, .int a2)] [] (mkM C) (.inl (some (.int r))) (mkM C') := by
  unfold f_268 at h
  refine en_aload rfl rfl ?_
  refine ec_iconst cst_0 rfl ?_
  obtain ⟨g1, h⟩ := gd h
  refine ec_putI (ci := 10) (j := 5) ⟨rfl, rfl, rfl⟩ g1 rfl ?_
  refine en_aload rfl rfl ?_
  refine en_iload rfl rfl ?_
  obtain ⟨⟨q2, C3⟩, e4, h⟩ := gb h
  dsimp only at h
  refine ec_callV1 (k' := 250) (n := 2) (rc := 10) (a := a0) (as := [.int a1]) ⟨rfl, rfl⟩ rfl rfl (Nat.le_of_ble_eq_true rfl) (Nat.le_of_ble_eq_true rfl) (Nat.le_of_ble_eq_true rfl) g1 rfl (t_250 e4) ?_
  rcases gi h with ⟨c5, h⟩ | ⟨c5, h⟩
  · refine en_if_ne_t c5 rfl ?_
    refine en_aload rfl rfl ?_
    refine ec_iconst cst_8 rfl ?_
    refine en_aload rfl rfl ?_
    refine ec_getI (ci := 10) (j := 40) ⟨rfl, rfl, rfl⟩ g1 rfl ?_
    refine en_imul rfl ?_
    refine en_iload rfl rfl ?_
    refine en_iadd rfl ?_
    obtain ⟨⟨q6, C7⟩, e8, h⟩ := gb h
    dsimp only at h
    refine ec_callV1 (k' := 266) (n := 2) (rc := 10) (a := a0) (as := [.int (((8 : Int32) * (cI C3 a0 40)) + a1)]) ⟨rfl, rfl⟩ rfl rfl (Nat.le_of_ble_eq_true rfl) (Nat.le_of_ble_eq_true rfl) (Nat.le_of_ble_eq_true rfl) g1 rfl (t_266 e8) ?_
    refine en_istore (l' := [(3, .int q6), (0, .ref a0), (1, .int a1), (2, .int a2)]) rfl rfl ?_
    refine en_iload rfl rfl ?_
    refine ec_iconst cst_m1 rfl ?_
    rcases gi h with ⟨c9, h⟩ | ⟨c9, h⟩
    · refine en_icmp_ne_t c9 rfl ?_
      refine en_aload rfl rfl ?_
      refine en_iload rfl rfl ?_
      rcases gi h with ⟨c10, h⟩ | ⟨c10, h⟩
      · refine en_if_eq_t c10 rfl ?_
        refine ec_iconst cst_0 rfl ?_
        refine ec_iconst cst_1 rfl ?_
        obtain ⟨⟨q11, C12⟩, e13, h⟩ := gb h
        dsimp only at h
        refine ec_callV1 (k' := 162) (n := 3) (rc := 10) (a := a0) (as := [.int (0 : Int32), .int (1 : Int32)]) ⟨rfl, rfl⟩ rfl rfl (Nat.le_of_ble_eq_true rfl) (Nat.le_of_ble_eq_true rfl) (Nat.le_of_ble_eq_true rfl) g1 rfl (t_162 e13) ?_
        rcases gi h with ⟨c14, h⟩ | ⟨c14, h⟩
        · refine en_if_eq_t c14 rfl ?_
          refine ec_iconst cst_0 rfl ?_
          cases h
          exact en_iret rfl
        · refine en_if_eq_f c14 rfl ?_
          refine en_aload rfl rfl ?_
          obtain ⟨r15, e16, h⟩ := gb h
          refine ec_getP (ci := 10) (j := 86) ⟨rfl, rfl, rfl⟩ g1 e16 rfl ?_
          refine en_iload rfl rfl ?_
          obtain ⟨g17, h⟩ := gd h
          obtain ⟨g18, h⟩ := gd h
          refine ec_iaload g17 g18 rfl ?_
          refine en_goto rfl ?_
          cases h
          exact en_iret rfl
      · refine en_if_eq_f c10 rfl ?_
        refine en_iload rfl rfl ?_
        rcases gi h with ⟨c19, h⟩ | ⟨c19, h⟩
        · refine en_if_lt_t c19 rfl ?_
          refine ec_iconst cst_0 rfl ?_
          refine ec_iconst cst_1 rfl ?_
          obtain ⟨⟨q20, C21⟩, e22, h⟩ := gb h
          dsimp only at h
          refine ec_callV1 (k' := 162) (n := 3) (rc := 10) (a := a0) (as := [.int (0 : Int32), .int (1 : Int32)]) ⟨rfl, rfl⟩ rfl rfl (Nat.le_of_ble_eq_true rfl) (Nat.le_of_ble_eq_true rfl) (Nat.le_of_ble_eq_true rfl) g1 rfl (t_162 e22) ?_
          rcases gi h with ⟨c23, h⟩ | ⟨c23, h⟩
          · refine en_if_eq_t c23 rfl ?_
            refine ec_iconst cst_0 rfl ?_
            cases h
            exact en_iret rfl
          · refine en_if_eq_f c23 rfl ?_
            refine en_aload rfl rfl ?_
            obtain ⟨r24, e25, h⟩ := gb h
            refine ec_getP (ci := 10) (j := 86) ⟨rfl, rfl, rfl⟩ g1 e25 rfl ?_
            refine en_iload rfl rfl ?_
            obtain ⟨g26, h⟩ := gd h
            obtain ⟨g27, h⟩ := gd h
            refine ec_iaload g26 g27 rfl ?_
            refine en_goto rfl ?_
            cases h
            exact en_iret rfl
        · refine en_if_lt_f c19 rfl ?_
          refine en_iload rfl rfl ?_
          refine en_aload rfl rfl ?_
          refine ec_getI (ci := 10) (j := 65) ⟨rfl, rfl, rfl⟩ g1 rfl ?_
          rcases gi h with ⟨c28, h⟩ | ⟨c28, h⟩
          · refine en_icmp_ge_t c28 rfl ?_
            refine ec_iconst cst_0 rfl ?_
            refine ec_iconst cst_1 rfl ?_
            obtain ⟨⟨q29, C30⟩, e31, h⟩ := gb h
            dsimp only at h
            refine ec_callV1 (k' := 162) (n := 3) (rc := 10) (a := a0) (as := [.int (0 : Int32), .int (1 : Int32)]) ⟨rfl, rfl⟩ rfl rfl (Nat.le_of_ble_eq_true rfl) (Nat.le_of_ble_eq_true rfl) (Nat.le_of_ble_eq_true rfl) g1 rfl (t_162 e31) ?_
            rcases gi h with ⟨c32, h⟩ | ⟨c32, h⟩
            · refine en_if_eq_t c32 rfl ?_
              refine ec_iconst cst_0 rfl ?_
              cases h
              exact en_iret rfl
            · refine en_if_eq_f c32 rfl ?_
              refine en_aload rfl rfl ?_
              obtain ⟨r33, e34, h⟩ := gb h
              refine ec_getP (ci := 10) (j := 86) ⟨rfl, rfl, rfl⟩ g1 e34 rfl ?_
              refine en_iload rfl rfl ?_
              obtain ⟨g35, h⟩ := gd h
              obtain ⟨g36, h⟩ := gd h
              refine ec_iaload g35 g36 rfl ?_
              refine en_goto rfl ?_
              cases h
              exact en_iret rfl
          · refine en_icmp_ge_f c28 rfl ?_
            refine ec_iconst cst_1 rfl ?_
            refine en_goto rfl ?_
            refine ec_iconst cst_1 rfl ?_
            obtain ⟨⟨q37, C38⟩, e39, h⟩ := gb h
            dsimp only at h
            refine ec_callV1 (k' := 162) (n := 3) (rc := 10) (a := a0) (as := [.int (1 : Int32), .int (1 : Int32)]) ⟨rfl, rfl⟩ rfl rfl (Nat.le_of_ble_eq_true rfl) (Nat.le_of_ble_eq_true rfl) (Nat.le_of_ble_eq_true rfl) g1 rfl (t_162 e39) ?_
            rcases gi h with ⟨c40, h⟩ | ⟨c40, h⟩
            · refine en_if_eq_t c40 rfl ?_
              refine ec_iconst cst_0 rfl ?_
              cases h
              exact en_iret rfl
            · refine en_if_eq_f c40 rfl ?_
              refine en_aload rfl rfl ?_
              obtain ⟨r41, e42, h⟩ := gb h
              refine ec_getP (ci := 10) (j := 86) ⟨rfl, rfl, rfl⟩ g1 e42 rfl ?_
              refine en_iload rfl rfl ?_
              obtain ⟨g43, h⟩ := gd h
              obtain ⟨g44, h⟩ := gd h
              refine ec_iaload g43 g44 rfl ?_
              refine en_goto rfl ?_
              cases h
              exact en_iret rfl
    · refine en_icmp_ne_f c9 rfl ?_
      refine en_iload rfl rfl ?_
      rcases gi h with ⟨c45, h⟩ | ⟨c45, h⟩
      · refine en_if_eq_t c45 rfl ?_
        refine ec_iconst cst_m1 rfl ?_
        cases h
        exact en_iret rfl
      · refine en_if_eq_f c45 rfl ?_
        refine en_aload rfl rfl ?_
        refine ec_getI (ci := 10) (j := 65) ⟨rfl, rfl, rfl⟩ g1 rfl ?_
        refine en_goto rfl ?_
        cases h
        exact en_iret rfl
  · refine en_if_ne_f c5 rfl ?_
    refine ec_iconst cst_0 rfl ?_
    cases h
    exact en_iret rfl
/-- BulkWriterModel.keptAt(II)I -/
def f_269 (n : Nat) (a0 : Int32) (a1 : Int32) (C : AmC) : Option (Int32 × AmC) := some (((300 : Int32) + ((150 : Int32) * ((a0 + a1) - (a0 + a1) / (40 : Int32) * (40 : Int32)))), C)
set_option maxRecDepth 20000 in
set_option maxHeartbeats 4000000 in
theorem t_269 {n : Nat} {a0 : Int32} {a1 : Int32} {C : AmC} {r : Int32} {C' : AmC} (h : f_269 n a0 a1 C = some (r, C')) : En false 269 0 [(0, .int a0), (1, .int a1)] [] (mkM C) (.inl (some (.int r))) (mkM C') := by
  unfold f_269 at h
  refine ec_iconst cst_300 rfl ?_
  refine ec_iconst cst_150 rfl ?_
  refine en_iload rfl rfl ?_
  refine en_iload rfl rfl ?_
  refine en_iadd rfl ?_
  refine ec_iconst cst_40 rfl ?_
  refine en_irem (by decide) rfl ?_
  refine en_imul rfl ?_
  refine en_iadd rfl ?_
  cases h
  exact en_iret rfl
/-- BulkWriterModel.keeps()V -/
def f_270 (n : Nat) (a0 : Nat) (C : AmC) : Option (Unit × AmC) := if isK a0 10 = true then (if ¬ (cI C a0 6) = (40 : Int32) then (f_269 n (cI C a0 7) (cI C a0 6) C).bind (fun z => match z with | (q3, C4) => (f_164 n a0 (0 : Int32) q3 (150 : Int32) C4).bind (fun z => match z with | (_, C7) => some ((), uI C7 a0 6 ((cI C7 a0 6) + (1 : Int32))))) else (f_269 n (cI (uI (uI C a0 7 (((cI C a0 7) + (1 : Int32)) - ((cI C a0 7) + (1 : Int32)) / (40 : Int32) * (40 : Int32))) a0 6 ((cI (uI C a0 7 (((cI C a0 7) + (1 : Int32)) - ((cI C a0 7) + (1 : Int32)) / (40 : Int32) * (40 : Int32))) a0 6) - (1 : Int32))) a0 7) (cI (uI (uI C a0 7 (((cI C a0 7) + (1 : Int32)) - ((cI C a0 7) + (1 : Int32)) / (40 : Int32) * (40 : Int32))) a0 6 ((cI (uI C a0 7 (((cI C a0 7) + (1 : Int32)) - ((cI C a0 7) + (1 : Int32)) / (40 : Int32) * (40 : Int32))) a0 6) - (1 : Int32))) a0 6) (uI (uI C a0 7 (((cI C a0 7) + (1 : Int32)) - ((cI C a0 7) + (1 : Int32)) / (40 : Int32) * (40 : Int32))) a0 6 ((cI (uI C a0 7 (((cI C a0 7) + (1 : Int32)) - ((cI C a0 7) + (1 : Int32)) / (40 : Int32) * (40 : Int32))) a0 6) - (1 : Int32)))).bind (fun z => match z with | (q9, C10) => (f_164 n a0 (0 : Int32) q9 (150 : Int32) C10).bind (fun z => match z with | (_, C13) => some ((), uI C13 a0 6 ((cI C13 a0 6) + (1 : Int32)))))) else none
set_option maxRecDepth 20000 in
set_option maxHeartbeats 4000000 in
theorem t_270 {n : Nat} {a0 : Nat} {C : AmC} {r : Unit} {C' : AmC} (h : f_270 n a0 C = some (r, C')) : En false 270 0 [(0, .ref a0)] [] (mkM C) (.inl none) (mkM C') := by
  unfold f_270 at h
  refine en_aload rfl rfl ?_
  obtain ⟨g1, h⟩ := gd h
  refine ec_getI (ci := 10) (j := 6) ⟨rfl, rfl, rfl⟩ g1 rfl ?_
  refine ec_iconst cst_40 rfl ?_
  rcases gi h with ⟨c2, h⟩ | ⟨c2, h⟩
  · refine en_icmp_ne_t c2 rfl ?_
    refine en_aload rfl rfl ?_
    refine ec_iconst cst_0 rfl ?_
    refine en_aload rfl rfl ?_
    refine ec_getI (ci := 10) (j := 7) ⟨rfl, rfl, rfl⟩ g1 rfl ?_
    refine en_aload rfl rfl ?_
    refine ec_getI (ci := 10) (j := 6) ⟨rfl, rfl, rfl⟩ g1 rfl ?_
    obtain ⟨⟨q3, C4⟩, e5, h⟩ := gb h
    dsimp only at h
    refine ec_callS1 (k' := 269) (n := 2) (as := [.int (cI C a0 7), .int (cI C a0 6)]) rfl rfl rfl (Nat.le_of_ble_eq_true rfl) (Nat.le_of_ble_eq_true rfl) (Nat.le_of_ble_eq_true rfl) rfl (t_269 e5) ?_
    refine ec_iconst cst_150 rfl ?_
    obtain ⟨⟨q6, C7⟩, e8, h⟩ := gb h
    dsimp only at h
    refine ec_callV0 (k' := 164) (n := 4) (rc := 10) (a := a0) (as := [.int (0 : Int32), .int q3, .int (150 : Int32)]) ⟨rfl, rfl⟩ rfl rfl (Nat.le_of_ble_eq_true rfl) (Nat.le_of_ble_eq_true rfl) (Nat.le_of_ble_eq_true rfl) g1 rfl (t_164 e8) ?_
    refine en_aload rfl rfl ?_
    refine en_dup rfl rfl ?_
    refine ec_getI (ci := 10) (j := 6) ⟨rfl, rfl, rfl⟩ g1 rfl ?_
    refine ec_iconst cst_1 rfl ?_
    refine en_iadd rfl ?_
    refine ec_putI (ci := 10) (j := 6) ⟨rfl, rfl, rfl⟩ g1 rfl ?_
    cases h
    exact en_vret rfl
  · refine en_icmp_ne_f c2 rfl ?_
    refine en_aload rfl rfl ?_
    refine en_aload rfl rfl ?_
    refine ec_getI (ci := 10) (j := 7) ⟨rfl, rfl, rfl⟩ g1 rfl ?_
    refine ec_iconst cst_1 rfl ?_
    refine en_iadd rfl ?_
    refine ec_iconst cst_40 rfl ?_
    refine en_irem (by decide) rfl ?_
    refine ec_putI (ci := 10) (j := 7) ⟨rfl, rfl, rfl⟩ g1 rfl ?_
    refine en_aload rfl rfl ?_
    refine en_dup rfl rfl ?_
    refine ec_getI (ci := 10) (j := 6) ⟨rfl, rfl, rfl⟩ g1 rfl ?_
    refine ec_iconst cst_1 rfl ?_
    refine en_isub rfl ?_
    refine ec_putI (ci := 10) (j := 6) ⟨rfl, rfl, rfl⟩ g1 rfl ?_
    refine en_aload rfl rfl ?_
    refine ec_iconst cst_0 rfl ?_
    refine en_aload rfl rfl ?_
    refine ec_getI (ci := 10) (j := 7) ⟨rfl, rfl, rfl⟩ g1 rfl ?_
    refine en_aload rfl rfl ?_
    refine ec_getI (ci := 10) (j := 6) ⟨rfl, rfl, rfl⟩ g1 rfl ?_
    obtain ⟨⟨q9, C10⟩, e11, h⟩ := gb h
    dsimp only at h
    refine ec_callS1 (k' := 269) (n := 2) (as := [.int (cI (uI (uI C a0 7 (((cI C a0 7) + (1 : Int32)) - ((cI C a0 7) + (1 : Int32)) / (40 : Int32) * (40 : Int32))) a0 6 ((cI (uI C a0 7 (((cI C a0 7) + (1 : Int32)) - ((cI C a0 7) + (1 : Int32)) / (40 : Int32) * (40 : Int32))) a0 6) - (1 : Int32))) a0 7), .int (cI (uI (uI C a0 7 (((cI C a0 7) + (1 : Int32)) - ((cI C a0 7) + (1 : Int32)) / (40 : Int32) * (40 : Int32))) a0 6 ((cI (uI C a0 7 (((cI C a0 7) + (1 : Int32)) - ((cI C a0 7) + (1 : Int32)) / (40 : Int32) * (40 : Int32))) a0 6) - (1 : Int32))) a0 6)]) rfl rfl rfl (Nat.le_of_ble_eq_true rfl) (Nat.le_of_ble_eq_true rfl) (Nat.le_of_ble_eq_true rfl) rfl (t_269 e11) ?_
    refine ec_iconst cst_150 rfl ?_
    obtain ⟨⟨q12, C13⟩, e14, h⟩ := gb h
    dsimp only at h
    refine ec_callV0 (k' := 164) (n := 4) (rc := 10) (a := a0) (as := [.int (0 : Int32), .int q9, .int (150 : Int32)]) ⟨rfl, rfl⟩ rfl rfl (Nat.le_of_ble_eq_true rfl) (Nat.le_of_ble_eq_true rfl) (Nat.le_of_ble_eq_true rfl) g1 rfl (t_164 e14) ?_
    refine en_aload rfl rfl ?_
    refine en_dup rfl rfl ?_
    refine ec_getI (ci := 10) (j := 6) ⟨rfl, rfl, rfl⟩ g1 rfl ?_
    refine ec_iconst cst_1 rfl ?_
    refine en_iadd rfl ?_
    refine ec_putI (ci := 10) (j := 6) ⟨rfl, rfl, rfl⟩ g1 rfl ?_
    cases h
    exact en_vret rfl
def lp_271_2 : Nat → Nat → Int32 → Int32 → AmC → Option (((Unit)) × AmC)
  | 0, _, _, _, _ => none
  | n + 1, p0, p1, p2, C => (if (150 : Int32) ≤ p2 then some ((), C) else if isK p0 10 = true then (cP C p0 0).bind (fun r3 => (cP C p0 57).bind (fun r5 => if isK r5 12 = true then if amIn p2 (aLen r5) = true then if isK r3 12 = true then if amIn (p1 + p2) (aLen r3) = true then lp_271_2 n p0 p1 (p2 + (1 : Int32)) (uI C r3 (Int32.toNatClampNeg (p1 + p2)) (cI C r5 (Int32.toNatClampNeg p2))) else none else none else none else none)) else none)
set_option maxRecDepth 20000 in
set_option maxHeartbeats 4000000 in
theorem lt_271_2 : ∀ (n : Nat) (p0 : Nat) (p1 : Int32) (p2 : Int32) (C : AmC) (r : ((Unit)) × AmC), lp_271_2 n p0 p1 p2 C = some r → ∀ (o : AmO) (M' : AmM), (match r with
        | (_, C') => En false 271 17 [] [] (mkM C') o M') → En false 271 2 [(0, .ref p0), (1, .int p1), (2, .int p2)] [] (mkM C) o M' := by
  intro n
  induction n with
  | zero => intro p0 p1 p2 C r h; cases h
  | succ n ih =>
    intro p0 p1 p2 C r h o M' hk
    unfold lp_271_2 at h
    refine en_iload rfl rfl ?_
    refine ec_iconst cst_150 rfl ?_
    rcases gi h with ⟨c1, h⟩ | ⟨c1, h⟩
    · refine en_icmp_ge_t c1 rfl ?_
      cases h
      exact en_sub [] rfl rfl hk
    · refine en_icmp_ge_f c1 rfl ?_
      refine en_aload rfl rfl ?_
      obtain ⟨g2, h⟩ := gd h
      obtain ⟨r3, e4, h⟩ := gb h
      refine ec_getP (ci := 10) (j := 0) ⟨rfl, rfl, rfl⟩ g2 e4 rfl ?_
      refine en_iload rfl rfl ?_
      refine en_iload rfl rfl ?_
      refine en_iadd rfl ?_
      refine en_aload rfl rfl ?_
      obtain ⟨r5, e6, h⟩ := gb h
      refine ec_getP (ci := 10) (j := 57) ⟨rfl, rfl, rfl⟩ g2 e6 rfl ?_
      refine en_iload rfl rfl ?_
      obtain ⟨g7, h⟩ := gd h
      obtain ⟨g8, h⟩ := gd h
      refine ec_iaload g7 g8 rfl ?_
      obtain ⟨g9, h⟩ := gd h
      obtain ⟨g10, h⟩ := gd h
      refine ec_iastore g9 g10 rfl ?_
      refine ec_iinc (l' := [(2, .int (p2 + (1 : Int32))), (0, .ref p0), (1, .int p1)]) rfl cst_1 rfl rfl ?_
      refine en_goto rfl ?_
      refine en_sub [1, 2, 0] rfl rfl ?_
      exact ih _ _ _ _ _ h o M' hk
/-- BulkWriterModel.laysBack(I)V -/
def f_271 (n : Nat) (a0 : Nat) (a1 : Int32) (C : AmC) : Option (Unit × AmC) := (lp_271_2 n a0 a1 (0 : Int32) C).bind (fun q => match q with | (_, C13) => some ((), C13))
set_option maxRecDepth 20000 in
set_option maxHeartbeats 4000000 in
theorem t_271 {n : Nat} {a0 : Nat} {a1 : Int32} {C : AmC} {r : Unit} {C' : AmC} (h : f_271 n a0 a1 C = some (r, C')) : En false 271 0 [(0, .ref a0), (1, .int a1)] [] (mkM C) (.inl none) (mkM C') := by
  unfold f_271 at h
  refine ec_iconst cst_0 rfl ?_
  refine en_istore (l' := [(2, .int (0 : Int32)), (0, .ref a0), (1, .int a1)]) rfl rfl ?_
  obtain ⟨⟨q11, C13⟩, e12, h⟩ := gb h
  refine en_sub [1, 2, 0] rfl rfl (lt_271_2 n _ _ _ _ _ e12 _ _ ?_)
  dsimp only at h ⊢
  cases h
  exact en_vret rfl
theorem so9 {α β : Type} {a c : α} {b d : β} (h : some (a, b) = some (c, d)) : a = c ∧ b = d := ⟨congrArg Prod.fst (Option.some.inj h), congrArg Prod.snd (Option.some.inj h)⟩
/-- BulkWriterModel.run(I)I -/
def f_272 (n : Nat) (a0 : Nat) (a1 : Int32) (C : AmC) : Option (Int32 × AmC) := if isK a0 10 = true then (f_250 n a0 a1 (uI C a0 5 (0 : Int32))).bind (fun z => match z with | (q2, C3) => (if ¬ q2 = 0 then (f_226 n a0 (((8 : Int32) * (cI C3 a0 40)) + a1) (0 : Int32) C3).bind (fun z => match z with | (_, C7) => (if (cI C7 a0 66) = 0 then (f_270 n a0 C7).bind (fun z => match z with | (_, C11) => (f_271 n a0 (0 : Int32) C11).bind (fun z => match z with | (_, C14) => some ((cI C14 a0 65), C14))) else (cP C7 a0 4).bind (fun r16 => if isK r16 12 = true then if amIn (1 : Int32) (aLen r16) = true then if amIn (1 : Int32) (aLen r16) = true then some (((-1 : Int32) - (cI (uI C7 r16 (Int32.toNatClampNeg (1 : Int32)) ((cI C7 r16 (Int32.toNatClampNeg (1 : Int32))) + (1 : Int32))) a0 66)), uI C7 r16 (Int32.toNatClampNeg (1 : Int32)) ((cI C7 r16 (Int32.toNatClampNeg (1 : Int32))) + (1 : Int32))) else none else none else none))) else some ((0 : Int32), C3))) else none
set_option maxRecDepth 20000 in
set_option maxHeartbeats 4000000 in
theorem t_272 {n : Nat} {a0 : Nat} {a1 : Int32} {C : AmC} {r : Int32} {C' : AmC} (h : f_272 n a0 a1 C = some (r, C')) : En false 272 0 [(0, .ref a0), (1, .int a1)] [] (mkM C) (.inl (some (.int r))) (mkM C') := by
  unfold f_272 at h
  refine en_aload rfl rfl ?_
  refine ec_iconst cst_0 rfl ?_
  obtain ⟨g1, h⟩ := gd h
  refine ec_putI (ci := 10) (j := 5) ⟨rfl, rfl, rfl⟩ g1 rfl ?_
  refine en_aload rfl rfl ?_
  refine en_iload rfl rfl ?_
  obtain ⟨⟨q2, C3⟩, e4, h⟩ := gb h
  dsimp only at h
  refine ec_callV1 (k' := 250) (n := 2) (rc := 10) (a := a0) (as := [.int a1]) ⟨rfl, rfl⟩ rfl rfl (Nat.le_of_ble_eq_true rfl) (Nat.le_of_ble_eq_true rfl) (Nat.le_of_ble_eq_true rfl) g1 rfl (t_250 e4) ?_
  rcases gi h with ⟨c5, h⟩ | ⟨c5, h⟩
  · refine en_if_ne_t c5 rfl ?_
    refine en_aload rfl rfl ?_
    refine ec_iconst cst_8 rfl ?_
    refine en_aload rfl rfl ?_
    refine ec_getI (ci := 10) (j := 40) ⟨rfl, rfl, rfl⟩ g1 rfl ?_
    refine en_imul rfl ?_
    refine en_iload rfl rfl ?_
    refine en_iadd rfl ?_
    refine ec_iconst cst_0 rfl ?_
    obtain ⟨⟨q6, C7⟩, e8, h⟩ := gb h
    dsimp only at h
    refine ec_callV0 (k' := 226) (n := 3) (rc := 10) (a := a0) (as := [.int (((8 : Int32) * (cI C3 a0 40)) + a1), .int (0 : Int32)]) ⟨rfl, rfl⟩ rfl rfl (Nat.le_of_ble_eq_true rfl) (Nat.le_of_ble_eq_true rfl) (Nat.le_of_ble_eq_true rfl) g1 rfl (t_226 e8) ?_
    refine en_aload rfl rfl ?_
    refine ec_getI (ci := 10) (j := 66) ⟨rfl, rfl, rfl⟩ g1 rfl ?_
    rcases gi h with ⟨c9, h⟩ | ⟨c9, h⟩
    · refine en_if_eq_t c9 rfl ?_
      refine en_aload rfl rfl ?_
      obtain ⟨⟨q10, C11⟩, e12, h⟩ := gb h
      dsimp only at h
      refine ec_callV0 (k' := 270) (n := 1) (rc := 10) (a := a0) (as := []) ⟨rfl, rfl⟩ rfl rfl (Nat.le_of_ble_eq_true rfl) (Nat.le_of_ble_eq_true rfl) (Nat.le_of_ble_eq_true rfl) g1 rfl (t_270 e12) ?_
      refine en_aload rfl rfl ?_
      refine ec_iconst cst_0 rfl ?_
      obtain ⟨⟨q13, C14⟩, e15, h⟩ := gb h
      dsimp only at h
      refine ec_callV0 (k' := 271) (n := 2) (rc := 10) (a := a0) (as := [.int (0 : Int32)]) ⟨rfl, rfl⟩ rfl rfl (Nat.le_of_ble_eq_true rfl) (Nat.le_of_ble_eq_true rfl) (Nat.le_of_ble_eq_true rfl) g1 rfl (t_271 e15) ?_
      refine en_aload rfl rfl ?_
      refine ec_getI (ci := 10) (j := 65) ⟨rfl, rfl, rfl⟩ g1 rfl ?_
      obtain ⟨rfl, rfl⟩ := so9 h
      exact en_iret rfl
    · refine en_if_eq_f c9 rfl ?_
      refine en_aload rfl rfl ?_
      obtain ⟨r16, e17, h⟩ := gb h
      refine ec_getP (ci := 10) (j := 4) ⟨rfl, rfl, rfl⟩ g1 e17 rfl ?_
      refine ec_iconst cst_1 rfl ?_
      refine en_dup2 ⟨rfl, rfl⟩ rfl ?_
      obtain ⟨g18, h⟩ := gd h
      obtain ⟨g19, h⟩ := gd h
      refine ec_iaload g18 g19 rfl ?_
      refine ec_iconst cst_1 rfl ?_
      refine en_iadd rfl ?_
      obtain ⟨g20, h⟩ := gd h
      refine ec_iastore g18 g20 rfl ?_
      refine ec_iconst cst_m1 rfl ?_
      refine en_aload rfl rfl ?_
      refine ec_getI (ci := 10) (j := 66) ⟨rfl, rfl, rfl⟩ g1 rfl ?_
      refine en_isub rfl ?_
      obtain ⟨rfl, rfl⟩ := so9 h
      exact en_iret rfl
  · refine en_if_ne_f c5 rfl ?_
    refine ec_iconst cst_0 rfl ?_
    obtain ⟨rfl, rfl⟩ := so9 h
    exact en_iret rfl
/-- BulkWriterModel.isLaid(IIII)Z -/
def f_273 (n : Nat) (a0 : Nat) (a1 : Int32) (a2 : Int32) (a3 : Int32) (a4 : Int32) (C : AmC) : Option (Int32 × AmC) := if isK a0 10 = true then (cP C a0 0).bind (fun r2 => if isK r2 12 = true then if amIn (a1 + a2) (aLen r2) = true then (if (cI C r2 (Int32.toNatClampNeg (a1 + a2))) = 0 then some ((0 : Int32), C) else (f_163 n a4 (-9999 : Int32) (9999 : Int32) C).bind (fun z => match z with | (q7, C8) => (if ¬ q7 = 0 then (cP C8 a0 0).bind (fun r11 => if isK r11 12 = true then if amIn (((a1 + (30 : Int32)) + ((4 : Int32) * a2)) + a3) (aLen r11) = true then (cP C8 a0 0).bind (fun r15 => if isK r15 12 = true then if amIn (((a1 + (30 : Int32)) + ((4 : Int32) * a2)) + a3) (aLen r15) = true then (cP (uI C8 r15 (Int32.toNatClampNeg (((a1 + (30 : Int32)) + ((4 : Int32) * a2)) + a3)) a4) a0 0).bind (fun r19 => (f_192 n a0 r19 a1 (30 : Int32) (cI (uI C8 r15 (Int32.toNatClampNeg (((a1 + (30 : Int32)) + ((4 : Int32) * a2)) + a3)) a4) a0 40) (uI C8 r15 (Int32.toNatClampNeg (((a1 + (30 : Int32)) + ((4 : Int32) * a2)) + a3)) a4)).bind (fun z => match z with | (q21, C22) => (if ¬ q21 = (-1 : Int32) then (cP C22 a0 0).bind (fun r25 => if isK r25 12 = true then if amIn (((a1 + (30 : Int32)) + ((4 : Int32) * a2)) + a3) (aLen r25) = true then some ((0 : Int32), uI C22 r25 (Int32.toNatClampNeg (((a1 + (30 : Int32)) + ((4 : Int32) * a2)) + a3)) (cI C8 r11 (Int32.toNatClampNeg (((a1 + (30 : Int32)) + ((4 : Int32) * a2)) + a3)))) else none else none) else some ((1 : Int32), C22)))) else none else none) else none else none) else some ((0 : Int32), C8)))) else none else none) else none
set_option maxRecDepth 20000 in
set_option maxHeartbeats 4000000 in
theorem t_273 {n : Nat} {a0 : Nat} {a1 : Int32} {a2 : Int32} {a3 : Int32} {a4 : Int32} {C : AmC} {r : Int32} {C' : AmC} (h : f_273 n a0 a1 a2 a3 a4 C = some (r, C')) : En false 273 0 [(0, .ref a0), (1, .int a1), (2, .int a2), (3, .int a3), (4, .int a4)] [] (mkM C) (.inl (some (.int r))) (mkM C') := by
  unfold f_273 at h
  refine en_aload rfl rfl ?_
  obtain ⟨g1, h⟩ := gd h
  obtain ⟨r2, e3, h⟩ := gb h
  refine ec_getP (ci := 10) (j := 0) ⟨rfl, rfl, rfl⟩ g1 e3 rfl ?_
  refine en_iload rfl rfl ?_
  refine en_iload rfl rfl ?_
  refine en_iadd rfl ?_
  obtain ⟨g4, h⟩ := gd h
  obtain ⟨g5, h⟩ := gd h
  refine ec_iaload g4 g5 rfl ?_
  rcases gi h with ⟨c6, h⟩ | ⟨c6, h⟩
  · refine en_if_eq_t c6 rfl ?_
    refine ec_iconst cst_0 rfl ?_
    cases h
    exact en_zret (Or.inl rfl) rfl
  · refine en_if_eq_f c6 rfl ?_
    refine en_iload rfl rfl ?_
    refine ec_iconst cst_m9999 rfl ?_
    refine ec_iconst cst_9999 rfl ?_
    obtain ⟨⟨q7, C8⟩, e9, h⟩ := gb h
    dsimp only at h
    refine ec_callS1 (k' := 163) (n := 3) (as := [.int a4, .int (-9999 : Int32), .int (9999 : Int32)]) rfl rfl rfl (Nat.le_of_ble_eq_true rfl) (Nat.le_of_ble_eq_true rfl) (Nat.le_of_ble_eq_true rfl) rfl (t_163 e9) ?_
    rcases gi h with ⟨c10, h⟩ | ⟨c10, h⟩
    · refine en_if_ne_t c10 rfl ?_
      refine en_iload rfl rfl ?_
      refine ec_iconst cst_30 rfl ?_
      refine en_iadd rfl ?_
      refine ec_iconst cst_4 rfl ?_
      refine en_iload rfl rfl ?_
      refine en_imul rfl ?_
      refine en_iadd rfl ?_
      refine en_iload rfl rfl ?_
      refine en_iadd rfl ?_
      refine en_istore (l' := [(5, .int (((a1 + (30 : Int32)) + ((4 : Int32) * a2)) + a3)), (0, .ref a0), (1, .int a1), (2, .int a2), (3, .int a3), (4, .int a4)]) rfl rfl ?_
      refine en_aload rfl rfl ?_
      obtain ⟨r11, e12, h⟩ := gb h
      refine ec_getP (ci := 10) (j := 0) ⟨rfl, rfl, rfl⟩ g1 e12 rfl ?_
      refine en_iload rfl rfl ?_
      obtain ⟨g13, h⟩ := gd h
      obtain ⟨g14, h⟩ := gd h
      refine ec_iaload g13 g14 rfl ?_
      refine en_istore (l' := [(6, .int (cI C8 r11 (Int32.toNatClampNeg (((a1 + (30 : Int32)) + ((4 : Int32) * a2)) + a3)))), (5, .int (((a1 + (30 : Int32)) + ((4 : Int32) * a2)) + a3)), (0, .ref a0), (1, .int a1), (2, .int a2), (3, .int a3), (4, .int a4)]) rfl rfl ?_
      refine en_aload rfl rfl ?_
      obtain ⟨r15, e16, h⟩ := gb h
      refine ec_getP (ci := 10) (j := 0) ⟨rfl, rfl, rfl⟩ g1 e16 rfl ?_
      refine en_iload rfl rfl ?_
      refine en_iload rfl rfl ?_
      obtain ⟨g17, h⟩ := gd h
      obtain ⟨g18, h⟩ := gd h
      refine ec_iastore g17 g18 rfl ?_
      refine en_aload rfl rfl ?_
      refine en_aload rfl rfl ?_
      obtain ⟨r19, e20, h⟩ := gb h
      refine ec_getP (ci := 10) (j := 0) ⟨rfl, rfl, rfl⟩ g1 e20 rfl ?_
      refine en_iload rfl rfl ?_
      refine ec_iconst cst_30 rfl ?_
      refine en_aload rfl rfl ?_
      refine ec_getI (ci := 10) (j := 40) ⟨rfl, rfl, rfl⟩ g1 rfl ?_
      obtain ⟨⟨q21, C22⟩, e23, h⟩ := gb h
      dsimp only at h
      refine ec_callV1 (k' := 192) (n := 5) (rc := 10) (a := a0) (as := [.ref r19, .int a1, .int (30 : Int32), .int (cI (uI C8 r15 (Int32.toNatClampNeg (((a1 + (30 : Int32)) + ((4 : Int32) * a2)) + a3)) a4) a0 40)]) ⟨rfl, rfl⟩ rfl rfl (Nat.le_of_ble_eq_true rfl) (Nat.le_of_ble_eq_true rfl) (Nat.le_of_ble_eq_true rfl) g1 rfl (t_192 e23) ?_
      refine ec_iconst cst_m1 rfl ?_
      rcases gi h with ⟨c24, h⟩ | ⟨c24, h⟩
      · refine en_icmp_ne_t c24 rfl ?_
        refine en_aload rfl rfl ?_
        obtain ⟨r25, e26, h⟩ := gb h
        refine ec_getP (ci := 10) (j := 0) ⟨rfl, rfl, rfl⟩ g1 e26 rfl ?_
        refine en_iload rfl rfl ?_
        refine en_iload rfl rfl ?_
        obtain ⟨g27, h⟩ := gd h
        obtain ⟨g28, h⟩ := gd h
        refine ec_iastore g27 g28 rfl ?_
        refine ec_iconst cst_0 rfl ?_
        cases h
        exact en_zret (Or.inl rfl) rfl
      · refine en_icmp_ne_f c24 rfl ?_
        refine ec_iconst cst_1 rfl ?_
        cases h
        exact en_zret (Or.inr rfl) rfl
    · refine en_if_ne_f c10 rfl ?_
      refine ec_iconst cst_0 rfl ?_
      cases h
      exact en_zret (Or.inl rfl) rfl
/-- BulkWriterModel.lay(III)I -/
def f_274 (n : Nat) (a0 : Nat) (a1 : Int32) (a2 : Int32) (a3 : Int32) (C : AmC) : Option (Int32 × AmC) := if isK a0 10 = true then (f_246 n a0 a1 a2 (uI C a0 5 (0 : Int32))).bind (fun z => match z with | (q2, C3) => (if ¬ q2 = 0 then (cP C3 a0 0).bind (fun r6 => if isK r6 12 = true then if amIn (((30 : Int32) + ((4 : Int32) * a1)) + a2) (aLen r6) = true then (f_164 n a0 (0 : Int32) (150 : Int32) (150 : Int32) C3).bind (fun z => match z with | (_, C11) => (f_273 n a0 (150 : Int32) a1 a2 a3 C11).bind (fun z => match z with | (q13, C14) => (if ¬ q13 = 0 then (f_270 n a0 C14).bind (fun z => match z with | (_, C18) => (f_164 n a0 (150 : Int32) (0 : Int32) (150 : Int32) C18).bind (fun z => match z with | (_, C21) => some ((cI C3 r6 (Int32.toNatClampNeg (((30 : Int32) + ((4 : Int32) * a1)) + a2))), C21))) else (cP C14 a0 4).bind (fun r23 => if isK r23 12 = true then if amIn (1 : Int32) (aLen r23) = true then if amIn (1 : Int32) (aLen r23) = true then some ((-100000 : Int32), uI C14 r23 (Int32.toNatClampNeg (1 : Int32)) ((cI C14 r23 (Int32.toNatClampNeg (1 : Int32))) + (1 : Int32))) else none else none else none)))) else none else none) else some ((0 : Int32), C3))) else none
set_option maxRecDepth 20000 in
set_option maxHeartbeats 4000000 in
theorem t_274 {n : Nat} {a0 : Nat} {a1 : Int32} {a2 : Int32} {a3 : Int32} {C : AmC} {r : Int32} {C' : AmC} (h : f_274 n a0 a1 a2 a3 C = some (r, C')) : En false 274 0 [(0, .ref a0), (1, .int a1), (2, .int a2), (3, .int a3)] [] (mkM C) (.inl (some (.int r))) (mkM C') := by
  unfold f_274 at h
  refine en_aload rfl rfl ?_
  refine ec_iconst cst_0 rfl ?_
  obtain ⟨g1, h⟩ := gd h
  refine ec_putI (ci := 10) (j := 5) ⟨rfl, rfl, rfl⟩ g1 rfl ?_
  refine en_aload rfl rfl ?_
  refine en_iload rfl rfl ?_
  refine en_iload rfl rfl ?_
  obtain ⟨⟨q2, C3⟩, e4, h⟩ := gb h
  dsimp only at h
  refine ec_callV1 (k' := 246) (n := 3) (rc := 10) (a := a0) (as := [.int a1, .int a2]) ⟨rfl, rfl⟩ rfl rfl (Nat.le_of_ble_eq_true rfl) (Nat.le_of_ble_eq_true rfl) (Nat.le_of_ble_eq_true rfl) g1 rfl (t_246 e4) ?_
  rcases gi h with ⟨c5, h⟩ | ⟨c5, h⟩
  · refine en_if_ne_t c5 rfl ?_
    refine en_aload rfl rfl ?_
    obtain ⟨r6, e7, h⟩ := gb h
    refine ec_getP (ci := 10) (j := 0) ⟨rfl, rfl, rfl⟩ g1 e7 rfl ?_
    refine ec_iconst cst_30 rfl ?_
    refine ec_iconst cst_4 rfl ?_
    refine en_iload rfl rfl ?_
    refine en_imul rfl ?_
    refine en_iadd rfl ?_
    refine en_iload rfl rfl ?_
    refine en_iadd rfl ?_
    obtain ⟨g8, h⟩ := gd h
    obtain ⟨g9, h⟩ := gd h
    refine ec_iaload g8 g9 rfl ?_
    refine en_istore (l' := [(4, .int (cI C3 r6 (Int32.toNatClampNeg (((30 : Int32) + ((4 : Int32) * a1)) + a2)))), (0, .ref a0), (1, .int a1), (2, .int a2), (3, .int a3)]) rfl rfl ?_
    refine en_aload rfl rfl ?_
    refine ec_iconst cst_0 rfl ?_
    refine ec_iconst cst_150 rfl ?_
    refine ec_iconst cst_150 rfl ?_
    obtain ⟨⟨q10, C11⟩, e12, h⟩ := gb h
    dsimp only at h
    refine ec_callV0 (k' := 164) (n := 4) (rc := 10) (a := a0) (as := [.int (0 : Int32), .int (150 : Int32), .int (150 : Int32)]) ⟨rfl, rfl⟩ rfl rfl (Nat.le_of_ble_eq_true rfl) (Nat.le_of_ble_eq_true rfl) (Nat.le_of_ble_eq_true rfl) g1 rfl (t_164 e12) ?_
    refine en_aload rfl rfl ?_
    refine ec_iconst cst_150 rfl ?_
    refine en_iload rfl rfl ?_
    refine en_iload rfl rfl ?_
    refine en_iload rfl rfl ?_
    obtain ⟨⟨q13, C14⟩, e15, h⟩ := gb h
    dsimp only at h
    refine ec_callV1 (k' := 273) (n := 5) (rc := 10) (a := a0) (as := [.int (150 : Int32), .int a1, .int a2, .int a3]) ⟨rfl, rfl⟩ rfl rfl (Nat.le_of_ble_eq_true rfl) (Nat.le_of_ble_eq_true rfl) (Nat.le_of_ble_eq_true rfl) g1 rfl (t_273 e15) ?_
    rcases gi h with ⟨c16, h⟩ | ⟨c16, h⟩
    · refine en_if_ne_t c16 rfl ?_
      refine en_aload rfl rfl ?_
      obtain ⟨⟨q17, C18⟩, e19, h⟩ := gb h
      dsimp only at h
      refine ec_callV0 (k' := 270) (n := 1) (rc := 10) (a := a0) (as := []) ⟨rfl, rfl⟩ rfl rfl (Nat.le_of_ble_eq_true rfl) (Nat.le_of_ble_eq_true rfl) (Nat.le_of_ble_eq_true rfl) g1 rfl (t_270 e19) ?_
      refine en_aload rfl rfl ?_
      refine ec_iconst cst_150 rfl ?_
      refine ec_iconst cst_0 rfl ?_
      refine ec_iconst cst_150 rfl ?_
      obtain ⟨⟨q20, C21⟩, e22, h⟩ := gb h
      dsimp only at h
      refine ec_callV0 (k' := 164) (n := 4) (rc := 10) (a := a0) (as := [.int (150 : Int32), .int (0 : Int32), .int (150 : Int32)]) ⟨rfl, rfl⟩ rfl rfl (Nat.le_of_ble_eq_true rfl) (Nat.le_of_ble_eq_true rfl) (Nat.le_of_ble_eq_true rfl) g1 rfl (t_164 e22) ?_
      refine en_iload rfl rfl ?_
      cases h
      exact en_iret rfl
    · refine en_if_ne_f c16 rfl ?_
      refine en_aload rfl rfl ?_
      obtain ⟨r23, e24, h⟩ := gb h
      refine ec_getP (ci := 10) (j := 4) ⟨rfl, rfl, rfl⟩ g1 e24 rfl ?_
      refine ec_iconst cst_1 rfl ?_
      refine en_dup2 ⟨rfl, rfl⟩ rfl ?_
      obtain ⟨g25, h⟩ := gd h
      obtain ⟨g26, h⟩ := gd h
      refine ec_iaload g25 g26 rfl ?_
      refine ec_iconst cst_1 rfl ?_
      refine en_iadd rfl ?_
      obtain ⟨g27, h⟩ := gd h
      refine ec_iastore g25 g27 rfl ?_
      refine ec_iconst cst_m100000 rfl ?_
      cases h
      exact en_iret rfl
  · refine en_if_ne_f c5 rfl ?_
    refine ec_iconst cst_0 rfl ?_
    cases h
    exact en_iret rfl
/-- BulkWriterModel.take(I)I -/
def f_275 (n : Nat) (a0 : Nat) (a1 : Int32) (C : AmC) : Option (Int32 × AmC) := if isK a0 10 = true then (f_163 n a1 (0 : Int32) (29 : Int32) (uI C a0 5 (0 : Int32))).bind (fun z => match z with | (q2, C3) => (f_162 n a0 q2 (1 : Int32) C3).bind (fun z => match z with | (q5, C6) => (if ¬ q5 = 0 then (cP C6 a0 0).bind (fun r9 => if isK r9 12 = true then if amIn a1 (aLen r9) = true then (if ¬ (cI C6 r9 (Int32.toNatClampNeg a1)) = 0 then (f_270 n a0 C6).bind (fun z => match z with | (_, C15) => (cP C15 a0 0).bind (fun r17 => if isK r17 12 = true then if amIn a1 (aLen r17) = true then (f_244 n a0 (0 : Int32) (uI C15 r17 (Int32.toNatClampNeg a1) (0 : Int32))).bind (fun z => match z with | (q21, C22) => some (q21, C22)) else none else none)) else (cP C6 a0 4).bind (fun r24 => if isK r24 12 = true then if amIn (1 : Int32) (aLen r24) = true then if amIn (1 : Int32) (aLen r24) = true then some ((-1 : Int32), uI C6 r24 (Int32.toNatClampNeg (1 : Int32)) ((cI C6 r24 (Int32.toNatClampNeg (1 : Int32))) + (1 : Int32))) else none else none else none)) else none else none) else some ((0 : Int32), C6)))) else none
set_option maxRecDepth 20000 in
set_option maxHeartbeats 4000000 in
theorem t_275 {n : Nat} {a0 : Nat} {a1 : Int32} {C : AmC} {r : Int32} {C' : AmC} (h : f_275 n a0 a1 C = some (r, C')) : En false 275 0 [(0, .ref a0), (1, .int a1)] [] (mkM C) (.inl (some (.int r))) (mkM C') := by
  unfold f_275 at h
  refine en_aload rfl rfl ?_
  refine ec_iconst cst_0 rfl ?_
  obtain ⟨g1, h⟩ := gd h
  refine ec_putI (ci := 10) (j := 5) ⟨rfl, rfl, rfl⟩ g1 rfl ?_
  refine en_aload rfl rfl ?_
  refine en_iload rfl rfl ?_
  refine ec_iconst cst_0 rfl ?_
  refine ec_iconst cst_29 rfl ?_
  obtain ⟨⟨q2, C3⟩, e4, h⟩ := gb h
  dsimp only at h
  refine ec_callS1 (k' := 163) (n := 3) (as := [.int a1, .int (0 : Int32), .int (29 : Int32)]) rfl rfl rfl (Nat.le_of_ble_eq_true rfl) (Nat.le_of_ble_eq_true rfl) (Nat.le_of_ble_eq_true rfl) rfl (t_163 e4) ?_
  refine ec_iconst cst_1 rfl ?_
  obtain ⟨⟨q5, C6⟩, e7, h⟩ := gb h
  dsimp only at h
  refine ec_callV1 (k' := 162) (n := 3) (rc := 10) (a := a0) (as := [.int q2, .int (1 : Int32)]) ⟨rfl, rfl⟩ rfl rfl (Nat.le_of_ble_eq_true rfl) (Nat.le_of_ble_eq_true rfl) (Nat.le_of_ble_eq_true rfl) g1 rfl (t_162 e7) ?_
  rcases gi h with ⟨c8, h⟩ | ⟨c8, h⟩
  · refine en_if_ne_t c8 rfl ?_
    refine en_aload rfl rfl ?_
    obtain ⟨r9, e10, h⟩ := gb h
    refine ec_getP (ci := 10) (j := 0) ⟨rfl, rfl, rfl⟩ g1 e10 rfl ?_
    refine en_iload rfl rfl ?_
    obtain ⟨g11, h⟩ := gd h
    obtain ⟨g12, h⟩ := gd h
    refine ec_iaload g11 g12 rfl ?_
    rcases gi h with ⟨c13, h⟩ | ⟨c13, h⟩
    · refine en_if_ne_t c13 rfl ?_
      refine en_aload rfl rfl ?_
      obtain ⟨⟨q14, C15⟩, e16, h⟩ := gb h
      dsimp only at h
      refine ec_callV0 (k' := 270) (n := 1) (rc := 10) (a := a0) (as := []) ⟨rfl, rfl⟩ rfl rfl (Nat.le_of_ble_eq_true rfl) (Nat.le_of_ble_eq_true rfl) (Nat.le_of_ble_eq_true rfl) g1 rfl (t_270 e16) ?_
      refine en_aload rfl rfl ?_
      obtain ⟨r17, e18, h⟩ := gb h
      refine ec_getP (ci := 10) (j := 0) ⟨rfl, rfl, rfl⟩ g1 e18 rfl ?_
      refine en_iload rfl rfl ?_
      refine ec_iconst cst_0 rfl ?_
      obtain ⟨g19, h⟩ := gd h
      obtain ⟨g20, h⟩ := gd h
      refine ec_iastore g19 g20 rfl ?_
      refine en_aload rfl rfl ?_
      refine ec_iconst cst_0 rfl ?_
      obtain ⟨⟨q21, C22⟩, e23, h⟩ := gb h
      dsimp only at h
      refine ec_callV1 (k' := 244) (n := 2) (rc := 10) (a := a0) (as := [.int (0 : Int32)]) ⟨rfl, rfl⟩ rfl rfl (Nat.le_of_ble_eq_true rfl) (Nat.le_of_ble_eq_true rfl) (Nat.le_of_ble_eq_true rfl) g1 rfl (t_244 e23) ?_
      cases h
      exact en_iret rfl
    · refine en_if_ne_f c13 rfl ?_
      refine en_aload rfl rfl ?_
      obtain ⟨r24, e25, h⟩ := gb h
      refine ec_getP (ci := 10) (j := 4) ⟨rfl, rfl, rfl⟩ g1 e25 rfl ?_
      refine ec_iconst cst_1 rfl ?_
      refine en_dup2 ⟨rfl, rfl⟩ rfl ?_
      obtain ⟨g26, h⟩ := gd h
      obtain ⟨g27, h⟩ := gd h
      refine ec_iaload g26 g27 rfl ?_
      refine ec_iconst cst_1 rfl ?_
      refine en_iadd rfl ?_
      obtain ⟨g28, h⟩ := gd h
      refine ec_iastore g26 g28 rfl ?_
      refine ec_iconst cst_m1 rfl ?_
      cases h
      exact en_iret rfl
  · refine en_if_ne_f c8 rfl ?_
    refine ec_iconst cst_0 rfl ?_
    cases h
    exact en_iret rfl
/-- BulkWriterModel.undo()I -/
def f_276 (n : Nat) (a0 : Nat) (C : AmC) : Option (Int32 × AmC) := if isK a0 10 = true then (if ¬ (cI (uI C a0 5 (0 : Int32)) a0 6) = 0 then (f_269 n (cI (uI (uI C a0 5 (0 : Int32)) a0 6 ((cI (uI C a0 5 (0 : Int32)) a0 6) - (1 : Int32))) a0 7) (cI (uI (uI C a0 5 (0 : Int32)) a0 6 ((cI (uI C a0 5 (0 : Int32)) a0 6) - (1 : Int32))) a0 6) (uI (uI C a0 5 (0 : Int32)) a0 6 ((cI (uI C a0 5 (0 : Int32)) a0 6) - (1 : Int32)))).bind (fun z => match z with | (q3, C4) => (f_164 n a0 q3 (0 : Int32) (150 : Int32) C4).bind (fun z => match z with | (_, C7) => some ((cI C7 a0 6), C7))) else some ((-1 : Int32), uI C a0 5 (0 : Int32))) else none
set_option maxRecDepth 20000 in
set_option maxHeartbeats 4000000 in
theorem t_276 {n : Nat} {a0 : Nat} {C : AmC} {r : Int32} {C' : AmC} (h : f_276 n a0 C = some (r, C')) : En false 276 0 [(0, .ref a0)] [] (mkM C) (.inl (some (.int r))) (mkM C') := by
  unfold f_276 at h
  refine en_aload rfl rfl ?_
  refine ec_iconst cst_0 rfl ?_
  obtain ⟨g1, h⟩ := gd h
  refine ec_putI (ci := 10) (j := 5) ⟨rfl, rfl, rfl⟩ g1 rfl ?_
  refine en_aload rfl rfl ?_
  refine ec_getI (ci := 10) (j := 6) ⟨rfl, rfl, rfl⟩ g1 rfl ?_
  rcases gi h with ⟨c2, h⟩ | ⟨c2, h⟩
  · refine en_if_ne_t c2 rfl ?_
    refine en_aload rfl rfl ?_
    refine en_dup rfl rfl ?_
    refine ec_getI (ci := 10) (j := 6) ⟨rfl, rfl, rfl⟩ g1 rfl ?_
    refine ec_iconst cst_1 rfl ?_
    refine en_isub rfl ?_
    refine ec_putI (ci := 10) (j := 6) ⟨rfl, rfl, rfl⟩ g1 rfl ?_
    refine en_aload rfl rfl ?_
    refine en_aload rfl rfl ?_
    refine ec_getI (ci := 10) (j := 7) ⟨rfl, rfl, rfl⟩ g1 rfl ?_
    refine en_aload rfl rfl ?_
    refine ec_getI (ci := 10) (j := 6) ⟨rfl, rfl, rfl⟩ g1 rfl ?_
    obtain ⟨⟨q3, C4⟩, e5, h⟩ := gb h
    dsimp only at h
    refine ec_callS1 (k' := 269) (n := 2) (as := [.int (cI (uI (uI C a0 5 (0 : Int32)) a0 6 ((cI (uI C a0 5 (0 : Int32)) a0 6) - (1 : Int32))) a0 7), .int (cI (uI (uI C a0 5 (0 : Int32)) a0 6 ((cI (uI C a0 5 (0 : Int32)) a0 6) - (1 : Int32))) a0 6)]) rfl rfl rfl (Nat.le_of_ble_eq_true rfl) (Nat.le_of_ble_eq_true rfl) (Nat.le_of_ble_eq_true rfl) rfl (t_269 e5) ?_
    refine ec_iconst cst_0 rfl ?_
    refine ec_iconst cst_150 rfl ?_
    obtain ⟨⟨q6, C7⟩, e8, h⟩ := gb h
    dsimp only at h
    refine ec_callV0 (k' := 164) (n := 4) (rc := 10) (a := a0) (as := [.int q3, .int (0 : Int32), .int (150 : Int32)]) ⟨rfl, rfl⟩ rfl rfl (Nat.le_of_ble_eq_true rfl) (Nat.le_of_ble_eq_true rfl) (Nat.le_of_ble_eq_true rfl) g1 rfl (t_164 e8) ?_
    refine en_aload rfl rfl ?_
    refine ec_getI (ci := 10) (j := 6) ⟨rfl, rfl, rfl⟩ g1 rfl ?_
    cases h
    exact en_iret rfl
  · refine en_if_ne_f c2 rfl ?_
    refine ec_iconst cst_m1 rfl ?_
    cases h
    exact en_iret rfl
