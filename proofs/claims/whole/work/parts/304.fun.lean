def lp_63_29 : Nat → Nat → Nat → Nat → Int32 → Nat → Int32 → Int32 → Int32 → Int32 → Int32 → AmC → Option (((Nat × Nat × Nat × Int32 × Nat × Int32 × Int32)) × AmC)
  | 0, _, _, _, _, _, _, _, _, _, _, _ => none
  | n + 1, p0, p1, p2, p3, p4, p5, p6, p7, p8, p9, C => (if (30 : Int32) ≤ p9 then some ((p0, p1, p2, p3, p4, p5, p7), C) else (if p8 = (-1 : Int32) then some ((p0, p1, p2, p3, p4, p5, p7), C) else if isK p0 4 = true then if isK p2 8 = true then if isK p4 5 = true then (f_76 n p4 p8 (cI (uI C p0 1 ((cI C p0 1) + (1 : Int32))) p2 3) (uI C p0 1 ((cI C p0 1) + (1 : Int32)))).bind (fun z => match z with | (q25, C26) => (if ¬ q25 = p6 then (cP C26 p0 0).bind (fun r29 => if isK r29 0 = true then (f_5 n r29 p4 C26).bind (fun z => match z with | (q32, C33) => lp_63_29 n p0 p1 p2 p3 p4 p5 p6 p7 q32 (p9 + (1 : Int32)) C33) else none) else (cP (uI C26 p0 2 ((cI C26 p0 2) + (1 : Int32))) p0 0).bind (fun r35 => if isK r35 0 = true then (f_5 n r35 p4 (uI C26 p0 2 ((cI C26 p0 2) + (1 : Int32)))).bind (fun z => match z with | (q38, C39) => lp_63_29 n p0 p1 p2 p3 p4 p5 p6 p7 q38 (p9 + (1 : Int32)) C39) else none))) else none else none else none))
set_option maxRecDepth 20000 in
set_option maxHeartbeats 4000000 in
theorem lt_63_29 : ∀ (n : Nat) (p0 : Nat) (p1 : Nat) (p2 : Nat) (p3 : Int32) (p4 : Nat) (p5 : Int32) (p6 : Int32) (p7 : Int32) (p8 : Int32) (p9 : Int32) (C : AmC) (r : ((Nat × Nat × Nat × Int32 × Nat × Int32 × Int32)) × AmC), lp_63_29 n p0 p1 p2 p3 p4 p5 p6 p7 p8 p9 C = some r → ∀ (o : AmO) (M' : AmM), (match r with
        | ((w0, w1, w2, w3, w4, w5, w7), C') => En false 63 61 [(0, .ref w0), (1, .ref w1), (2, .ref w2), (3, .int w3), (4, .ref w4), (5, .int w5), (7, .int w7)] [] (mkM C') o M') → En false 63 29 [(0, .ref p0), (1, .ref p1), (2, .ref p2), (3, .int p3), (4, .ref p4), (5, .int p5), (6, .int p6), (7, .int p7), (8, .int p8), (9, .int p9)] [] (mkM C) o M' := by
  intro n
  induction n with
  | zero => intro p0 p1 p2 p3 p4 p5 p6 p7 p8 p9 C r h; cases h
  | succ n ih =>
    intro p0 p1 p2 p3 p4 p5 p6 p7 p8 p9 C r h o M' hk
    unfold lp_63_29 at h
    refine en_iload rfl rfl ?_
    refine ec_iconst cst_30 rfl ?_
    rcases gi h with ⟨c20, h⟩ | ⟨c20, h⟩
    · refine en_icmp_ge_t c20 rfl ?_
      cases h
      exact en_sub [0, 1, 2, 3, 4, 5, 7] rfl rfl hk
    · refine en_icmp_ge_f c20 rfl ?_
      refine en_iload rfl rfl ?_
      refine ec_iconst cst_m1 rfl ?_
      rcases gi h with ⟨c21, h⟩ | ⟨c21, h⟩
      · refine en_icmp_eq_t c21 rfl ?_
        cases h
        exact en_sub [0, 1, 2, 3, 4, 5, 7] rfl rfl hk
      · refine en_icmp_eq_f c21 rfl ?_
        refine en_aload rfl rfl ?_
        refine en_dup rfl rfl ?_
        obtain ⟨g22, h⟩ := gd h
        refine ec_getI (ci := 4) (j := 1) ⟨rfl, rfl, rfl⟩ g22 rfl ?_
        refine ec_iconst cst_1 rfl ?_
        refine en_iadd rfl ?_
        refine ec_putI (ci := 4) (j := 1) ⟨rfl, rfl, rfl⟩ g22 rfl ?_
        refine en_aload rfl rfl ?_
        refine en_iload rfl rfl ?_
        refine en_aload rfl rfl ?_
        obtain ⟨g23, h⟩ := gd h
        refine ec_getI (ci := 8) (j := 3) ⟨rfl, rfl, rfl⟩ g23 rfl ?_
        obtain ⟨g24, h⟩ := gd h
        obtain ⟨⟨q25, C26⟩, e27, h⟩ := gb h
        dsimp only at h
        refine ec_callV1 (k' := 76) (n := 3) (rc := 5) (a := p4) (as := [.int p8, .int (cI (uI C p0 1 ((cI C p0 1) + (1 : Int32))) p2 3)]) ⟨rfl, rfl⟩ rfl rfl (Nat.le_of_ble_eq_true rfl) (Nat.le_of_ble_eq_true rfl) (Nat.le_of_ble_eq_true rfl) g24 rfl (t_76 e27) ?_
        refine en_iload rfl rfl ?_
        rcases gi h with ⟨c28, h⟩ | ⟨c28, h⟩
        · refine en_icmp_ne_t c28 rfl ?_
          refine en_aload rfl rfl ?_
          obtain ⟨r29, e30, h⟩ := gb h
          refine ec_getP (ci := 4) (j := 0) ⟨rfl, rfl, rfl⟩ g22 e30 rfl ?_
          refine en_aload rfl rfl ?_
          obtain ⟨g31, h⟩ := gd h
          obtain ⟨⟨q32, C33⟩, e34, h⟩ := gb h
          dsimp only at h
          refine ec_callV1 (k' := 5) (n := 2) (rc := 0) (a := r29) (as := [.ref p4]) ⟨rfl, rfl⟩ rfl rfl (Nat.le_of_ble_eq_true rfl) (Nat.le_of_ble_eq_true rfl) (Nat.le_of_ble_eq_true rfl) g31 rfl (t_5 e34) ?_
          refine en_istore (l' := [(8, .int q32), (0, .ref p0), (1, .ref p1), (2, .ref p2), (3, .int p3), (4, .ref p4), (5, .int p5), (6, .int p6), (7, .int p7), (9, .int p9)]) rfl rfl ?_
          refine ec_iinc (l' := [(9, .int (p9 + (1 : Int32))), (8, .int q32), (0, .ref p0), (1, .ref p1), (2, .ref p2), (3, .int p3), (4, .ref p4), (5, .int p5), (6, .int p6), (7, .int p7)]) rfl cst_1 rfl rfl ?_
          refine en_goto rfl ?_
          refine en_sub [2, 3, 4, 5, 6, 7, 8, 9, 1, 0] rfl rfl ?_
          exact ih _ _ _ _ _ _ _ _ _ _ _ _ h o M' hk
        · refine en_icmp_ne_f c28 rfl ?_
          refine en_aload rfl rfl ?_
          refine en_dup rfl rfl ?_
          refine ec_getI (ci := 4) (j := 2) ⟨rfl, rfl, rfl⟩ g22 rfl ?_
          refine ec_iconst cst_1 rfl ?_
          refine en_iadd rfl ?_
          refine ec_putI (ci := 4) (j := 2) ⟨rfl, rfl, rfl⟩ g22 rfl ?_
          refine en_aload rfl rfl ?_
          obtain ⟨r35, e36, h⟩ := gb h
          refine ec_getP (ci := 4) (j := 0) ⟨rfl, rfl, rfl⟩ g22 e36 rfl ?_
          refine en_aload rfl rfl ?_
          obtain ⟨g37, h⟩ := gd h
          obtain ⟨⟨q38, C39⟩, e40, h⟩ := gb h
          dsimp only at h
          refine ec_callV1 (k' := 5) (n := 2) (rc := 0) (a := r35) (as := [.ref p4]) ⟨rfl, rfl⟩ rfl rfl (Nat.le_of_ble_eq_true rfl) (Nat.le_of_ble_eq_true rfl) (Nat.le_of_ble_eq_true rfl) g37 rfl (t_5 e40) ?_
          refine en_istore (l' := [(8, .int q38), (0, .ref p0), (1, .ref p1), (2, .ref p2), (3, .int p3), (4, .ref p4), (5, .int p5), (6, .int p6), (7, .int p7), (9, .int p9)]) rfl rfl ?_
          refine ec_iinc (l' := [(9, .int (p9 + (1 : Int32))), (8, .int q38), (0, .ref p0), (1, .ref p1), (2, .ref p2), (3, .int p3), (4, .ref p4), (5, .int p5), (6, .int p6), (7, .int p7)]) rfl cst_1 rfl rfl ?_
          refine en_goto rfl ?_
          refine en_sub [2, 3, 4, 5, 6, 7, 8, 9, 1, 0] rfl rfl ?_
          exact ih _ _ _ _ _ _ _ _ _ _ _ _ h o M' hk
def lp_63_2 : Nat → Nat → Nat → Nat → Int32 → Nat → Int32 → AmC → Option (((Unit)) × AmC)
  | 0, _, _, _, _, _, _, _ => none
  | n + 1, p0, p1, p2, p3, p4, p5, C => if isK p1 6 = true then (if (cI C p1 6) ≤ p5 then some ((), C) else if isK p2 8 = true then (f_95 n p1 p5 (cI C p2 4) C).bind (fun z => match z with | (q4, C5) => if isK p0 4 = true then (cP C5 p0 0).bind (fun r8 => if isK r8 0 = true then (f_4 n r8 p1 p2 p3 q4 C5).bind (fun z => match z with | (_, C12) => (cP C12 p0 0).bind (fun r14 => if isK r14 0 = true then (f_5 n r14 p4 C12).bind (fun z => match z with | (q17, C18) => (lp_63_29 n p0 p1 p2 p3 p4 p5 q4 (cI C5 p0 2) q17 (0 : Int32) C18).bind (fun q => match q with | ((u44, u45, u46, u47, u48, u49, u50), C43) => if isK u44 4 = true then (if ¬ (cI C43 u44 2) = u50 then lp_63_2 n u44 u45 u46 u47 u48 (u49 + (1 : Int32)) C43 else if isK u46 8 = true then (if (cI C43 u46 1) = 0 then lp_63_2 n u44 u45 u46 u47 u48 (u49 + (1 : Int32)) C43 else lp_63_2 n u44 u45 u46 u47 u48 (u49 + (1 : Int32)) (uI C43 u44 3 ((cI C43 u44 3) + (1 : Int32)))) else none) else none)) else none)) else none) else none) else none) else none
set_option maxRecDepth 20000 in
set_option maxHeartbeats 4000000 in
theorem lt_63_2 : ∀ (n : Nat) (p0 : Nat) (p1 : Nat) (p2 : Nat) (p3 : Int32) (p4 : Nat) (p5 : Int32) (C : AmC) (r : ((Unit)) × AmC), lp_63_2 n p0 p1 p2 p3 p4 p5 C = some r → ∀ (o : AmO) (M' : AmM), (match r with
        | (_, C') => En false 63 76 [] [] (mkM C') o M') → En false 63 2 [(0, .ref p0), (1, .ref p1), (2, .ref p2), (3, .int p3), (4, .ref p4), (5, .int p5)] [] (mkM C) o M' := by
  intro n
  induction n with
  | zero => intro p0 p1 p2 p3 p4 p5 C r h; cases h
  | succ n ih =>
    intro p0 p1 p2 p3 p4 p5 C r h o M' hk
    unfold lp_63_2 at h
    refine en_iload rfl rfl ?_
    refine en_aload rfl rfl ?_
    obtain ⟨g1, h⟩ := gd h
    refine ec_getI (ci := 6) (j := 6) ⟨rfl, rfl, rfl⟩ g1 rfl ?_
    rcases gi h with ⟨c2, h⟩ | ⟨c2, h⟩
    · refine en_icmp_ge_t c2 rfl ?_
      cases h
      exact en_sub [] rfl rfl hk
    · refine en_icmp_ge_f c2 rfl ?_
      refine en_aload rfl rfl ?_
      refine en_iload rfl rfl ?_
      refine en_aload rfl rfl ?_
      obtain ⟨g3, h⟩ := gd h
      refine ec_getI (ci := 8) (j := 4) ⟨rfl, rfl, rfl⟩ g3 rfl ?_
      obtain ⟨⟨q4, C5⟩, e6, h⟩ := gb h
      dsimp only at h
      refine ec_callV1 (k' := 95) (n := 3) (rc := 6) (a := p1) (as := [.int p5, .int (cI C p2 4)]) ⟨rfl, rfl⟩ rfl rfl (Nat.le_of_ble_eq_true rfl) (Nat.le_of_ble_eq_true rfl) (Nat.le_of_ble_eq_true rfl) g1 rfl (t_95 e6) ?_
      refine en_istore (l' := [(6, .int q4), (0, .ref p0), (1, .ref p1), (2, .ref p2), (3, .int p3), (4, .ref p4), (5, .int p5)]) rfl rfl ?_
      refine en_aload rfl rfl ?_
      obtain ⟨g7, h⟩ := gd h
      refine ec_getI (ci := 4) (j := 2) ⟨rfl, rfl, rfl⟩ g7 rfl ?_
      refine en_istore (l' := [(7, .int (cI C5 p0 2)), (6, .int q4), (0, .ref p0), (1, .ref p1), (2, .ref p2), (3, .int p3), (4, .ref p4), (5, .int p5)]) rfl rfl ?_
      refine en_aload rfl rfl ?_
      obtain ⟨r8, e9, h⟩ := gb h
      refine ec_getP (ci := 4) (j := 0) ⟨rfl, rfl, rfl⟩ g7 e9 rfl ?_
      refine en_aload rfl rfl ?_
      refine en_aload rfl rfl ?_
      refine en_iload rfl rfl ?_
      refine en_iload rfl rfl ?_
      obtain ⟨g10, h⟩ := gd h
      obtain ⟨⟨q11, C12⟩, e13, h⟩ := gb h
      dsimp only at h
      refine ec_callV0 (k' := 4) (n := 5) (rc := 0) (a := r8) (as := [.ref p1, .ref p2, .int p3, .int q4]) ⟨rfl, rfl⟩ rfl rfl (Nat.le_of_ble_eq_true rfl) (Nat.le_of_ble_eq_true rfl) (Nat.le_of_ble_eq_true rfl) g10 rfl (t_4 e13) ?_
      refine en_aload rfl rfl ?_
      obtain ⟨r14, e15, h⟩ := gb h
      refine ec_getP (ci := 4) (j := 0) ⟨rfl, rfl, rfl⟩ g7 e15 rfl ?_
      refine en_aload rfl rfl ?_
      obtain ⟨g16, h⟩ := gd h
      obtain ⟨⟨q17, C18⟩, e19, h⟩ := gb h
      dsimp only at h
      refine ec_callV1 (k' := 5) (n := 2) (rc := 0) (a := r14) (as := [.ref p4]) ⟨rfl, rfl⟩ rfl rfl (Nat.le_of_ble_eq_true rfl) (Nat.le_of_ble_eq_true rfl) (Nat.le_of_ble_eq_true rfl) g16 rfl (t_5 e19) ?_
      refine en_istore (l' := [(8, .int q17), (7, .int (cI C5 p0 2)), (6, .int q4), (0, .ref p0), (1, .ref p1), (2, .ref p2), (3, .int p3), (4, .ref p4), (5, .int p5)]) rfl rfl ?_
      refine ec_iconst cst_0 rfl ?_
      refine en_istore (l' := [(9, .int (0 : Int32)), (8, .int q17), (7, .int (cI C5 p0 2)), (6, .int q4), (0, .ref p0), (1, .ref p1), (2, .ref p2), (3, .int p3), (4, .ref p4), (5, .int p5)]) rfl rfl ?_
      obtain ⟨⟨q41, C43⟩, e42, h⟩ := gb h
      refine en_sub [4, 5, 6, 7, 8, 9, 3, 2, 1, 0] rfl rfl (lt_63_29 n _ _ _ _ _ _ _ _ _ _ _ _ e42 o M' ?_)
      obtain ⟨u44, u45, u46, u47, u48, u49, u50⟩ := q41
      dsimp only at h ⊢
      refine en_aload rfl rfl ?_
      obtain ⟨g51, h⟩ := gd h
      refine ec_getI (ci := 4) (j := 2) ⟨rfl, rfl, rfl⟩ g51 rfl ?_
      refine en_iload rfl rfl ?_
      rcases gi h with ⟨c52, h⟩ | ⟨c52, h⟩
      · refine en_icmp_ne_t c52 rfl ?_
        refine ec_iinc (l' := [(5, .int (u49 + (1 : Int32))), (0, .ref u44), (1, .ref u45), (2, .ref u46), (3, .int u47), (4, .ref u48), (7, .int u50)]) rfl cst_1 rfl rfl ?_
        refine en_goto rfl ?_
        refine en_sub [1, 2, 3, 4, 5, 0] rfl rfl ?_
        exact ih _ _ _ _ _ _ _ _ h o M' hk
      · refine en_icmp_ne_f c52 rfl ?_
        refine en_aload rfl rfl ?_
        obtain ⟨g53, h⟩ := gd h
        refine ec_getI (ci := 8) (j := 1) ⟨rfl, rfl, rfl⟩ g53 rfl ?_
        rcases gi h with ⟨c54, h⟩ | ⟨c54, h⟩
        · refine en_if_eq_t c54 rfl ?_
          refine ec_iinc (l' := [(5, .int (u49 + (1 : Int32))), (0, .ref u44), (1, .ref u45), (2, .ref u46), (3, .int u47), (4, .ref u48), (7, .int u50)]) rfl cst_1 rfl rfl ?_
          refine en_goto rfl ?_
          refine en_sub [1, 2, 3, 4, 5, 0] rfl rfl ?_
          exact ih _ _ _ _ _ _ _ _ h o M' hk
        · refine en_if_eq_f c54 rfl ?_
          refine en_aload rfl rfl ?_
          refine en_dup rfl rfl ?_
          refine ec_getI (ci := 4) (j := 3) ⟨rfl, rfl, rfl⟩ g51 rfl ?_
          refine ec_iconst cst_1 rfl ?_
          refine en_iadd rfl ?_
          refine ec_putI (ci := 4) (j := 3) ⟨rfl, rfl, rfl⟩ g51 rfl ?_
          refine ec_iinc (l' := [(5, .int (u49 + (1 : Int32))), (0, .ref u44), (1, .ref u45), (2, .ref u46), (3, .int u47), (4, .ref u48), (7, .int u50)]) rfl cst_1 rfl rfl ?_
          refine en_goto rfl ?_
          refine en_sub [1, 2, 3, 4, 5, 0] rfl rfl ?_
          exact ih _ _ _ _ _ _ _ _ h o M' hk
/-- BulkWriter$Planner.measureMerge(LBulkWriter$Script;LBulkWriter$Statement;ILBulkWriter$Rows;)V -/
def f_63 (n : Nat) (a0 : Nat) (a1 : Nat) (a2 : Nat) (a3 : Int32) (a4 : Nat) (C : AmC) : Option (Unit × AmC) := (lp_63_2 n a0 a1 a2 a3 a4 (0 : Int32) C).bind (fun q => match q with | (_, C57) => some ((), C57))
set_option maxRecDepth 20000 in
set_option maxHeartbeats 4000000 in
theorem t_63 {n : Nat} {a0 : Nat} {a1 : Nat} {a2 : Nat} {a3 : Int32} {a4 : Nat} {C : AmC} {r : Unit} {C' : AmC} (h : f_63 n a0 a1 a2 a3 a4 C = some (r, C')) : En false 63 0 [(0, .ref a0), (1, .ref a1), (2, .ref a2), (3, .int a3), (4, .ref a4)] [] (mkM C) (.inl none) (mkM C') := by
  unfold f_63 at h
  refine ec_iconst cst_0 rfl ?_
  refine en_istore (l' := [(5, .int (0 : Int32)), (0, .ref a0), (1, .ref a1), (2, .ref a2), (3, .int a3), (4, .ref a4)]) rfl rfl ?_
  obtain ⟨⟨q55, C57⟩, e56, h⟩ := gb h
  refine en_sub [1, 2, 3, 4, 5, 0] rfl rfl (lt_63_2 n _ _ _ _ _ _ _ _ e56 _ _ ?_)
  dsimp only at h ⊢
  cases h
  exact en_vret rfl
def lp_62_8 : Nat → Nat → Nat → Nat → Nat → Int32 → AmC → Option (((Unit) ⊕ (Unit)) × AmC)
  | 0, _, _, _, _, _, _ => none
  | n + 1, p0, p1, p2, p4, p5, C => (if (30 : Int32) ≤ p5 then some ((.inr ()), C) else if isK p0 4 = true then (cP C p0 0).bind (fun r10 => if isK r10 0 = true then (f_5 n r10 p4 C).bind (fun z => match z with | (q13, C14) => (if ¬ q13 = (-1 : Int32) then if isK p1 6 = true then (f_103 n p1 p2 p4 q13 (uI C14 p0 1 ((cI C14 p0 1) + (1 : Int32)))).bind (fun z => match z with | (q18, C19) => (if q18 = 0 then lp_62_8 n p0 p1 p2 p4 (p5 + (1 : Int32)) C19 else lp_62_8 n p0 p1 p2 p4 (p5 + (1 : Int32)) (uI C19 p0 2 ((cI C19 p0 2) + (1 : Int32))))) else none else some ((.inl ()), C14))) else none) else none)
set_option maxRecDepth 20000 in
set_option maxHeartbeats 4000000 in
theorem lt_62_8 : ∀ (n : Nat) (p0 : Nat) (p1 : Nat) (p2 : Nat) (p4 : Nat) (p5 : Int32) (C : AmC) (r : ((Unit) ⊕ (Unit)) × AmC), lp_62_8 n p0 p1 p2 p4 p5 C = some r → ∀ (o : AmO) (M' : AmM), (match r with
        | ((.inl _), C') => En false 62 19 [] [] (mkM C') o M'
        | ((.inr _), C') => En false 62 40 [] [] (mkM C') o M') → En false 62 8 [(0, .ref p0), (1, .ref p1), (2, .ref p2), (4, .ref p4), (5, .int p5)] [] (mkM C) o M' := by
  intro n
  induction n with
  | zero => intro p0 p1 p2 p4 p5 C r h; cases h
  | succ n ih =>
    intro p0 p1 p2 p4 p5 C r h o M' hk
    unfold lp_62_8 at h
    refine en_iload rfl rfl ?_
    refine ec_iconst cst_30 rfl ?_
    rcases gi h with ⟨c8, h⟩ | ⟨c8, h⟩
    · refine en_icmp_ge_t c8 rfl ?_
      cases h
      exact en_sub [] rfl rfl hk
    · refine en_icmp_ge_f c8 rfl ?_
      refine en_aload rfl rfl ?_
      obtain ⟨g9, h⟩ := gd h
      obtain ⟨r10, e11, h⟩ := gb h
      refine ec_getP (ci := 4) (j := 0) ⟨rfl, rfl, rfl⟩ g9 e11 rfl ?_
      refine en_aload rfl rfl ?_
      obtain ⟨g12, h⟩ := gd h
      obtain ⟨⟨q13, C14⟩, e15, h⟩ := gb h
      dsimp only at h
      refine ec_callV1 (k' := 5) (n := 2) (rc := 0) (a := r10) (as := [.ref p4]) ⟨rfl, rfl⟩ rfl rfl (Nat.le_of_ble_eq_true rfl) (Nat.le_of_ble_eq_true rfl) (Nat.le_of_ble_eq_true rfl) g12 rfl (t_5 e15) ?_
      refine en_istore (l' := [(6, .int q13), (0, .ref p0), (1, .ref p1), (2, .ref p2), (4, .ref p4), (5, .int p5)]) rfl rfl ?_
      refine en_iload rfl rfl ?_
      refine ec_iconst cst_m1 rfl ?_
      rcases gi h with ⟨c16, h⟩ | ⟨c16, h⟩
      · refine en_icmp_ne_t c16 rfl ?_
        refine en_aload rfl rfl ?_
        refine en_dup rfl rfl ?_
        refine ec_getI (ci := 4) (j := 1) ⟨rfl, rfl, rfl⟩ g9 rfl ?_
        refine ec_iconst cst_1 rfl ?_
        refine en_iadd rfl ?_
        refine ec_putI (ci := 4) (j := 1) ⟨rfl, rfl, rfl⟩ g9 rfl ?_
        refine en_aload rfl rfl ?_
        refine en_aload rfl rfl ?_
        refine en_aload rfl rfl ?_
        refine en_iload rfl rfl ?_
        obtain ⟨g17, h⟩ := gd h
        obtain ⟨⟨q18, C19⟩, e20, h⟩ := gb h
        dsimp only at h
        refine ec_callV1 (k' := 103) (n := 4) (rc := 6) (a := p1) (as := [.ref p2, .ref p4, .int q13]) ⟨rfl, rfl⟩ rfl rfl (Nat.le_of_ble_eq_true rfl) (Nat.le_of_ble_eq_true rfl) (Nat.le_of_ble_eq_true rfl) g17 rfl (t_103 e20) ?_
        rcases gi h with ⟨c21, h⟩ | ⟨c21, h⟩
        · refine en_if_eq_t c21 rfl ?_
          refine ec_iinc (l' := [(5, .int (p5 + (1 : Int32))), (6, .int q13), (0, .ref p0), (1, .ref p1), (2, .ref p2), (4, .ref p4)]) rfl cst_1 rfl rfl ?_
          refine en_goto rfl ?_
          refine en_sub [2, 3, 4, 5, 0] rfl rfl ?_
          exact ih _ _ _ _ _ _ _ h o M' hk
        · refine en_if_eq_f c21 rfl ?_
          refine en_aload rfl rfl ?_
          refine en_dup rfl rfl ?_
          refine ec_getI (ci := 4) (j := 2) ⟨rfl, rfl, rfl⟩ g9 rfl ?_
          refine ec_iconst cst_1 rfl ?_
          refine en_iadd rfl ?_
          refine ec_putI (ci := 4) (j := 2) ⟨rfl, rfl, rfl⟩ g9 rfl ?_
          refine ec_iinc (l' := [(5, .int (p5 + (1 : Int32))), (6, .int q13), (0, .ref p0), (1, .ref p1), (2, .ref p2), (4, .ref p4)]) rfl cst_1 rfl rfl ?_
          refine en_goto rfl ?_
          refine en_sub [2, 3, 4, 5, 0] rfl rfl ?_
          exact ih _ _ _ _ _ _ _ h o M' hk
      · refine en_icmp_ne_f c16 rfl ?_
        cases h
        exact en_sub [] rfl rfl hk
/-- BulkWriter$Planner.measure(LBulkWriter$Script;LBulkWriter$Statement;ILBulkWriter$Rows;)V -/
def f_62 (n : Nat) (a0 : Nat) (a1 : Nat) (a2 : Nat) (a3 : Int32) (a4 : Nat) (C : AmC) : Option (Unit × AmC) := if isK a0 4 = true then (cP C a0 0).bind (fun r2 => if isK r2 0 = true then (f_2 n r2 a1 a2 a3 C).bind (fun z => match z with | (_, C6) => (lp_62_8 n a0 a1 a2 a4 (0 : Int32) C6).bind (fun q => match q with | ((.inl _), C24) => some ((), C24) | ((.inr _), C24) => some ((), C24))) else none) else none
set_option maxRecDepth 20000 in
set_option maxHeartbeats 4000000 in
theorem t_62 {n : Nat} {a0 : Nat} {a1 : Nat} {a2 : Nat} {a3 : Int32} {a4 : Nat} {C : AmC} {r : Unit} {C' : AmC} (h : f_62 n a0 a1 a2 a3 a4 C = some (r, C')) : En false 62 0 [(0, .ref a0), (1, .ref a1), (2, .ref a2), (3, .int a3), (4, .ref a4)] [] (mkM C) (.inl none) (mkM C') := by
  unfold f_62 at h
  refine en_aload rfl rfl ?_
  obtain ⟨g1, h⟩ := gd h
  obtain ⟨r2, e3, h⟩ := gb h
  refine ec_getP (ci := 4) (j := 0) ⟨rfl, rfl, rfl⟩ g1 e3 rfl ?_
  refine en_aload rfl rfl ?_
  refine en_aload rfl rfl ?_
  refine en_iload rfl rfl ?_
  obtain ⟨g4, h⟩ := gd h
  obtain ⟨⟨q5, C6⟩, e7, h⟩ := gb h
  dsimp only at h
  refine ec_callV0 (k' := 2) (n := 4) (rc := 0) (a := r2) (as := [.ref a1, .ref a2, .int a3]) ⟨rfl, rfl⟩ rfl rfl (Nat.le_of_ble_eq_true rfl) (Nat.le_of_ble_eq_true rfl) (Nat.le_of_ble_eq_true rfl) g4 rfl (t_2 e7) ?_
  refine ec_iconst cst_0 rfl ?_
  refine en_istore (l' := [(5, .int (0 : Int32)), (0, .ref a0), (1, .ref a1), (2, .ref a2), (3, .int a3), (4, .ref a4)]) rfl rfl ?_
  obtain ⟨⟨q22, C24⟩, e23, h⟩ := gb h
  refine en_sub [1, 2, 3, 5, 0] rfl rfl (lt_62_8 n _ _ _ _ _ _ _ e23 _ _ ?_)
  rcases q22 with ⟨⟩ | ⟨⟩
  · dsimp only at h ⊢
    cases h
    exact en_vret rfl
  · dsimp only at h ⊢
    cases h
    exact en_vret rfl
/-- BulkWriter$Planner.motion(LBulkWriter$Script;LBulkWriter$Statement;I)I -/
def f_66 (n : Nat) (a0 : Nat) (a1 : Nat) (a2 : Int32) (C : AmC) : Option (Int32 × AmC) := (if a2 < 0 then some ((0 : Int32), C) else (if a2 < (4 : Int32) then if isK a1 8 = true then (if ¬ (cI C a1 2) = (3 : Int32) then (cP C a1 5).bind (fun r5 => if isK r5 12 = true then if amIn a2 (aLen r5) = true then (if ¬ (cI C r5 (Int32.toNatClampNeg a2)) = (-1 : Int32) then if isK a0 6 = true then (f_101 n a0 (cI C r5 (Int32.toNatClampNeg a2)) (0 : Int32) C).bind (fun z => match z with | (q11, C12) => (if q11 = (-1 : Int32) then some ((3 : Int32), C12) else (cP C12 a0 13).bind (fun r15 => if isK r15 12 = true then if amIn q11 (aLen r15) = true then (if ¬ (cI C12 r15 (Int32.toNatClampNeg q11)) = (130 : Int32) then some ((3 : Int32), C12) else (cP C12 a0 14).bind (fun r20 => if isK r20 12 = true then if amIn q11 (aLen r20) = true then (if (cI C12 r20 (Int32.toNatClampNeg q11)) = a2 then (f_100 n a0 (cI C r5 (Int32.toNatClampNeg a2)) C12).bind (fun z => match z with | (q25, C26) => (f_101 n a0 (cI C r5 (Int32.toNatClampNeg a2)) (1 : Int32) C26).bind (fun z => match z with | (q28, C29) => (if q25 = (1 : Int32) then some ((0 : Int32), C29) else (if ¬ q28 = (-1 : Int32) then (if (2 : Int32) < q25 then some ((3 : Int32), C29) else (cP C29 a0 13).bind (fun r34 => if isK r34 12 = true then if amIn q28 (aLen r34) = true then (if ¬ (cI C29 r34 (Int32.toNatClampNeg q28)) = (128 : Int32) then some ((3 : Int32), C29) else (cP C29 a0 12).bind (fun r39 => if isK r39 12 = true then if amIn q28 (aLen r39) = true then (if ¬ (cI C29 r39 (Int32.toNatClampNeg q28)) = (42 : Int32) then (cP C29 a0 12).bind (fun r44 => if isK r44 12 = true then if amIn q28 (aLen r44) = true then (if ¬ (cI C29 r44 (Int32.toNatClampNeg q28)) = (45 : Int32) then (cP C29 a0 14).bind (fun r49 => if isK r49 12 = true then if amIn q28 (aLen r49) = true then (if ¬ (cI C29 r49 (Int32.toNatClampNeg q28)) = 0 then (if 0 ≤ (cI C29 r49 (Int32.toNatClampNeg q28)) then some ((2 : Int32), C29) else some ((1 : Int32), C29)) else some ((0 : Int32), C29)) else none else none) else (cP C29 a0 14).bind (fun r55 => if isK r55 12 = true then if amIn q28 (aLen r55) = true then (if ¬ (-(cI C29 r55 (Int32.toNatClampNeg q28))) = 0 then (if 0 ≤ (-(cI C29 r55 (Int32.toNatClampNeg q28))) then some ((2 : Int32), C29) else some ((1 : Int32), C29)) else some ((0 : Int32), C29)) else none else none)) else none else none) else some ((3 : Int32), C29)) else none else none)) else none else none)) else some ((0 : Int32), C29))))) else some ((3 : Int32), C12)) else none else none)) else none else none))) else none else some ((0 : Int32), C)) else none else none) else (cP C a1 6).bind (fun r61 => if isK r61 12 = true then if amIn a2 (aLen r61) = true then (if ¬ (cI C r61 (Int32.toNatClampNeg a2)) = (-1 : Int32) then if isK a0 6 = true then (f_101 n a0 (cI C r61 (Int32.toNatClampNeg a2)) (0 : Int32) C).bind (fun z => match z with | (q67, C68) => (if q67 = (-1 : Int32) then some ((3 : Int32), C68) else (cP C68 a0 13).bind (fun r71 => if isK r71 12 = true then if amIn q67 (aLen r71) = true then (if ¬ (cI C68 r71 (Int32.toNatClampNeg q67)) = (130 : Int32) then some ((3 : Int32), C68) else (cP C68 a0 14).bind (fun r76 => if isK r76 12 = true then if amIn q67 (aLen r76) = true then (if (cI C68 r76 (Int32.toNatClampNeg q67)) = a2 then (f_100 n a0 (cI C r61 (Int32.toNatClampNeg a2)) C68).bind (fun z => match z with | (q81, C82) => (f_101 n a0 (cI C r61 (Int32.toNatClampNeg a2)) (1 : Int32) C82).bind (fun z => match z with | (q84, C85) => (if q81 = (1 : Int32) then some ((0 : Int32), C85) else (if ¬ q84 = (-1 : Int32) then (if (2 : Int32) < q81 then some ((3 : Int32), C85) else (cP C85 a0 13).bind (fun r90 => if isK r90 12 = true then if amIn q84 (aLen r90) = true then (if ¬ (cI C85 r90 (Int32.toNatClampNeg q84)) = (128 : Int32) then some ((3 : Int32), C85) else (cP C85 a0 12).bind (fun r95 => if isK r95 12 = true then if amIn q84 (aLen r95) = true then (if ¬ (cI C85 r95 (Int32.toNatClampNeg q84)) = (42 : Int32) then (cP C85 a0 12).bind (fun r100 => if isK r100 12 = true then if amIn q84 (aLen r100) = true then (if ¬ (cI C85 r100 (Int32.toNatClampNeg q84)) = (45 : Int32) then (cP C85 a0 14).bind (fun r105 => if isK r105 12 = true then if amIn q84 (aLen r105) = true then (if ¬ (cI C85 r105 (Int32.toNatClampNeg q84)) = 0 then (if 0 ≤ (cI C85 r105 (Int32.toNatClampNeg q84)) then some ((2 : Int32), C85) else some ((1 : Int32), C85)) else some ((0 : Int32), C85)) else none else none) else (cP C85 a0 14).bind (fun r111 => if isK r111 12 = true then if amIn q84 (aLen r111) = true then (if ¬ (-(cI C85 r111 (Int32.toNatClampNeg q84))) = 0 then (if 0 ≤ (-(cI C85 r111 (Int32.toNatClampNeg q84))) then some ((2 : Int32), C85) else some ((1 : Int32), C85)) else some ((0 : Int32), C85)) else none else none)) else none else none) else some ((3 : Int32), C85)) else none else none)) else none else none)) else some ((0 : Int32), C85))))) else some ((3 : Int32), C68)) else none else none)) else none else none))) else none else some ((0 : Int32), C)) else none else none)) else none else some ((0 : Int32), C)))
set_option maxRecDepth 20000 in
set_option maxHeartbeats 4000000 in
theorem t_66 {n : Nat} {a0 : Nat} {a1 : Nat} {a2 : Int32} {C : AmC} {r : Int32} {C' : AmC} (h : f_66 n a0 a1 a2 C = some (r, C')) : En false 66 0 [(0, .ref a0), (1, .ref a1), (2, .int a2)] [] (mkM C) (.inl (some (.int r))) (mkM C') := by
  unfold f_66 at h
  refine en_iload rfl rfl ?_
  rcases gi h with ⟨c1, h⟩ | ⟨c1, h⟩
  · refine en_if_lt_t c1 rfl ?_
    refine ec_iconst cst_0 rfl ?_
    cases h
    exact en_iret rfl
  · refine en_if_lt_f c1 rfl ?_
    refine en_iload rfl rfl ?_
    refine ec_iconst cst_4 rfl ?_
    rcases gi h with ⟨c2, h⟩ | ⟨c2, h⟩
    · refine en_icmp_lt_t c2 rfl ?_
      refine en_aload rfl rfl ?_
      obtain ⟨g3, h⟩ := gd h
      refine ec_getI (ci := 8) (j := 2) ⟨rfl, rfl, rfl⟩ g3 rfl ?_
      refine ec_iconst cst_3 rfl ?_
      rcases gi h with ⟨c4, h⟩ | ⟨c4, h⟩
      · refine en_icmp_ne_t c4 rfl ?_
        refine en_aload rfl rfl ?_
        obtain ⟨r5, e6, h⟩ := gb h
        refine ec_getP (ci := 8) (j := 5) ⟨rfl, rfl, rfl⟩ g3 e6 rfl ?_
        refine en_iload rfl rfl ?_
        obtain ⟨g7, h⟩ := gd h
        obtain ⟨g8, h⟩ := gd h
        refine ec_iaload g7 g8 rfl ?_
        refine en_istore (l' := [(3, .int (cI C r5 (Int32.toNatClampNeg a2))), (0, .ref a0), (1, .ref a1), (2, .int a2)]) rfl rfl ?_
        refine en_iload rfl rfl ?_
        refine ec_iconst cst_m1 rfl ?_
        rcases gi h with ⟨c9, h⟩ | ⟨c9, h⟩
        · refine en_icmp_ne_t c9 rfl ?_
          refine en_aload rfl rfl ?_
          refine en_iload rfl rfl ?_
          refine ec_iconst cst_0 rfl ?_
          obtain ⟨g10, h⟩ := gd h
          obtain ⟨⟨q11, C12⟩, e13, h⟩ := gb h
          dsimp only at h
          refine ec_callV1 (k' := 101) (n := 3) (rc := 6) (a := a0) (as := [.int (cI C r5 (Int32.toNatClampNeg a2)), .int (0 : Int32)]) ⟨rfl, rfl⟩ rfl rfl (Nat.le_of_ble_eq_true rfl) (Nat.le_of_ble_eq_true rfl) (Nat.le_of_ble_eq_true rfl) g10 rfl (t_101 e13) ?_
          refine en_istore (l' := [(4, .int q11), (3, .int (cI C r5 (Int32.toNatClampNeg a2))), (0, .ref a0), (1, .ref a1), (2, .int a2)]) rfl rfl ?_
          refine en_iload rfl rfl ?_
          refine ec_iconst cst_m1 rfl ?_
          rcases gi h with ⟨c14, h⟩ | ⟨c14, h⟩
          · refine en_icmp_eq_t c14 rfl ?_
            refine ec_iconst cst_3 rfl ?_
            cases h
            exact en_iret rfl
          · refine en_icmp_eq_f c14 rfl ?_
            refine en_aload rfl rfl ?_
            obtain ⟨r15, e16, h⟩ := gb h
            refine ec_getP (ci := 6) (j := 13) ⟨rfl, rfl, rfl⟩ g10 e16 rfl ?_
            refine en_iload rfl rfl ?_
            obtain ⟨g17, h⟩ := gd h
            obtain ⟨g18, h⟩ := gd h
            refine ec_iaload g17 g18 rfl ?_
            refine ec_iconst cst_130 rfl ?_
            rcases gi h with ⟨c19, h⟩ | ⟨c19, h⟩
            · refine en_icmp_ne_t c19 rfl ?_
              refine ec_iconst cst_3 rfl ?_
              cases h
              exact en_iret rfl
            · refine en_icmp_ne_f c19 rfl ?_
              refine en_aload rfl rfl ?_
              obtain ⟨r20, e21, h⟩ := gb h
              refine ec_getP (ci := 6) (j := 14) ⟨rfl, rfl, rfl⟩ g10 e21 rfl ?_
              refine en_iload rfl rfl ?_
              obtain ⟨g22, h⟩ := gd h
              obtain ⟨g23, h⟩ := gd h
              refine ec_iaload g22 g23 rfl ?_
              refine en_iload rfl rfl ?_
              rcases gi h with ⟨c24, h⟩ | ⟨c24, h⟩
              · refine en_icmp_eq_t c24 rfl ?_
                refine en_aload rfl rfl ?_
                refine en_iload rfl rfl ?_
                obtain ⟨⟨q25, C26⟩, e27, h⟩ := gb h
                dsimp only at h
                refine ec_callV1 (k' := 100) (n := 2) (rc := 6) (a := a0) (as := [.int (cI C r5 (Int32.toNatClampNeg a2))]) ⟨rfl, rfl⟩ rfl rfl (Nat.le_of_ble_eq_true rfl) (Nat.le_of_ble_eq_true rfl) (Nat.le_of_ble_eq_true rfl) g10 rfl (t_100 e27) ?_
                refine en_istore (l' := [(5, .int q25), (4, .int q11), (3, .int (cI C r5 (Int32.toNatClampNeg a2))), (0, .ref a0), (1, .ref a1), (2, .int a2)]) rfl rfl ?_
                refine en_aload rfl rfl ?_
                refine en_iload rfl rfl ?_
                refine ec_iconst cst_1 rfl ?_
                obtain ⟨⟨q28, C29⟩, e30, h⟩ := gb h
                dsimp only at h
                refine ec_callV1 (k' := 101) (n := 3) (rc := 6) (a := a0) (as := [.int (cI C r5 (Int32.toNatClampNeg a2)), .int (1 : Int32)]) ⟨rfl, rfl⟩ rfl rfl (Nat.le_of_ble_eq_true rfl) (Nat.le_of_ble_eq_true rfl) (Nat.le_of_ble_eq_true rfl) g10 rfl (t_101 e30) ?_
                refine en_istore (l' := [(6, .int q28), (5, .int q25), (4, .int q11), (3, .int (cI C r5 (Int32.toNatClampNeg a2))), (0, .ref a0), (1, .ref a1), (2, .int a2)]) rfl rfl ?_
                refine en_iload rfl rfl ?_
                refine ec_iconst cst_1 rfl ?_
                rcases gi h with ⟨c31, h⟩ | ⟨c31, h⟩
                · refine en_icmp_eq_t c31 rfl ?_
                  refine ec_iconst cst_0 rfl ?_
                  cases h
                  exact en_iret rfl
                · refine en_icmp_eq_f c31 rfl ?_
                  refine en_iload rfl rfl ?_
                  refine ec_iconst cst_m1 rfl ?_
                  rcases gi h with ⟨c32, h⟩ | ⟨c32, h⟩
                  · refine en_icmp_ne_t c32 rfl ?_
                    refine en_iload rfl rfl ?_
                    refine ec_iconst cst_2 rfl ?_
                    rcases gi h with ⟨c33, h⟩ | ⟨c33, h⟩
                    · refine en_icmp_gt_t c33 rfl ?_
                      refine ec_iconst cst_3 rfl ?_
                      cases h
                      exact en_iret rfl
                    · refine en_icmp_gt_f c33 rfl ?_
                      refine en_aload rfl rfl ?_
                      obtain ⟨r34, e35, h⟩ := gb h
                      refine ec_getP (ci := 6) (j := 13) ⟨rfl, rfl, rfl⟩ g10 e35 rfl ?_
                      refine en_iload rfl rfl ?_
                      obtain ⟨g36, h⟩ := gd h
                      obtain ⟨g37, h⟩ := gd h
                      refine ec_iaload g36 g37 rfl ?_
                      refine ec_iconst cst_128 rfl ?_
                      rcases gi h with ⟨c38, h⟩ | ⟨c38, h⟩
                      · refine en_icmp_ne_t c38 rfl ?_
                        refine ec_iconst cst_3 rfl ?_
                        cases h
                        exact en_iret rfl
                      · refine en_icmp_ne_f c38 rfl ?_
                        refine en_aload rfl rfl ?_
                        obtain ⟨r39, e40, h⟩ := gb h
                        refine ec_getP (ci := 6) (j := 12) ⟨rfl, rfl, rfl⟩ g10 e40 rfl ?_
                        refine en_iload rfl rfl ?_
                        obtain ⟨g41, h⟩ := gd h
                        obtain ⟨g42, h⟩ := gd h
                        refine ec_iaload g41 g42 rfl ?_
                        refine ec_iconst cst_42 rfl ?_
                        rcases gi h with ⟨c43, h⟩ | ⟨c43, h⟩
                        · refine en_icmp_ne_t c43 rfl ?_
                          refine en_aload rfl rfl ?_
                          obtain ⟨r44, e45, h⟩ := gb h
                          refine ec_getP (ci := 6) (j := 12) ⟨rfl, rfl, rfl⟩ g10 e45 rfl ?_
                          refine en_iload rfl rfl ?_
                          obtain ⟨g46, h⟩ := gd h
                          obtain ⟨g47, h⟩ := gd h
                          refine ec_iaload g46 g47 rfl ?_
                          refine ec_iconst cst_45 rfl ?_
                          rcases gi h with ⟨c48, h⟩ | ⟨c48, h⟩
                          · refine en_icmp_ne_t c48 rfl ?_
                            refine en_aload rfl rfl ?_
                            obtain ⟨r49, e50, h⟩ := gb h
                            refine ec_getP (ci := 6) (j := 14) ⟨rfl, rfl, rfl⟩ g10 e50 rfl ?_
                            refine en_iload rfl rfl ?_
                            obtain ⟨g51, h⟩ := gd h
                            obtain ⟨g52, h⟩ := gd h
                            refine ec_iaload g51 g52 rfl ?_
                            refine en_istore (l' := [(7, .int (cI C29 r49 (Int32.toNatClampNeg q28))), (6, .int q28), (5, .int q25), (4, .int q11), (3, .int (cI C r5 (Int32.toNatClampNeg a2))), (0, .ref a0), (1, .ref a1), (2, .int a2)]) rfl rfl ?_
                            refine en_iload rfl rfl ?_
                            rcases gi h with ⟨c53, h⟩ | ⟨c53, h⟩
                            · refine en_if_ne_t c53 rfl ?_
                              refine en_iload rfl rfl ?_
                              rcases gi h with ⟨c54, h⟩ | ⟨c54, h⟩
                              · refine en_if_ge_t c54 rfl ?_
                                refine ec_iconst cst_2 rfl ?_
                                cases h
                                exact en_iret rfl
                              · refine en_if_ge_f c54 rfl ?_
                                refine ec_iconst cst_1 rfl ?_
                                refine en_goto rfl ?_
                                cases h
                                exact en_iret rfl
                            · refine en_if_ne_f c53 rfl ?_
                              refine ec_iconst cst_0 rfl ?_
                              refine en_goto rfl ?_
                              cases h
                              exact en_iret rfl
                          · refine en_icmp_ne_f c48 rfl ?_
                            refine en_aload rfl rfl ?_
                            obtain ⟨r55, e56, h⟩ := gb h
                            refine ec_getP (ci := 6) (j := 14) ⟨rfl, rfl, rfl⟩ g10 e56 rfl ?_
                            refine en_iload rfl rfl ?_
                            obtain ⟨g57, h⟩ := gd h
                            obtain ⟨g58, h⟩ := gd h
                            refine ec_iaload g57 g58 rfl ?_
                            refine en_ineg rfl ?_
                            refine en_goto rfl ?_
                            refine en_istore (l' := [(7, .int (-(cI C29 r55 (Int32.toNatClampNeg q28)))), (6, .int q28), (5, .int q25), (4, .int q11), (3, .int (cI C r5 (Int32.toNatClampNeg a2))), (0, .ref a0), (1, .ref a1), (2, .int a2)]) rfl rfl ?_
                            refine en_iload rfl rfl ?_
                            rcases gi h with ⟨c59, h⟩ | ⟨c59, h⟩
                            · refine en_if_ne_t c59 rfl ?_
                              refine en_iload rfl rfl ?_
                              rcases gi h with ⟨c60, h⟩ | ⟨c60, h⟩
                              · refine en_if_ge_t c60 rfl ?_
                                refine ec_iconst cst_2 rfl ?_
                                cases h
                                exact en_iret rfl
                              · refine en_if_ge_f c60 rfl ?_
                                refine ec_iconst cst_1 rfl ?_
                                refine en_goto rfl ?_
                                cases h
                                exact en_iret rfl
                            · refine en_if_ne_f c59 rfl ?_
                              refine ec_iconst cst_0 rfl ?_
                              refine en_goto rfl ?_
                              cases h
                              exact en_iret rfl
                        · refine en_icmp_ne_f c43 rfl ?_
                          refine ec_iconst cst_3 rfl ?_
                          cases h
                          exact en_iret rfl
                  · refine en_icmp_ne_f c32 rfl ?_
                    refine ec_iconst cst_0 rfl ?_
                    cases h
                    exact en_iret rfl
              · refine en_icmp_eq_f c24 rfl ?_
                refine ec_iconst cst_3 rfl ?_
                cases h
                exact en_iret rfl
        · refine en_icmp_ne_f c9 rfl ?_
          refine ec_iconst cst_0 rfl ?_
          cases h
          exact en_iret rfl
      · refine en_icmp_ne_f c4 rfl ?_
        refine en_aload rfl rfl ?_
        obtain ⟨r61, e62, h⟩ := gb h
        refine ec_getP (ci := 8) (j := 6) ⟨rfl, rfl, rfl⟩ g3 e62 rfl ?_
        refine en_iload rfl rfl ?_
        obtain ⟨g63, h⟩ := gd h
        obtain ⟨g64, h⟩ := gd h
        refine ec_iaload g63 g64 rfl ?_
        refine en_goto rfl ?_
        refine en_istore (l' := [(3, .int (cI C r61 (Int32.toNatClampNeg a2))), (0, .ref a0), (1, .ref a1), (2, .int a2)]) rfl rfl ?_
        refine en_iload rfl rfl ?_
        refine ec_iconst cst_m1 rfl ?_
        rcases gi h with ⟨c65, h⟩ | ⟨c65, h⟩
        · refine en_icmp_ne_t c65 rfl ?_
          refine en_aload rfl rfl ?_
          refine en_iload rfl rfl ?_
          refine ec_iconst cst_0 rfl ?_
          obtain ⟨g66, h⟩ := gd h
          obtain ⟨⟨q67, C68⟩, e69, h⟩ := gb h
          dsimp only at h
          refine ec_callV1 (k' := 101) (n := 3) (rc := 6) (a := a0) (as := [.int (cI C r61 (Int32.toNatClampNeg a2)), .int (0 : Int32)]) ⟨rfl, rfl⟩ rfl rfl (Nat.le_of_ble_eq_true rfl) (Nat.le_of_ble_eq_true rfl) (Nat.le_of_ble_eq_true rfl) g66 rfl (t_101 e69) ?_
          refine en_istore (l' := [(4, .int q67), (3, .int (cI C r61 (Int32.toNatClampNeg a2))), (0, .ref a0), (1, .ref a1), (2, .int a2)]) rfl rfl ?_
          refine en_iload rfl rfl ?_
          refine ec_iconst cst_m1 rfl ?_
          rcases gi h with ⟨c70, h⟩ | ⟨c70, h⟩
          · refine en_icmp_eq_t c70 rfl ?_
            refine ec_iconst cst_3 rfl ?_
            cases h
            exact en_iret rfl
          · refine en_icmp_eq_f c70 rfl ?_
            refine en_aload rfl rfl ?_
            obtain ⟨r71, e72, h⟩ := gb h
            refine ec_getP (ci := 6) (j := 13) ⟨rfl, rfl, rfl⟩ g66 e72 rfl ?_
            refine en_iload rfl rfl ?_
            obtain ⟨g73, h⟩ := gd h
            obtain ⟨g74, h⟩ := gd h
            refine ec_iaload g73 g74 rfl ?_
            refine ec_iconst cst_130 rfl ?_
            rcases gi h with ⟨c75, h⟩ | ⟨c75, h⟩
            · refine en_icmp_ne_t c75 rfl ?_
              refine ec_iconst cst_3 rfl ?_
              cases h
              exact en_iret rfl
            · refine en_icmp_ne_f c75 rfl ?_
              refine en_aload rfl rfl ?_
              obtain ⟨r76, e77, h⟩ := gb h
              refine ec_getP (ci := 6) (j := 14) ⟨rfl, rfl, rfl⟩ g66 e77 rfl ?_
              refine en_iload rfl rfl ?_
              obtain ⟨g78, h⟩ := gd h
              obtain ⟨g79, h⟩ := gd h
              refine ec_iaload g78 g79 rfl ?_
              refine en_iload rfl rfl ?_
              rcases gi h with ⟨c80, h⟩ | ⟨c80, h⟩
              · refine en_icmp_eq_t c80 rfl ?_
                refine en_aload rfl rfl ?_
                refine en_iload rfl rfl ?_
                obtain ⟨⟨q81, C82⟩, e83, h⟩ := gb h
                dsimp only at h
                refine ec_callV1 (k' := 100) (n := 2) (rc := 6) (a := a0) (as := [.int (cI C r61 (Int32.toNatClampNeg a2))]) ⟨rfl, rfl⟩ rfl rfl (Nat.le_of_ble_eq_true rfl) (Nat.le_of_ble_eq_true rfl) (Nat.le_of_ble_eq_true rfl) g66 rfl (t_100 e83) ?_
                refine en_istore (l' := [(5, .int q81), (4, .int q67), (3, .int (cI C r61 (Int32.toNatClampNeg a2))), (0, .ref a0), (1, .ref a1), (2, .int a2)]) rfl rfl ?_
                refine en_aload rfl rfl ?_
                refine en_iload rfl rfl ?_
                refine ec_iconst cst_1 rfl ?_
                obtain ⟨⟨q84, C85⟩, e86, h⟩ := gb h
                dsimp only at h
                refine ec_callV1 (k' := 101) (n := 3) (rc := 6) (a := a0) (as := [.int (cI C r61 (Int32.toNatClampNeg a2)), .int (1 : Int32)]) ⟨rfl, rfl⟩ rfl rfl (Nat.le_of_ble_eq_true rfl) (Nat.le_of_ble_eq_true rfl) (Nat.le_of_ble_eq_true rfl) g66 rfl (t_101 e86) ?_
                refine en_istore (l' := [(6, .int q84), (5, .int q81), (4, .int q67), (3, .int (cI C r61 (Int32.toNatClampNeg a2))), (0, .ref a0), (1, .ref a1), (2, .int a2)]) rfl rfl ?_
                refine en_iload rfl rfl ?_
                refine ec_iconst cst_1 rfl ?_
                rcases gi h with ⟨c87, h⟩ | ⟨c87, h⟩
                · refine en_icmp_eq_t c87 rfl ?_
                  refine ec_iconst cst_0 rfl ?_
                  cases h
                  exact en_iret rfl
                · refine en_icmp_eq_f c87 rfl ?_
                  refine en_iload rfl rfl ?_
                  refine ec_iconst cst_m1 rfl ?_
                  rcases gi h with ⟨c88, h⟩ | ⟨c88, h⟩
                  · refine en_icmp_ne_t c88 rfl ?_
                    refine en_iload rfl rfl ?_
                    refine ec_iconst cst_2 rfl ?_
                    rcases gi h with ⟨c89, h⟩ | ⟨c89, h⟩
                    · refine en_icmp_gt_t c89 rfl ?_
                      refine ec_iconst cst_3 rfl ?_
                      cases h
                      exact en_iret rfl
                    · refine en_icmp_gt_f c89 rfl ?_
                      refine en_aload rfl rfl ?_
                      obtain ⟨r90, e91, h⟩ := gb h
                      refine ec_getP (ci := 6) (j := 13) ⟨rfl, rfl, rfl⟩ g66 e91 rfl ?_
                      refine en_iload rfl rfl ?_
                      obtain ⟨g92, h⟩ := gd h
                      obtain ⟨g93, h⟩ := gd h
                      refine ec_iaload g92 g93 rfl ?_
                      refine ec_iconst cst_128 rfl ?_
                      rcases gi h with ⟨c94, h⟩ | ⟨c94, h⟩
                      · refine en_icmp_ne_t c94 rfl ?_
                        refine ec_iconst cst_3 rfl ?_
                        cases h
                        exact en_iret rfl
                      · refine en_icmp_ne_f c94 rfl ?_
                        refine en_aload rfl rfl ?_
                        obtain ⟨r95, e96, h⟩ := gb h
                        refine ec_getP (ci := 6) (j := 12) ⟨rfl, rfl, rfl⟩ g66 e96 rfl ?_
                        refine en_iload rfl rfl ?_
                        obtain ⟨g97, h⟩ := gd h
                        obtain ⟨g98, h⟩ := gd h
                        refine ec_iaload g97 g98 rfl ?_
                        refine ec_iconst cst_42 rfl ?_
                        rcases gi h with ⟨c99, h⟩ | ⟨c99, h⟩
                        · refine en_icmp_ne_t c99 rfl ?_
                          refine en_aload rfl rfl ?_
                          obtain ⟨r100, e101, h⟩ := gb h
                          refine ec_getP (ci := 6) (j := 12) ⟨rfl, rfl, rfl⟩ g66 e101 rfl ?_
                          refine en_iload rfl rfl ?_
                          obtain ⟨g102, h⟩ := gd h
                          obtain ⟨g103, h⟩ := gd h
                          refine ec_iaload g102 g103 rfl ?_
                          refine ec_iconst cst_45 rfl ?_
                          rcases gi h with ⟨c104, h⟩ | ⟨c104, h⟩
                          · refine en_icmp_ne_t c104 rfl ?_
                            refine en_aload rfl rfl ?_
                            obtain ⟨r105, e106, h⟩ := gb h
                            refine ec_getP (ci := 6) (j := 14) ⟨rfl, rfl, rfl⟩ g66 e106 rfl ?_
                            refine en_iload rfl rfl ?_
                            obtain ⟨g107, h⟩ := gd h
                            obtain ⟨g108, h⟩ := gd h
                            refine ec_iaload g107 g108 rfl ?_
                            refine en_istore (l' := [(7, .int (cI C85 r105 (Int32.toNatClampNeg q84))), (6, .int q84), (5, .int q81), (4, .int q67), (3, .int (cI C r61 (Int32.toNatClampNeg a2))), (0, .ref a0), (1, .ref a1), (2, .int a2)]) rfl rfl ?_
                            refine en_iload rfl rfl ?_
                            rcases gi h with ⟨c109, h⟩ | ⟨c109, h⟩
                            · refine en_if_ne_t c109 rfl ?_
                              refine en_iload rfl rfl ?_
                              rcases gi h with ⟨c110, h⟩ | ⟨c110, h⟩
                              · refine en_if_ge_t c110 rfl ?_
                                refine ec_iconst cst_2 rfl ?_
                                cases h
                                exact en_iret rfl
                              · refine en_if_ge_f c110 rfl ?_
                                refine ec_iconst cst_1 rfl ?_
                                refine en_goto rfl ?_
                                cases h
                                exact en_iret rfl
                            · refine en_if_ne_f c109 rfl ?_
                              refine ec_iconst cst_0 rfl ?_
                              refine en_goto rfl ?_
                              cases h
                              exact en_iret rfl
                          · refine en_icmp_ne_f c104 rfl ?_
                            refine en_aload rfl rfl ?_
                            obtain ⟨r111, e112, h⟩ := gb h
                            refine ec_getP (ci := 6) (j := 14) ⟨rfl, rfl, rfl⟩ g66 e112 rfl ?_
                            refine en_iload rfl rfl ?_
                            obtain ⟨g113, h⟩ := gd h
                            obtain ⟨g114, h⟩ := gd h
                            refine ec_iaload g113 g114 rfl ?_
                            refine en_ineg rfl ?_
                            refine en_goto rfl ?_
                            refine en_istore (l' := [(7, .int (-(cI C85 r111 (Int32.toNatClampNeg q84)))), (6, .int q84), (5, .int q81), (4, .int q67), (3, .int (cI C r61 (Int32.toNatClampNeg a2))), (0, .ref a0), (1, .ref a1), (2, .int a2)]) rfl rfl ?_
                            refine en_iload rfl rfl ?_
                            rcases gi h with ⟨c115, h⟩ | ⟨c115, h⟩
                            · refine en_if_ne_t c115 rfl ?_
                              refine en_iload rfl rfl ?_
                              rcases gi h with ⟨c116, h⟩ | ⟨c116, h⟩
                              · refine en_if_ge_t c116 rfl ?_
                                refine ec_iconst cst_2 rfl ?_
                                cases h
                                exact en_iret rfl
                              · refine en_if_ge_f c116 rfl ?_
                                refine ec_iconst cst_1 rfl ?_
                                refine en_goto rfl ?_
                                cases h
                                exact en_iret rfl
                            · refine en_if_ne_f c115 rfl ?_
                              refine ec_iconst cst_0 rfl ?_
                              refine en_goto rfl ?_
                              cases h
                              exact en_iret rfl
                        · refine en_icmp_ne_f c99 rfl ?_
                          refine ec_iconst cst_3 rfl ?_
                          cases h
                          exact en_iret rfl
                  · refine en_icmp_ne_f c88 rfl ?_
                    refine ec_iconst cst_0 rfl ?_
                    cases h
                    exact en_iret rfl
              · refine en_icmp_eq_f c80 rfl ?_
                refine ec_iconst cst_3 rfl ?_
                cases h
                exact en_iret rfl
        · refine en_icmp_ne_f c65 rfl ?_
          refine ec_iconst cst_0 rfl ?_
          cases h
          exact en_iret rfl
    · refine en_icmp_lt_f c2 rfl ?_
      refine ec_iconst cst_0 rfl ?_
      cases h
      exact en_iret rfl
/-- BulkWriter$Planner.meetsItself(LBulkWriter$Script;LBulkWriter$Statement;I)Z -/
def f_65 (n : Nat) (a0 : Nat) (a1 : Nat) (a2 : Int32) (C : AmC) : Option (Int32 × AmC) := (f_88 n a2 C).bind (fun z => match z with | (q1, C2) => if isK a0 6 = true then (f_93 n a0 q1 C2).bind (fun z => match z with | (q5, C6) => (f_94 n a0 q1 C6).bind (fun z => match z with | (q8, C9) => if isK a1 8 = true then (if (cI C9 a1 0) = 0 then (if ¬ (cI C9 a1 2) = (1 : Int32) then (if ¬ (cI C9 a1 2) = (3 : Int32) then (if ¬ q5 = (-1 : Int32) then (f_66 n a0 a1 q5 C9).bind (fun z => match z with | (q16, C17) => (if ¬ q16 = 0 then (if ¬ q16 = 0 then (f_89 n a2 C17).bind (fun z => match z with | (q21, C22) => (if q21 = 0 then (if q16 = (1 : Int32) then some ((0 : Int32), C22) else some ((1 : Int32), C22)) else (if q16 = (2 : Int32) then some ((0 : Int32), C22) else some ((1 : Int32), C22)))) else some ((0 : Int32), C17)) else (if q8 = (-1 : Int32) then (if ¬ q16 = 0 then (f_89 n a2 C17).bind (fun z => match z with | (q29, C30) => (if q29 = 0 then (if q16 = (1 : Int32) then some ((0 : Int32), C30) else some ((1 : Int32), C30)) else (if q16 = (2 : Int32) then some ((0 : Int32), C30) else some ((1 : Int32), C30)))) else some ((0 : Int32), C17)) else (f_66 n a0 a1 q8 C17).bind (fun z => match z with | (q35, C36) => (if ¬ q35 = 0 then (f_89 n a2 C36).bind (fun z => match z with | (q39, C40) => (if q39 = 0 then (if q35 = (1 : Int32) then some ((0 : Int32), C40) else some ((1 : Int32), C40)) else (if q35 = (2 : Int32) then some ((0 : Int32), C40) else some ((1 : Int32), C40)))) else some ((0 : Int32), C36)))))) else some ((0 : Int32), C9)) else (if ¬ q5 = (-1 : Int32) then (f_66 n a0 a1 q5 C9).bind (fun z => match z with | (q46, C47) => (if ¬ q46 = 0 then (if ¬ q46 = 0 then (f_89 n a2 C47).bind (fun z => match z with | (q51, C52) => (if q51 = 0 then (if q46 = (1 : Int32) then some ((0 : Int32), C52) else some ((1 : Int32), C52)) else (if q46 = (2 : Int32) then some ((0 : Int32), C52) else some ((1 : Int32), C52)))) else some ((1 : Int32), C47)) else (if q8 = (-1 : Int32) then (if ¬ q46 = 0 then (f_89 n a2 C47).bind (fun z => match z with | (q59, C60) => (if q59 = 0 then (if q46 = (1 : Int32) then some ((0 : Int32), C60) else some ((1 : Int32), C60)) else (if q46 = (2 : Int32) then some ((0 : Int32), C60) else some ((1 : Int32), C60)))) else some ((1 : Int32), C47)) else (f_66 n a0 a1 q8 C47).bind (fun z => match z with | (q65, C66) => (if ¬ q65 = 0 then (f_89 n a2 C66).bind (fun z => match z with | (q69, C70) => (if q69 = 0 then (if q65 = (1 : Int32) then some ((0 : Int32), C70) else some ((1 : Int32), C70)) else (if q65 = (2 : Int32) then some ((0 : Int32), C70) else some ((1 : Int32), C70)))) else some ((1 : Int32), C66)))))) else some ((1 : Int32), C9))) else some ((0 : Int32), C9)) else (if ¬ (cI C9 a1 1) = 0 then some ((1 : Int32), C9) else (f_115 n a1 (cI C9 a1 3) C9).bind (fun z => match z with | (q76, C77) => (if ¬ q76 = 0 then some ((1 : Int32), C77) else (f_115 n a1 q5 C77).bind (fun z => match z with | (q80, C81) => (if ¬ q80 = 0 then some ((1 : Int32), C81) else (f_115 n a1 q8 C81).bind (fun z => match z with | (q84, C85) => (if q84 = 0 then some ((0 : Int32), C85) else some ((1 : Int32), C85))))))))) else none)) else none)
set_option maxRecDepth 20000 in
set_option maxHeartbeats 4000000 in
theorem t_65 {n : Nat} {a0 : Nat} {a1 : Nat} {a2 : Int32} {C : AmC} {r : Int32} {C' : AmC} (h : f_65 n a0 a1 a2 C = some (r, C')) : En false 65 0 [(0, .ref a0), (1, .ref a1), (2, .int a2)] [] (mkM C) (.inl (some (.int r))) (mkM C') := by
  unfold f_65 at h
  refine en_iload rfl rfl ?_
  obtain ⟨⟨q1, C2⟩, e3, h⟩ := gb h
  dsimp only at h
  refine ec_callS1 (k' := 88) (n := 1) (as := [.int a2]) rfl rfl rfl (Nat.le_of_ble_eq_true rfl) (Nat.le_of_ble_eq_true rfl) (Nat.le_of_ble_eq_true rfl) rfl (t_88 e3) ?_
  refine en_istore (l' := [(3, .int q1), (0, .ref a0), (1, .ref a1), (2, .int a2)]) rfl rfl ?_
  refine en_aload rfl rfl ?_
  refine en_iload rfl rfl ?_
  obtain ⟨g4, h⟩ := gd h
  obtain ⟨⟨q5, C6⟩, e7, h⟩ := gb h
  dsimp only at h
  refine ec_callV1 (k' := 93) (n := 2) (rc := 6) (a := a0) (as := [.int q1]) ⟨rfl, rfl⟩ rfl rfl (Nat.le_of_ble_eq_true rfl) (Nat.le_of_ble_eq_true rfl) (Nat.le_of_ble_eq_true rfl) g4 rfl (t_93 e7) ?_
  refine en_istore (l' := [(4, .int q5), (3, .int q1), (0, .ref a0), (1, .ref a1), (2, .int a2)]) rfl rfl ?_
  refine en_aload rfl rfl ?_
  refine en_iload rfl rfl ?_
  obtain ⟨⟨q8, C9⟩, e10, h⟩ := gb h
  dsimp only at h
  refine ec_callV1 (k' := 94) (n := 2) (rc := 6) (a := a0) (as := [.int q1]) ⟨rfl, rfl⟩ rfl rfl (Nat.le_of_ble_eq_true rfl) (Nat.le_of_ble_eq_true rfl) (Nat.le_of_ble_eq_true rfl) g4 rfl (t_94 e10) ?_
  refine en_istore (l' := [(5, .int q8), (4, .int q5), (3, .int q1), (0, .ref a0), (1, .ref a1), (2, .int a2)]) rfl rfl ?_
  refine en_aload rfl rfl ?_
  obtain ⟨g11, h⟩ := gd h
  refine ec_getI (ci := 8) (j := 0) ⟨rfl, rfl, rfl⟩ g11 rfl ?_
  rcases gi h with ⟨c12, h⟩ | ⟨c12, h⟩
  · refine en_if_eq_t c12 rfl ?_
    refine en_aload rfl rfl ?_
    refine ec_getI (ci := 8) (j := 2) ⟨rfl, rfl, rfl⟩ g11 rfl ?_
    refine ec_iconst cst_1 rfl ?_
    rcases gi h with ⟨c13, h⟩ | ⟨c13, h⟩
    · refine en_icmp_ne_t c13 rfl ?_
      refine en_aload rfl rfl ?_
      refine ec_getI (ci := 8) (j := 2) ⟨rfl, rfl, rfl⟩ g11 rfl ?_
      refine ec_iconst cst_3 rfl ?_
      rcases gi h with ⟨c14, h⟩ | ⟨c14, h⟩
      · refine en_icmp_ne_t c14 rfl ?_
        refine ec_iconst cst_0 rfl ?_
        refine en_istore (l' := [(6, .int (0 : Int32)), (5, .int q8), (4, .int q5), (3, .int q1), (0, .ref a0), (1, .ref a1), (2, .int a2)]) rfl rfl ?_
        refine en_iload rfl rfl ?_
        refine ec_iconst cst_m1 rfl ?_
        rcases gi h with ⟨c15, h⟩ | ⟨c15, h⟩
        · refine en_icmp_ne_t c15 rfl ?_
          refine en_aload rfl rfl ?_
          refine en_aload rfl rfl ?_
          refine en_iload rfl rfl ?_
          obtain ⟨⟨q16, C17⟩, e18, h⟩ := gb h
          dsimp only at h
          refine ec_callS1 (k' := 66) (n := 3) (as := [.ref a0, .ref a1, .int q5]) rfl rfl rfl (Nat.le_of_ble_eq_true rfl) (Nat.le_of_ble_eq_true rfl) (Nat.le_of_ble_eq_true rfl) rfl (t_66 e18) ?_
          refine en_istore (l' := [(7, .int q16), (6, .int (0 : Int32)), (5, .int q8), (4, .int q5), (3, .int q1), (0, .ref a0), (1, .ref a1), (2, .int a2)]) rfl rfl ?_
          refine en_iload rfl rfl ?_
          rcases gi h with ⟨c19, h⟩ | ⟨c19, h⟩
          · refine en_if_ne_t c19 rfl ?_
            refine en_iload rfl rfl ?_
            rcases gi h with ⟨c20, h⟩ | ⟨c20, h⟩
            · refine en_if_ne_t c20 rfl ?_
              refine en_iload rfl rfl ?_
              refine en_iload rfl rfl ?_
              obtain ⟨⟨q21, C22⟩, e23, h⟩ := gb h
              dsimp only at h
              refine ec_callS1 (k' := 89) (n := 1) (as := [.int a2]) rfl rfl rfl (Nat.le_of_ble_eq_true rfl) (Nat.le_of_ble_eq_true rfl) (Nat.le_of_ble_eq_true rfl) rfl (t_89 e23) ?_
              rcases gi h with ⟨c24, h⟩ | ⟨c24, h⟩
              · refine en_if_eq_t c24 rfl ?_
                refine ec_iconst cst_1 rfl ?_
                rcases gi h with ⟨c25, h⟩ | ⟨c25, h⟩
                · refine en_icmp_eq_t c25 rfl ?_
                  refine ec_iconst cst_0 rfl ?_
                  cases h
                  exact en_zret (Or.inl rfl) rfl
                · refine en_icmp_eq_f c25 rfl ?_
                  refine ec_iconst cst_1 rfl ?_
                  refine en_goto rfl ?_
                  cases h
                  exact en_zret (Or.inr rfl) rfl
              · refine en_if_eq_f c24 rfl ?_
                refine ec_iconst cst_2 rfl ?_
                refine en_goto rfl ?_
                rcases gi h with ⟨c26, h⟩ | ⟨c26, h⟩
                · refine en_icmp_eq_t c26 rfl ?_
                  refine ec_iconst cst_0 rfl ?_
                  cases h
                  exact en_zret (Or.inl rfl) rfl
                · refine en_icmp_eq_f c26 rfl ?_
                  refine ec_iconst cst_1 rfl ?_
                  refine en_goto rfl ?_
                  cases h
                  exact en_zret (Or.inr rfl) rfl
            · refine en_if_ne_f c20 rfl ?_
              refine en_iload rfl rfl ?_
              cases h
              exact en_zret (Or.inl rfl) rfl
          · refine en_if_ne_f c19 rfl ?_
            refine en_iload rfl rfl ?_
            refine ec_iconst cst_m1 rfl ?_
            rcases gi h with ⟨c27, h⟩ | ⟨c27, h⟩
            · refine en_icmp_eq_t c27 rfl ?_
              refine en_iload rfl rfl ?_
              rcases gi h with ⟨c28, h⟩ | ⟨c28, h⟩
              · refine en_if_ne_t c28 rfl ?_
                refine en_iload rfl rfl ?_
                refine en_iload rfl rfl ?_
                obtain ⟨⟨q29, C30⟩, e31, h⟩ := gb h
                dsimp only at h
                refine ec_callS1 (k' := 89) (n := 1) (as := [.int a2]) rfl rfl rfl (Nat.le_of_ble_eq_true rfl) (Nat.le_of_ble_eq_true rfl) (Nat.le_of_ble_eq_true rfl) rfl (t_89 e31) ?_
                rcases gi h with ⟨c32, h⟩ | ⟨c32, h⟩
                · refine en_if_eq_t c32 rfl ?_
                  refine ec_iconst cst_1 rfl ?_
                  rcases gi h with ⟨c33, h⟩ | ⟨c33, h⟩
                  · refine en_icmp_eq_t c33 rfl ?_
                    refine ec_iconst cst_0 rfl ?_
                    cases h
                    exact en_zret (Or.inl rfl) rfl
                  · refine en_icmp_eq_f c33 rfl ?_
                    refine ec_iconst cst_1 rfl ?_
                    refine en_goto rfl ?_
                    cases h
                    exact en_zret (Or.inr rfl) rfl
                · refine en_if_eq_f c32 rfl ?_
                  refine ec_iconst cst_2 rfl ?_
                  refine en_goto rfl ?_
                  rcases gi h with ⟨c34, h⟩ | ⟨c34, h⟩
                  · refine en_icmp_eq_t c34 rfl ?_
                    refine ec_iconst cst_0 rfl ?_
                    cases h
                    exact en_zret (Or.inl rfl) rfl
                  · refine en_icmp_eq_f c34 rfl ?_
                    refine ec_iconst cst_1 rfl ?_
                    refine en_goto rfl ?_
                    cases h
                    exact en_zret (Or.inr rfl) rfl
              · refine en_if_ne_f c28 rfl ?_
                refine en_iload rfl rfl ?_
                cases h
                exact en_zret (Or.inl rfl) rfl
            · refine en_icmp_eq_f c27 rfl ?_
              refine en_aload rfl rfl ?_
              refine en_aload rfl rfl ?_
              refine en_iload rfl rfl ?_
              obtain ⟨⟨q35, C36⟩, e37, h⟩ := gb h
              dsimp only at h
              refine ec_callS1 (k' := 66) (n := 3) (as := [.ref a0, .ref a1, .int q8]) rfl rfl rfl (Nat.le_of_ble_eq_true rfl) (Nat.le_of_ble_eq_true rfl) (Nat.le_of_ble_eq_true rfl) rfl (t_66 e37) ?_
              refine en_istore (l' := [(7, .int q35), (6, .int (0 : Int32)), (5, .int q8), (4, .int q5), (3, .int q1), (0, .ref a0), (1, .ref a1), (2, .int a2)]) rfl rfl ?_
              refine en_iload rfl rfl ?_
              rcases gi h with ⟨c38, h⟩ | ⟨c38, h⟩
              · refine en_if_ne_t c38 rfl ?_
                refine en_iload rfl rfl ?_
                refine en_iload rfl rfl ?_
                obtain ⟨⟨q39, C40⟩, e41, h⟩ := gb h
                dsimp only at h
                refine ec_callS1 (k' := 89) (n := 1) (as := [.int a2]) rfl rfl rfl (Nat.le_of_ble_eq_true rfl) (Nat.le_of_ble_eq_true rfl) (Nat.le_of_ble_eq_true rfl) rfl (t_89 e41) ?_
                rcases gi h with ⟨c42, h⟩ | ⟨c42, h⟩
                · refine en_if_eq_t c42 rfl ?_
                  refine ec_iconst cst_1 rfl ?_
                  rcases gi h with ⟨c43, h⟩ | ⟨c43, h⟩
                  · refine en_icmp_eq_t c43 rfl ?_
                    refine ec_iconst cst_0 rfl ?_
                    cases h
                    exact en_zret (Or.inl rfl) rfl
                  · refine en_icmp_eq_f c43 rfl ?_
                    refine ec_iconst cst_1 rfl ?_
                    refine en_goto rfl ?_
                    cases h
                    exact en_zret (Or.inr rfl) rfl
                · refine en_if_eq_f c42 rfl ?_
                  refine ec_iconst cst_2 rfl ?_
                  refine en_goto rfl ?_
                  rcases gi h with ⟨c44, h⟩ | ⟨c44, h⟩
                  · refine en_icmp_eq_t c44 rfl ?_
                    refine ec_iconst cst_0 rfl ?_
                    cases h
                    exact en_zret (Or.inl rfl) rfl
                  · refine en_icmp_eq_f c44 rfl ?_
                    refine ec_iconst cst_1 rfl ?_
                    refine en_goto rfl ?_
                    cases h
                    exact en_zret (Or.inr rfl) rfl
              · refine en_if_ne_f c38 rfl ?_
                refine en_iload rfl rfl ?_
                cases h
                exact en_zret (Or.inl rfl) rfl
        · refine en_icmp_ne_f c15 rfl ?_
          refine en_iload rfl rfl ?_
          cases h
          exact en_zret (Or.inl rfl) rfl
      · refine en_icmp_ne_f c14 rfl ?_
        refine ec_iconst cst_1 rfl ?_
        refine en_goto rfl ?_
        refine en_istore (l' := [(6, .int (1 : Int32)), (5, .int q8), (4, .int q5), (3, .int q1), (0, .ref a0), (1, .ref a1), (2, .int a2)]) rfl rfl ?_
        refine en_iload rfl rfl ?_
        refine ec_iconst cst_m1 rfl ?_
        rcases gi h with ⟨c45, h⟩ | ⟨c45, h⟩
        · refine en_icmp_ne_t c45 rfl ?_
          refine en_aload rfl rfl ?_
          refine en_aload rfl rfl ?_
          refine en_iload rfl rfl ?_
          obtain ⟨⟨q46, C47⟩, e48, h⟩ := gb h
          dsimp only at h
          refine ec_callS1 (k' := 66) (n := 3) (as := [.ref a0, .ref a1, .int q5]) rfl rfl rfl (Nat.le_of_ble_eq_true rfl) (Nat.le_of_ble_eq_true rfl) (Nat.le_of_ble_eq_true rfl) rfl (t_66 e48) ?_
          refine en_istore (l' := [(7, .int q46), (6, .int (1 : Int32)), (5, .int q8), (4, .int q5), (3, .int q1), (0, .ref a0), (1, .ref a1), (2, .int a2)]) rfl rfl ?_
          refine en_iload rfl rfl ?_
          rcases gi h with ⟨c49, h⟩ | ⟨c49, h⟩
          · refine en_if_ne_t c49 rfl ?_
            refine en_iload rfl rfl ?_
            rcases gi h with ⟨c50, h⟩ | ⟨c50, h⟩
            · refine en_if_ne_t c50 rfl ?_
              refine en_iload rfl rfl ?_
              refine en_iload rfl rfl ?_
              obtain ⟨⟨q51, C52⟩, e53, h⟩ := gb h
              dsimp only at h
              refine ec_callS1 (k' := 89) (n := 1) (as := [.int a2]) rfl rfl rfl (Nat.le_of_ble_eq_true rfl) (Nat.le_of_ble_eq_true rfl) (Nat.le_of_ble_eq_true rfl) rfl (t_89 e53) ?_
              rcases gi h with ⟨c54, h⟩ | ⟨c54, h⟩
              · refine en_if_eq_t c54 rfl ?_
                refine ec_iconst cst_1 rfl ?_
                rcases gi h with ⟨c55, h⟩ | ⟨c55, h⟩
                · refine en_icmp_eq_t c55 rfl ?_
                  refine ec_iconst cst_0 rfl ?_
                  cases h
                  exact en_zret (Or.inl rfl) rfl
                · refine en_icmp_eq_f c55 rfl ?_
                  refine ec_iconst cst_1 rfl ?_
                  refine en_goto rfl ?_
                  cases h
                  exact en_zret (Or.inr rfl) rfl
              · refine en_if_eq_f c54 rfl ?_
                refine ec_iconst cst_2 rfl ?_
                refine en_goto rfl ?_
                rcases gi h with ⟨c56, h⟩ | ⟨c56, h⟩
                · refine en_icmp_eq_t c56 rfl ?_
                  refine ec_iconst cst_0 rfl ?_
                  cases h
                  exact en_zret (Or.inl rfl) rfl
                · refine en_icmp_eq_f c56 rfl ?_
                  refine ec_iconst cst_1 rfl ?_
                  refine en_goto rfl ?_
                  cases h
                  exact en_zret (Or.inr rfl) rfl
            · refine en_if_ne_f c50 rfl ?_
              refine en_iload rfl rfl ?_
              cases h
              exact en_zret (Or.inr rfl) rfl
          · refine en_if_ne_f c49 rfl ?_
            refine en_iload rfl rfl ?_
            refine ec_iconst cst_m1 rfl ?_
            rcases gi h with ⟨c57, h⟩ | ⟨c57, h⟩
            · refine en_icmp_eq_t c57 rfl ?_
              refine en_iload rfl rfl ?_
              rcases gi h with ⟨c58, h⟩ | ⟨c58, h⟩
              · refine en_if_ne_t c58 rfl ?_
                refine en_iload rfl rfl ?_
                refine en_iload rfl rfl ?_
                obtain ⟨⟨q59, C60⟩, e61, h⟩ := gb h
                dsimp only at h
                refine ec_callS1 (k' := 89) (n := 1) (as := [.int a2]) rfl rfl rfl (Nat.le_of_ble_eq_true rfl) (Nat.le_of_ble_eq_true rfl) (Nat.le_of_ble_eq_true rfl) rfl (t_89 e61) ?_
                rcases gi h with ⟨c62, h⟩ | ⟨c62, h⟩
                · refine en_if_eq_t c62 rfl ?_
                  refine ec_iconst cst_1 rfl ?_
                  rcases gi h with ⟨c63, h⟩ | ⟨c63, h⟩
                  · refine en_icmp_eq_t c63 rfl ?_
                    refine ec_iconst cst_0 rfl ?_
                    cases h
                    exact en_zret (Or.inl rfl) rfl
                  · refine en_icmp_eq_f c63 rfl ?_
                    refine ec_iconst cst_1 rfl ?_
                    refine en_goto rfl ?_
                    cases h
                    exact en_zret (Or.inr rfl) rfl
                · refine en_if_eq_f c62 rfl ?_
                  refine ec_iconst cst_2 rfl ?_
                  refine en_goto rfl ?_
                  rcases gi h with ⟨c64, h⟩ | ⟨c64, h⟩
                  · refine en_icmp_eq_t c64 rfl ?_
                    refine ec_iconst cst_0 rfl ?_
                    cases h
                    exact en_zret (Or.inl rfl) rfl
                  · refine en_icmp_eq_f c64 rfl ?_
                    refine ec_iconst cst_1 rfl ?_
                    refine en_goto rfl ?_
                    cases h
                    exact en_zret (Or.inr rfl) rfl
              · refine en_if_ne_f c58 rfl ?_
                refine en_iload rfl rfl ?_
                cases h
                exact en_zret (Or.inr rfl) rfl
            · refine en_icmp_eq_f c57 rfl ?_
              refine en_aload rfl rfl ?_
              refine en_aload rfl rfl ?_
              refine en_iload rfl rfl ?_
              obtain ⟨⟨q65, C66⟩, e67, h⟩ := gb h
              dsimp only at h
              refine ec_callS1 (k' := 66) (n := 3) (as := [.ref a0, .ref a1, .int q8]) rfl rfl rfl (Nat.le_of_ble_eq_true rfl) (Nat.le_of_ble_eq_true rfl) (Nat.le_of_ble_eq_true rfl) rfl (t_66 e67) ?_
              refine en_istore (l' := [(7, .int q65), (6, .int (1 : Int32)), (5, .int q8), (4, .int q5), (3, .int q1), (0, .ref a0), (1, .ref a1), (2, .int a2)]) rfl rfl ?_
              refine en_iload rfl rfl ?_
              rcases gi h with ⟨c68, h⟩ | ⟨c68, h⟩
              · refine en_if_ne_t c68 rfl ?_
                refine en_iload rfl rfl ?_
                refine en_iload rfl rfl ?_
                obtain ⟨⟨q69, C70⟩, e71, h⟩ := gb h
                dsimp only at h
                refine ec_callS1 (k' := 89) (n := 1) (as := [.int a2]) rfl rfl rfl (Nat.le_of_ble_eq_true rfl) (Nat.le_of_ble_eq_true rfl) (Nat.le_of_ble_eq_true rfl) rfl (t_89 e71) ?_
                rcases gi h with ⟨c72, h⟩ | ⟨c72, h⟩
                · refine en_if_eq_t c72 rfl ?_
                  refine ec_iconst cst_1 rfl ?_
                  rcases gi h with ⟨c73, h⟩ | ⟨c73, h⟩
                  · refine en_icmp_eq_t c73 rfl ?_
                    refine ec_iconst cst_0 rfl ?_
                    cases h
                    exact en_zret (Or.inl rfl) rfl
                  · refine en_icmp_eq_f c73 rfl ?_
                    refine ec_iconst cst_1 rfl ?_
                    refine en_goto rfl ?_
                    cases h
                    exact en_zret (Or.inr rfl) rfl
                · refine en_if_eq_f c72 rfl ?_
                  refine ec_iconst cst_2 rfl ?_
                  refine en_goto rfl ?_
                  rcases gi h with ⟨c74, h⟩ | ⟨c74, h⟩
                  · refine en_icmp_eq_t c74 rfl ?_
                    refine ec_iconst cst_0 rfl ?_
                    cases h
                    exact en_zret (Or.inl rfl) rfl
                  · refine en_icmp_eq_f c74 rfl ?_
                    refine ec_iconst cst_1 rfl ?_
                    refine en_goto rfl ?_
                    cases h
                    exact en_zret (Or.inr rfl) rfl
              · refine en_if_ne_f c68 rfl ?_
                refine en_iload rfl rfl ?_
                cases h
                exact en_zret (Or.inr rfl) rfl
        · refine en_icmp_ne_f c45 rfl ?_
          refine en_iload rfl rfl ?_
          cases h
          exact en_zret (Or.inr rfl) rfl
    · refine en_icmp_ne_f c13 rfl ?_
      refine ec_iconst cst_0 rfl ?_
      cases h
      exact en_zret (Or.inl rfl) rfl
  · refine en_if_eq_f c12 rfl ?_
    refine en_aload rfl rfl ?_
    refine ec_getI (ci := 8) (j := 1) ⟨rfl, rfl, rfl⟩ g11 rfl ?_
    rcases gi h with ⟨c75, h⟩ | ⟨c75, h⟩
    · refine en_if_ne_t c75 rfl ?_
      refine ec_iconst cst_1 rfl ?_
      refine en_goto rfl ?_
      cases h
      exact en_zret (Or.inr rfl) rfl
    · refine en_if_ne_f c75 rfl ?_
      refine en_aload rfl rfl ?_
      refine en_aload rfl rfl ?_
      refine ec_getI (ci := 8) (j := 3) ⟨rfl, rfl, rfl⟩ g11 rfl ?_
      obtain ⟨⟨q76, C77⟩, e78, h⟩ := gb h
      dsimp only at h
      refine ec_callV1 (k' := 115) (n := 2) (rc := 8) (a := a1) (as := [.int (cI C9 a1 3)]) ⟨rfl, rfl⟩ rfl rfl (Nat.le_of_ble_eq_true rfl) (Nat.le_of_ble_eq_true rfl) (Nat.le_of_ble_eq_true rfl) g11 rfl (t_115 e78) ?_
      rcases gi h with ⟨c79, h⟩ | ⟨c79, h⟩
      · refine en_if_ne_t c79 rfl ?_
        refine ec_iconst cst_1 rfl ?_
        refine en_goto rfl ?_
        cases h
        exact en_zret (Or.inr rfl) rfl
      · refine en_if_ne_f c79 rfl ?_
        refine en_aload rfl rfl ?_
        refine en_iload rfl rfl ?_
        obtain ⟨⟨q80, C81⟩, e82, h⟩ := gb h
        dsimp only at h
        refine ec_callV1 (k' := 115) (n := 2) (rc := 8) (a := a1) (as := [.int q5]) ⟨rfl, rfl⟩ rfl rfl (Nat.le_of_ble_eq_true rfl) (Nat.le_of_ble_eq_true rfl) (Nat.le_of_ble_eq_true rfl) g11 rfl (t_115 e82) ?_
        rcases gi h with ⟨c83, h⟩ | ⟨c83, h⟩
        · refine en_if_ne_t c83 rfl ?_
          refine ec_iconst cst_1 rfl ?_
          refine en_goto rfl ?_
          cases h
          exact en_zret (Or.inr rfl) rfl
        · refine en_if_ne_f c83 rfl ?_
          refine en_aload rfl rfl ?_
          refine en_iload rfl rfl ?_
          obtain ⟨⟨q84, C85⟩, e86, h⟩ := gb h
          dsimp only at h
          refine ec_callV1 (k' := 115) (n := 2) (rc := 8) (a := a1) (as := [.int q8]) ⟨rfl, rfl⟩ rfl rfl (Nat.le_of_ble_eq_true rfl) (Nat.le_of_ble_eq_true rfl) (Nat.le_of_ble_eq_true rfl) g11 rfl (t_115 e86) ?_
          rcases gi h with ⟨c87, h⟩ | ⟨c87, h⟩
          · refine en_if_eq_t c87 rfl ?_
            refine ec_iconst cst_0 rfl ?_
            cases h
            exact en_zret (Or.inl rfl) rfl
          · refine en_if_eq_f c87 rfl ?_
            refine ec_iconst cst_1 rfl ?_
            refine en_goto rfl ?_
            cases h
            exact en_zret (Or.inr rfl) rfl
def lp_69_17 : Nat → Nat → Nat → Int32 → Int32 → Int32 → Int32 → AmC → Option (((Unit) ⊕ (Unit) ⊕ (Unit)) × AmC)
  | 0, _, _, _, _, _, _, _ => none
  | n + 1, p0, p1, p2, p3, p4, p5, C => (if p4 ≤ p5 then some ((.inr (.inr ())), C) else if isK p0 6 = true then (f_101 n p0 p2 p5 C).bind (fun z => match z with | (q9, C10) => (if ¬ q9 = (-1 : Int32) then (cP C10 p0 13).bind (fun r13 => if isK r13 12 = true then if amIn q9 (aLen r13) = true then (if (cI C10 r13 (Int32.toNatClampNeg q9)) = (211 : Int32) then (if p3 = 0 then (cP C10 p0 14).bind (fun r19 => if isK r19 12 = true then if amIn q9 (aLen r19) = true then if isK p1 8 = true then (f_115 n p1 (cI C10 r19 (Int32.toNatClampNeg q9)) C10).bind (fun z => match z with | (q24, C25) => (if q24 = 0 then lp_69_17 n p0 p1 p2 p3 p4 (p5 + (1 : Int32)) C25 else some ((.inr (.inl ())), C25))) else none else none else none) else some ((.inr (.inl ())), C10)) else (if (cI C10 r13 (Int32.toNatClampNeg q9)) = (212 : Int32) then (if p3 = 0 then (cP C10 p0 14).bind (fun r30 => if isK r30 12 = true then if amIn q9 (aLen r30) = true then if isK p1 8 = true then (f_115 n p1 (cI C10 r30 (Int32.toNatClampNeg q9)) C10).bind (fun z => match z with | (q35, C36) => (if q35 = 0 then lp_69_17 n p0 p1 p2 p3 p4 (p5 + (1 : Int32)) C36 else some ((.inr (.inl ())), C36))) else none else none else none) else some ((.inr (.inl ())), C10)) else (if ¬ (cI C10 r13 (Int32.toNatClampNeg q9)) = (213 : Int32) then (if p3 = 0 then lp_69_17 n p0 p1 p2 p3 p4 (p5 + (1 : Int32)) C10 else (if (cI C10 r13 (Int32.toNatClampNeg q9)) = (214 : Int32) then some ((.inr (.inl ())), C10) else lp_69_17 n p0 p1 p2 p3 p4 (p5 + (1 : Int32)) C10)) else (if p3 = 0 then (cP C10 p0 14).bind (fun r43 => if isK r43 12 = true then if amIn q9 (aLen r43) = true then if isK p1 8 = true then (f_115 n p1 (cI C10 r43 (Int32.toNatClampNeg q9)) C10).bind (fun z => match z with | (q48, C49) => (if q48 = 0 then lp_69_17 n p0 p1 p2 p3 p4 (p5 + (1 : Int32)) C49 else some ((.inr (.inl ())), C49))) else none else none else none) else some ((.inr (.inl ())), C10))))) else none else none) else some ((.inl ()), C10))) else none)
set_option maxRecDepth 20000 in
set_option maxHeartbeats 4000000 in
theorem lt_69_17 : ∀ (n : Nat) (p0 : Nat) (p1 : Nat) (p2 : Int32) (p3 : Int32) (p4 : Int32) (p5 : Int32) (C : AmC) (r : ((Unit) ⊕ (Unit) ⊕ (Unit)) × AmC), lp_69_17 n p0 p1 p2 p3 p4 p5 C = some r → ∀ (o : AmO) (M' : AmM), (match r with
        | ((.inl _), C') => En false 69 28 [] [] (mkM C') o M'
        | ((.inr (.inl _)), C') => En false 69 64 [] [] (mkM C') o M'
        | ((.inr (.inr _)), C') => En false 69 68 [] [] (mkM C') o M') → En false 69 17 [(0, .ref p0), (1, .ref p1), (2, .int p2), (3, .int p3), (4, .int p4), (5, .int p5)] [] (mkM C) o M' := by
  intro n
  induction n with
  | zero => intro p0 p1 p2 p3 p4 p5 C r h; cases h
  | succ n ih =>
    intro p0 p1 p2 p3 p4 p5 C r h o M' hk
    unfold lp_69_17 at h
    refine en_iload rfl rfl ?_
    refine en_iload rfl rfl ?_
    rcases gi h with ⟨c7, h⟩ | ⟨c7, h⟩
    · refine en_icmp_ge_t c7 rfl ?_
      cases h
      exact en_sub [] rfl rfl hk
    · refine en_icmp_ge_f c7 rfl ?_
      refine en_aload rfl rfl ?_
      refine en_iload rfl rfl ?_
      refine en_iload rfl rfl ?_
      obtain ⟨g8, h⟩ := gd h
      obtain ⟨⟨q9, C10⟩, e11, h⟩ := gb h
      dsimp only at h
      refine ec_callV1 (k' := 101) (n := 3) (rc := 6) (a := p0) (as := [.int p2, .int p5]) ⟨rfl, rfl⟩ rfl rfl (Nat.le_of_ble_eq_true rfl) (Nat.le_of_ble_eq_true rfl) (Nat.le_of_ble_eq_true rfl) g8 rfl (t_101 e11) ?_
      refine en_istore (l' := [(6, .int q9), (0, .ref p0), (1, .ref p1), (2, .int p2), (3, .int p3), (4, .int p4), (5, .int p5)]) rfl rfl ?_
      refine en_iload rfl rfl ?_
      refine ec_iconst cst_m1 rfl ?_
      rcases gi h with ⟨c12, h⟩ | ⟨c12, h⟩
      · refine en_icmp_ne_t c12 rfl ?_
        refine en_aload rfl rfl ?_
        obtain ⟨r13, e14, h⟩ := gb h
        refine ec_getP (ci := 6) (j := 13) ⟨rfl, rfl, rfl⟩ g8 e14 rfl ?_
        refine en_iload rfl rfl ?_
        obtain ⟨g15, h⟩ := gd h
        obtain ⟨g16, h⟩ := gd h
        refine ec_iaload g15 g16 rfl ?_
        refine en_istore (l' := [(7, .int (cI C10 r13 (Int32.toNatClampNeg q9))), (6, .int q9), (0, .ref p0), (1, .ref p1), (2, .int p2), (3, .int p3), (4, .int p4), (5, .int p5)]) rfl rfl ?_
        refine en_iload rfl rfl ?_
        refine ec_iconst cst_211 rfl ?_
        rcases gi h with ⟨c17, h⟩ | ⟨c17, h⟩
        · refine en_icmp_eq_t c17 rfl ?_
          refine ec_iconst cst_1 rfl ?_
          refine en_goto rfl ?_
          refine en_istore (l' := [(8, .int (1 : Int32)), (7, .int (cI C10 r13 (Int32.toNatClampNeg q9))), (6, .int q9), (0, .ref p0), (1, .ref p1), (2, .int p2), (3, .int p3), (4, .int p4), (5, .int p5)]) rfl rfl ?_
          refine en_iload rfl rfl ?_
          rcases gi h with ⟨c18, h⟩ | ⟨c18, h⟩
          · refine en_if_eq_t c18 rfl ?_
            refine en_iload rfl rfl ?_
            refine en_if_eq_f (by decide) rfl ?_
            refine en_aload rfl rfl ?_
            refine en_aload rfl rfl ?_
            obtain ⟨r19, e20, h⟩ := gb h
            refine ec_getP (ci := 6) (j := 14) ⟨rfl, rfl, rfl⟩ g8 e20 rfl ?_
            refine en_iload rfl rfl ?_
            obtain ⟨g21, h⟩ := gd h
            obtain ⟨g22, h⟩ := gd h
            refine ec_iaload g21 g22 rfl ?_
            obtain ⟨g23, h⟩ := gd h
            obtain ⟨⟨q24, C25⟩, e26, h⟩ := gb h
            dsimp only at h
            refine ec_callV1 (k' := 115) (n := 2) (rc := 8) (a := p1) (as := [.int (cI C10 r19 (Int32.toNatClampNeg q9))]) ⟨rfl, rfl⟩ rfl rfl (Nat.le_of_ble_eq_true rfl) (Nat.le_of_ble_eq_true rfl) (Nat.le_of_ble_eq_true rfl) g23 rfl (t_115 e26) ?_
            rcases gi h with ⟨c27, h⟩ | ⟨c27, h⟩
            · refine en_if_eq_t c27 rfl ?_
              refine ec_iinc (l' := [(5, .int (p5 + (1 : Int32))), (8, .int (1 : Int32)), (7, .int (cI C10 r13 (Int32.toNatClampNeg q9))), (6, .int q9), (0, .ref p0), (1, .ref p1), (2, .int p2), (3, .int p3), (4, .int p4)]) rfl cst_1 rfl rfl ?_
              refine en_goto rfl ?_
              refine en_sub [4, 5, 6, 7, 8, 0] rfl rfl ?_
              exact ih _ _ _ _ _ _ _ _ h o M' hk
            · refine en_if_eq_f c27 rfl ?_
              cases h
              exact en_sub [] rfl rfl hk
          · refine en_if_eq_f c18 rfl ?_
            refine en_iload rfl rfl ?_
            refine en_if_ne_t (by decide) rfl ?_
            cases h
            exact en_sub [] rfl rfl hk
        · refine en_icmp_eq_f c17 rfl ?_
          refine en_iload rfl rfl ?_
          refine ec_iconst cst_212 rfl ?_
          rcases gi h with ⟨c28, h⟩ | ⟨c28, h⟩
          · refine en_icmp_eq_t c28 rfl ?_
            refine ec_iconst cst_1 rfl ?_
            refine en_goto rfl ?_
            refine en_istore (l' := [(8, .int (1 : Int32)), (7, .int (cI C10 r13 (Int32.toNatClampNeg q9))), (6, .int q9), (0, .ref p0), (1, .ref p1), (2, .int p2), (3, .int p3), (4, .int p4), (5, .int p5)]) rfl rfl ?_
            refine en_iload rfl rfl ?_
            rcases gi h with ⟨c29, h⟩ | ⟨c29, h⟩
            · refine en_if_eq_t c29 rfl ?_
              refine en_iload rfl rfl ?_
              refine en_if_eq_f (by decide) rfl ?_
              refine en_aload rfl rfl ?_
              refine en_aload rfl rfl ?_
              obtain ⟨r30, e31, h⟩ := gb h
              refine ec_getP (ci := 6) (j := 14) ⟨rfl, rfl, rfl⟩ g8 e31 rfl ?_
              refine en_iload rfl rfl ?_
              obtain ⟨g32, h⟩ := gd h
              obtain ⟨g33, h⟩ := gd h
              refine ec_iaload g32 g33 rfl ?_
              obtain ⟨g34, h⟩ := gd h
              obtain ⟨⟨q35, C36⟩, e37, h⟩ := gb h
              dsimp only at h
              refine ec_callV1 (k' := 115) (n := 2) (rc := 8) (a := p1) (as := [.int (cI C10 r30 (Int32.toNatClampNeg q9))]) ⟨rfl, rfl⟩ rfl rfl (Nat.le_of_ble_eq_true rfl) (Nat.le_of_ble_eq_true rfl) (Nat.le_of_ble_eq_true rfl) g34 rfl (t_115 e37) ?_
              rcases gi h with ⟨c38, h⟩ | ⟨c38, h⟩
              · refine en_if_eq_t c38 rfl ?_
                refine ec_iinc (l' := [(5, .int (p5 + (1 : Int32))), (8, .int (1 : Int32)), (7, .int (cI C10 r13 (Int32.toNatClampNeg q9))), (6, .int q9), (0, .ref p0), (1, .ref p1), (2, .int p2), (3, .int p3), (4, .int p4)]) rfl cst_1 rfl rfl ?_
                refine en_goto rfl ?_
                refine en_sub [4, 5, 6, 7, 8, 0] rfl rfl ?_
                exact ih _ _ _ _ _ _ _ _ h o M' hk
              · refine en_if_eq_f c38 rfl ?_
                cases h
                exact en_sub [] rfl rfl hk
            · refine en_if_eq_f c29 rfl ?_
              refine en_iload rfl rfl ?_
              refine en_if_ne_t (by decide) rfl ?_
              cases h
              exact en_sub [] rfl rfl hk
          · refine en_icmp_eq_f c28 rfl ?_
            refine en_iload rfl rfl ?_
            refine ec_iconst cst_213 rfl ?_
            rcases gi h with ⟨c39, h⟩ | ⟨c39, h⟩
            · refine en_icmp_ne_t c39 rfl ?_
              refine ec_iconst cst_0 rfl ?_
              refine en_istore (l' := [(8, .int (0 : Int32)), (7, .int (cI C10 r13 (Int32.toNatClampNeg q9))), (6, .int q9), (0, .ref p0), (1, .ref p1), (2, .int p2), (3, .int p3), (4, .int p4), (5, .int p5)]) rfl rfl ?_
              refine en_iload rfl rfl ?_
              rcases gi h with ⟨c40, h⟩ | ⟨c40, h⟩
              · refine en_if_eq_t c40 rfl ?_
                refine en_iload rfl rfl ?_
                refine en_if_eq_t (by decide) rfl ?_
                refine ec_iinc (l' := [(5, .int (p5 + (1 : Int32))), (8, .int (0 : Int32)), (7, .int (cI C10 r13 (Int32.toNatClampNeg q9))), (6, .int q9), (0, .ref p0), (1, .ref p1), (2, .int p2), (3, .int p3), (4, .int p4)]) rfl cst_1 rfl rfl ?_
                refine en_goto rfl ?_
                refine en_sub [4, 5, 6, 7, 8, 0] rfl rfl ?_
                exact ih _ _ _ _ _ _ _ _ h o M' hk
              · refine en_if_eq_f c40 rfl ?_
                refine en_iload rfl rfl ?_
                refine en_if_ne_f (by decide) rfl ?_
                refine en_iload rfl rfl ?_
                refine ec_iconst cst_214 rfl ?_
                rcases gi h with ⟨c41, h⟩ | ⟨c41, h⟩
                · refine en_icmp_eq_t c41 rfl ?_
                  cases h
                  exact en_sub [] rfl rfl hk
                · refine en_icmp_eq_f c41 rfl ?_
                  refine en_iload rfl rfl ?_
                  refine en_if_eq_t (by decide) rfl ?_
                  refine ec_iinc (l' := [(5, .int (p5 + (1 : Int32))), (8, .int (0 : Int32)), (7, .int (cI C10 r13 (Int32.toNatClampNeg q9))), (6, .int q9), (0, .ref p0), (1, .ref p1), (2, .int p2), (3, .int p3), (4, .int p4)]) rfl cst_1 rfl rfl ?_
                  refine en_goto rfl ?_
                  refine en_sub [4, 5, 6, 7, 8, 0] rfl rfl ?_
                  exact ih _ _ _ _ _ _ _ _ h o M' hk
            · refine en_icmp_ne_f c39 rfl ?_
              refine ec_iconst cst_1 rfl ?_
              refine en_goto rfl ?_
              refine en_istore (l' := [(8, .int (1 : Int32)), (7, .int (cI C10 r13 (Int32.toNatClampNeg q9))), (6, .int q9), (0, .ref p0), (1, .ref p1), (2, .int p2), (3, .int p3), (4, .int p4), (5, .int p5)]) rfl rfl ?_
              refine en_iload rfl rfl ?_
              rcases gi h with ⟨c42, h⟩ | ⟨c42, h⟩
              · refine en_if_eq_t c42 rfl ?_
                refine en_iload rfl rfl ?_
                refine en_if_eq_f (by decide) rfl ?_
                refine en_aload rfl rfl ?_
                refine en_aload rfl rfl ?_
                obtain ⟨r43, e44, h⟩ := gb h
                refine ec_getP (ci := 6) (j := 14) ⟨rfl, rfl, rfl⟩ g8 e44 rfl ?_
                refine en_iload rfl rfl ?_
                obtain ⟨g45, h⟩ := gd h
                obtain ⟨g46, h⟩ := gd h
                refine ec_iaload g45 g46 rfl ?_
                obtain ⟨g47, h⟩ := gd h
                obtain ⟨⟨q48, C49⟩, e50, h⟩ := gb h
                dsimp only at h
                refine ec_callV1 (k' := 115) (n := 2) (rc := 8) (a := p1) (as := [.int (cI C10 r43 (Int32.toNatClampNeg q9))]) ⟨rfl, rfl⟩ rfl rfl (Nat.le_of_ble_eq_true rfl) (Nat.le_of_ble_eq_true rfl) (Nat.le_of_ble_eq_true rfl) g47 rfl (t_115 e50) ?_
                rcases gi h with ⟨c51, h⟩ | ⟨c51, h⟩
                · refine en_if_eq_t c51 rfl ?_
                  refine ec_iinc (l' := [(5, .int (p5 + (1 : Int32))), (8, .int (1 : Int32)), (7, .int (cI C10 r13 (Int32.toNatClampNeg q9))), (6, .int q9), (0, .ref p0), (1, .ref p1), (2, .int p2), (3, .int p3), (4, .int p4)]) rfl cst_1 rfl rfl ?_
                  refine en_goto rfl ?_
                  refine en_sub [4, 5, 6, 7, 8, 0] rfl rfl ?_
                  exact ih _ _ _ _ _ _ _ _ h o M' hk
                · refine en_if_eq_f c51 rfl ?_
                  cases h
                  exact en_sub [] rfl rfl hk
              · refine en_if_eq_f c42 rfl ?_
                refine en_iload rfl rfl ?_
                refine en_if_ne_t (by decide) rfl ?_
                cases h
                exact en_sub [] rfl rfl hk
      · refine en_icmp_ne_f c12 rfl ?_
        cases h
        exact en_sub [] rfl rfl hk
/-- BulkWriter$Planner.asks(LBulkWriter$Script;LBulkWriter$Statement;I)Z -/
def f_69 (n : Nat) (a0 : Nat) (a1 : Nat) (a2 : Int32) (C : AmC) : Option (Int32 × AmC) := if isK a1 8 = true then (if ¬ (cI C a1 1) = 0 then if isK a0 6 = true then (f_100 n a0 a2 C).bind (fun z => match z with | (q4, C5) => (lp_69_17 n a0 a1 a2 (1 : Int32) q4 (0 : Int32) C5).bind (fun q => match q with | ((.inl _), C54) => some ((0 : Int32), C54) | ((.inr (.inl _)), C54) => some ((1 : Int32), C54) | ((.inr (.inr _)), C54) => some ((0 : Int32), C54))) else none else (if ¬ (cI C a1 2) = (1 : Int32) then if isK a0 6 = true then (f_100 n a0 a2 C).bind (fun z => match z with | (q57, C58) => (lp_69_17 n a0 a1 a2 (0 : Int32) q57 (0 : Int32) C58).bind (fun q => match q with | ((.inl _), C62) => some ((0 : Int32), C62) | ((.inr (.inl _)), C62) => some ((1 : Int32), C62) | ((.inr (.inr _)), C62) => some ((0 : Int32), C62))) else none else if isK a0 6 = true then (f_100 n a0 a2 C).bind (fun z => match z with | (q64, C65) => (lp_69_17 n a0 a1 a2 (1 : Int32) q64 (0 : Int32) C65).bind (fun q => match q with | ((.inl _), C69) => some ((0 : Int32), C69) | ((.inr (.inl _)), C69) => some ((1 : Int32), C69) | ((.inr (.inr _)), C69) => some ((0 : Int32), C69))) else none)) else none
set_option maxRecDepth 20000 in
set_option maxHeartbeats 4000000 in
theorem t_69 {n : Nat} {a0 : Nat} {a1 : Nat} {a2 : Int32} {C : AmC} {r : Int32} {C' : AmC} (h : f_69 n a0 a1 a2 C = some (r, C')) : En false 69 0 [(0, .ref a0), (1, .ref a1), (2, .int a2)] [] (mkM C) (.inl (some (.int r))) (mkM C') := by
  unfold f_69 at h
  refine en_aload rfl rfl ?_
  obtain ⟨g1, h⟩ := gd h
  refine ec_getI (ci := 8) (j := 1) ⟨rfl, rfl, rfl⟩ g1 rfl ?_
  rcases gi h with ⟨c2, h⟩ | ⟨c2, h⟩
  · refine en_if_ne_t c2 rfl ?_
    refine ec_iconst cst_1 rfl ?_
    refine en_goto rfl ?_
    refine en_istore (l' := [(3, .int (1 : Int32)), (0, .ref a0), (1, .ref a1), (2, .int a2)]) rfl rfl ?_
    refine en_aload rfl rfl ?_
    refine en_iload rfl rfl ?_
    obtain ⟨g3, h⟩ := gd h
    obtain ⟨⟨q4, C5⟩, e6, h⟩ := gb h
    dsimp only at h
    refine ec_callV1 (k' := 100) (n := 2) (rc := 6) (a := a0) (as := [.int a2]) ⟨rfl, rfl⟩ rfl rfl (Nat.le_of_ble_eq_true rfl) (Nat.le_of_ble_eq_true rfl) (Nat.le_of_ble_eq_true rfl) g3 rfl (t_100 e6) ?_
    refine en_istore (l' := [(4, .int q4), (3, .int (1 : Int32)), (0, .ref a0), (1, .ref a1), (2, .int a2)]) rfl rfl ?_
    refine ec_iconst cst_0 rfl ?_
    refine en_istore (l' := [(5, .int (0 : Int32)), (4, .int q4), (3, .int (1 : Int32)), (0, .ref a0), (1, .ref a1), (2, .int a2)]) rfl rfl ?_
    obtain ⟨⟨q52, C54⟩, e53, h⟩ := gb h
    refine en_sub [3, 4, 5, 2, 1, 0] rfl rfl (lt_69_17 n _ _ _ _ _ _ _ _ e53 _ _ ?_)
    rcases q52 with ⟨⟩ | ⟨⟩ | ⟨⟩
    · dsimp only at h ⊢
      refine ec_iconst cst_0 rfl ?_
      cases h
      exact en_zret (Or.inl rfl) rfl
    · dsimp only at h ⊢
      refine ec_iconst cst_1 rfl ?_
      cases h
      exact en_zret (Or.inr rfl) rfl
    · dsimp only at h ⊢
      refine ec_iconst cst_0 rfl ?_
      cases h
      exact en_zret (Or.inl rfl) rfl
  · refine en_if_ne_f c2 rfl ?_
    refine en_aload rfl rfl ?_
    refine ec_getI (ci := 8) (j := 2) ⟨rfl, rfl, rfl⟩ g1 rfl ?_
    refine ec_iconst cst_1 rfl ?_
    rcases gi h with ⟨c55, h⟩ | ⟨c55, h⟩
    · refine en_icmp_ne_t c55 rfl ?_
      refine ec_iconst cst_0 rfl ?_
      refine en_istore (l' := [(3, .int (0 : Int32)), (0, .ref a0), (1, .ref a1), (2, .int a2)]) rfl rfl ?_
      refine en_aload rfl rfl ?_
      refine en_iload rfl rfl ?_
      obtain ⟨g56, h⟩ := gd h
      obtain ⟨⟨q57, C58⟩, e59, h⟩ := gb h
      dsimp only at h
      refine ec_callV1 (k' := 100) (n := 2) (rc := 6) (a := a0) (as := [.int a2]) ⟨rfl, rfl⟩ rfl rfl (Nat.le_of_ble_eq_true rfl) (Nat.le_of_ble_eq_true rfl) (Nat.le_of_ble_eq_true rfl) g56 rfl (t_100 e59) ?_
      refine en_istore (l' := [(4, .int q57), (3, .int (0 : Int32)), (0, .ref a0), (1, .ref a1), (2, .int a2)]) rfl rfl ?_
      refine ec_iconst cst_0 rfl ?_
      refine en_istore (l' := [(5, .int (0 : Int32)), (4, .int q57), (3, .int (0 : Int32)), (0, .ref a0), (1, .ref a1), (2, .int a2)]) rfl rfl ?_
      obtain ⟨⟨q60, C62⟩, e61, h⟩ := gb h
      refine en_sub [3, 4, 5, 2, 1, 0] rfl rfl (lt_69_17 n _ _ _ _ _ _ _ _ e61 _ _ ?_)
      rcases q60 with ⟨⟩ | ⟨⟩ | ⟨⟩
      · dsimp only at h ⊢
        refine ec_iconst cst_0 rfl ?_
        cases h
        exact en_zret (Or.inl rfl) rfl
      · dsimp only at h ⊢
        refine ec_iconst cst_1 rfl ?_
        cases h
        exact en_zret (Or.inr rfl) rfl
      · dsimp only at h ⊢
        refine ec_iconst cst_0 rfl ?_
        cases h
        exact en_zret (Or.inl rfl) rfl
    · refine en_icmp_ne_f c55 rfl ?_
      refine ec_iconst cst_1 rfl ?_
      refine en_goto rfl ?_
      refine en_istore (l' := [(3, .int (1 : Int32)), (0, .ref a0), (1, .ref a1), (2, .int a2)]) rfl rfl ?_
      refine en_aload rfl rfl ?_
      refine en_iload rfl rfl ?_
      obtain ⟨g63, h⟩ := gd h
      obtain ⟨⟨q64, C65⟩, e66, h⟩ := gb h
      dsimp only at h
      refine ec_callV1 (k' := 100) (n := 2) (rc := 6) (a := a0) (as := [.int a2]) ⟨rfl, rfl⟩ rfl rfl (Nat.le_of_ble_eq_true rfl) (Nat.le_of_ble_eq_true rfl) (Nat.le_of_ble_eq_true rfl) g63 rfl (t_100 e66) ?_
      refine en_istore (l' := [(4, .int q64), (3, .int (1 : Int32)), (0, .ref a0), (1, .ref a1), (2, .int a2)]) rfl rfl ?_
      refine ec_iconst cst_0 rfl ?_
      refine en_istore (l' := [(5, .int (0 : Int32)), (4, .int q64), (3, .int (1 : Int32)), (0, .ref a0), (1, .ref a1), (2, .int a2)]) rfl rfl ?_
      obtain ⟨⟨q67, C69⟩, e68, h⟩ := gb h
      refine en_sub [3, 4, 5, 2, 1, 0] rfl rfl (lt_69_17 n _ _ _ _ _ _ _ _ e68 _ _ ?_)
      rcases q67 with ⟨⟩ | ⟨⟩ | ⟨⟩
      · dsimp only at h ⊢
        refine ec_iconst cst_0 rfl ?_
        cases h
        exact en_zret (Or.inl rfl) rfl
      · dsimp only at h ⊢
        refine ec_iconst cst_1 rfl ?_
        cases h
        exact en_zret (Or.inr rfl) rfl
      · dsimp only at h ⊢
        refine ec_iconst cst_0 rfl ?_
        cases h
        exact en_zret (Or.inl rfl) rfl
def lp_67_13 : Nat → Nat → Nat → Int32 → Int32 → AmC → Option (((Unit) ⊕ (Unit)) × AmC)
  | 0, _, _, _, _, _ => none
  | n + 1, p0, p1, p2, p3, C => (if p2 ≤ p3 then some ((.inr ()), C) else if isK p0 6 = true then (cP C p0 19).bind (fun r4 => if isK r4 12 = true then if amIn p3 (aLen r4) = true then (f_69 n p0 p1 (cI C r4 (Int32.toNatClampNeg p3)) C).bind (fun z => match z with | (q8, C9) => (if ¬ q8 = 0 then some ((.inl ()), C9) else (f_69 n p0 p1 ((cI C r4 (Int32.toNatClampNeg p3)) + (1 : Int32)) C9).bind (fun z => match z with | (q12, C13) => (if q12 = 0 then lp_67_13 n p0 p1 p2 (p3 + (1 : Int32)) C13 else some ((.inl ()), C13))))) else none else none) else none)
set_option maxRecDepth 20000 in
set_option maxHeartbeats 4000000 in
theorem lt_67_13 : ∀ (n : Nat) (p0 : Nat) (p1 : Nat) (p2 : Int32) (p3 : Int32) (C : AmC) (r : ((Unit) ⊕ (Unit)) × AmC), lp_67_13 n p0 p1 p2 p3 C = some r → ∀ (o : AmO) (M' : AmM), (match r with
        | ((.inl _), C') => En false 67 33 [] [] (mkM C') o M'
        | ((.inr _), C') => En false 67 37 [] [] (mkM C') o M') → En false 67 13 [(0, .ref p0), (1, .ref p1), (2, .int p2), (3, .int p3)] [] (mkM C) o M' := by
  intro n
  induction n with
  | zero => intro p0 p1 p2 p3 C r h; cases h
  | succ n ih =>
    intro p0 p1 p2 p3 C r h o M' hk
    unfold lp_67_13 at h
    refine en_iload rfl rfl ?_
    refine en_iload rfl rfl ?_
    rcases gi h with ⟨c2, h⟩ | ⟨c2, h⟩
    · refine en_icmp_ge_t c2 rfl ?_
      cases h
      exact en_sub [] rfl rfl hk
    · refine en_icmp_ge_f c2 rfl ?_
      refine en_aload rfl rfl ?_
      obtain ⟨g3, h⟩ := gd h
      obtain ⟨r4, e5, h⟩ := gb h
      refine ec_getP (ci := 6) (j := 19) ⟨rfl, rfl, rfl⟩ g3 e5 rfl ?_
      refine en_iload rfl rfl ?_
      obtain ⟨g6, h⟩ := gd h
      obtain ⟨g7, h⟩ := gd h
      refine ec_iaload g6 g7 rfl ?_
      refine en_istore (l' := [(4, .int (cI C r4 (Int32.toNatClampNeg p3))), (0, .ref p0), (1, .ref p1), (2, .int p2), (3, .int p3)]) rfl rfl ?_
      refine en_aload rfl rfl ?_
      refine en_aload rfl rfl ?_
      refine en_iload rfl rfl ?_
      obtain ⟨⟨q8, C9⟩, e10, h⟩ := gb h
      dsimp only at h
      refine ec_callS1 (k' := 69) (n := 3) (as := [.ref p0, .ref p1, .int (cI C r4 (Int32.toNatClampNeg p3))]) rfl rfl rfl (Nat.le_of_ble_eq_true rfl) (Nat.le_of_ble_eq_true rfl) (Nat.le_of_ble_eq_true rfl) rfl (t_69 e10) ?_
      rcases gi h with ⟨c11, h⟩ | ⟨c11, h⟩
      · refine en_if_ne_t c11 rfl ?_
        cases h
        exact en_sub [] rfl rfl hk
      · refine en_if_ne_f c11 rfl ?_
        refine en_aload rfl rfl ?_
        refine en_aload rfl rfl ?_
        refine en_iload rfl rfl ?_
        refine ec_iconst cst_1 rfl ?_
        refine en_iadd rfl ?_
        obtain ⟨⟨q12, C13⟩, e14, h⟩ := gb h
        dsimp only at h
        refine ec_callS1 (k' := 69) (n := 3) (as := [.ref p0, .ref p1, .int ((cI C r4 (Int32.toNatClampNeg p3)) + (1 : Int32))]) rfl rfl rfl (Nat.le_of_ble_eq_true rfl) (Nat.le_of_ble_eq_true rfl) (Nat.le_of_ble_eq_true rfl) rfl (t_69 e14) ?_
        rcases gi h with ⟨c15, h⟩ | ⟨c15, h⟩
        · refine en_if_eq_t c15 rfl ?_
          refine ec_iinc (l' := [(3, .int (p3 + (1 : Int32))), (4, .int (cI C r4 (Int32.toNatClampNeg p3))), (0, .ref p0), (1, .ref p1), (2, .int p2)]) rfl cst_1 rfl rfl ?_
          refine en_goto rfl ?_
          refine en_sub [2, 3, 4, 0] rfl rfl ?_
          exact ih _ _ _ _ _ _ h o M' hk
        · refine en_if_eq_f c15 rfl ?_
          cases h
          exact en_sub [] rfl rfl hk
/-- BulkWriter$Planner.testsAsk(LBulkWriter$Script;LBulkWriter$Statement;)Z -/
def f_67 (n : Nat) (a0 : Nat) (a1 : Nat) (C : AmC) : Option (Int32 × AmC) := if isK a1 8 = true then (lp_67_13 n a0 a1 (if (450 : Int32) < ((cI C a1 7) + (cI C a1 8)) then (450 : Int32) else ((cI C a1 7) + (cI C a1 8))) (if (cI C a1 7) < (0 : Int32) then (0 : Int32) else (cI C a1 7)) C).bind (fun q => match q with | ((.inl _), C18) => some ((1 : Int32), C18) | ((.inr _), C18) => some ((0 : Int32), C18)) else none
set_option maxRecDepth 20000 in
set_option maxHeartbeats 4000000 in
theorem t_67 {n : Nat} {a0 : Nat} {a1 : Nat} {C : AmC} {r : Int32} {C' : AmC} (h : f_67 n a0 a1 C = some (r, C')) : En false 67 0 [(0, .ref a0), (1, .ref a1)] [] (mkM C) (.inl (some (.int r))) (mkM C') := by
  unfold f_67 at h
  refine en_aload rfl rfl ?_
  obtain ⟨g1, h⟩ := gd h
  refine ec_getI (ci := 8) (j := 7) ⟨rfl, rfl, rfl⟩ g1 rfl ?_
  refine en_aload rfl rfl ?_
  refine ec_getI (ci := 8) (j := 8) ⟨rfl, rfl, rfl⟩ g1 rfl ?_
  refine en_iadd rfl ?_
  refine ec_iconst cst_450 rfl ?_
  refine en_min (Nat.le_of_ble_eq_true rfl) rfl ?_
  refine en_istore (l' := [(2, .int (if (450 : Int32) < ((cI C a1 7) + (cI C a1 8)) then (450 : Int32) else ((cI C a1 7) + (cI C a1 8)))), (0, .ref a0), (1, .ref a1)]) rfl rfl ?_
  refine en_aload rfl rfl ?_
  refine ec_getI (ci := 8) (j := 7) ⟨rfl, rfl, rfl⟩ g1 rfl ?_
  refine ec_iconst cst_0 rfl ?_
  refine en_max (Nat.le_of_ble_eq_true rfl) rfl ?_
  refine en_istore (l' := [(3, .int (if (cI C a1 7) < (0 : Int32) then (0 : Int32) else (cI C a1 7))), (2, .int (if (450 : Int32) < ((cI C a1 7) + (cI C a1 8)) then (450 : Int32) else ((cI C a1 7) + (cI C a1 8)))), (0, .ref a0), (1, .ref a1)]) rfl rfl ?_
  obtain ⟨⟨q16, C18⟩, e17, h⟩ := gb h
  refine en_sub [2, 3, 1, 0] rfl rfl (lt_67_13 n _ _ _ _ _ _ e17 _ _ ?_)
  rcases q16 with ⟨⟩ | ⟨⟩
  · dsimp only at h ⊢
    refine ec_iconst cst_1 rfl ?_
    cases h
    exact en_zret (Or.inr rfl) rfl
  · dsimp only at h ⊢
    refine ec_iconst cst_0 rfl ?_
    cases h
    exact en_zret (Or.inl rfl) rfl
def lp_68_2 : Nat → Nat → Nat → Int32 → AmC → Option (((Unit) ⊕ (Unit)) × AmC)
  | 0, _, _, _, _ => none
  | n + 1, p0, p1, p2, C => (if (4 : Int32) ≤ p2 then some ((.inr ()), C) else if isK p1 8 = true then (cP C p1 5).bind (fun r3 => if isK r3 12 = true then if amIn p2 (aLen r3) = true then (f_69 n p0 p1 (cI C r3 (Int32.toNatClampNeg p2)) C).bind (fun z => match z with | (q7, C8) => (if ¬ q7 = 0 then some ((.inl ()), C8) else (cP C8 p1 6).bind (fun r11 => if isK r11 12 = true then if amIn p2 (aLen r11) = true then (f_69 n p0 p1 (cI C8 r11 (Int32.toNatClampNeg p2)) C8).bind (fun z => match z with | (q15, C16) => (if q15 = 0 then lp_68_2 n p0 p1 (p2 + (1 : Int32)) C16 else some ((.inl ()), C16))) else none else none))) else none else none) else none)
set_option maxRecDepth 20000 in
set_option maxHeartbeats 4000000 in
theorem lt_68_2 : ∀ (n : Nat) (p0 : Nat) (p1 : Nat) (p2 : Int32) (C : AmC) (r : ((Unit) ⊕ (Unit)) × AmC), lp_68_2 n p0 p1 p2 C = some r → ∀ (o : AmO) (M' : AmM), (match r with
        | ((.inl _), C') => En false 68 21 [] [] (mkM C') o M'
        | ((.inr _), C') => En false 68 25 [] [] (mkM C') o M') → En false 68 2 [(0, .ref p0), (1, .ref p1), (2, .int p2)] [] (mkM C) o M' := by
  intro n
  induction n with
  | zero => intro p0 p1 p2 C r h; cases h
  | succ n ih =>
    intro p0 p1 p2 C r h o M' hk
    unfold lp_68_2 at h
    refine en_iload rfl rfl ?_
    refine ec_iconst cst_4 rfl ?_
    rcases gi h with ⟨c1, h⟩ | ⟨c1, h⟩
    · refine en_icmp_ge_t c1 rfl ?_
      cases h
      exact en_sub [] rfl rfl hk
    · refine en_icmp_ge_f c1 rfl ?_
      refine en_aload rfl rfl ?_
      refine en_aload rfl rfl ?_
      refine en_aload rfl rfl ?_
      obtain ⟨g2, h⟩ := gd h
      obtain ⟨r3, e4, h⟩ := gb h
      refine ec_getP (ci := 8) (j := 5) ⟨rfl, rfl, rfl⟩ g2 e4 rfl ?_
      refine en_iload rfl rfl ?_
      obtain ⟨g5, h⟩ := gd h
      obtain ⟨g6, h⟩ := gd h
      refine ec_iaload g5 g6 rfl ?_
      obtain ⟨⟨q7, C8⟩, e9, h⟩ := gb h
      dsimp only at h
      refine ec_callS1 (k' := 69) (n := 3) (as := [.ref p0, .ref p1, .int (cI C r3 (Int32.toNatClampNeg p2))]) rfl rfl rfl (Nat.le_of_ble_eq_true rfl) (Nat.le_of_ble_eq_true rfl) (Nat.le_of_ble_eq_true rfl) rfl (t_69 e9) ?_
      rcases gi h with ⟨c10, h⟩ | ⟨c10, h⟩
      · refine en_if_ne_t c10 rfl ?_
        cases h
        exact en_sub [] rfl rfl hk
      · refine en_if_ne_f c10 rfl ?_
        refine en_aload rfl rfl ?_
        refine en_aload rfl rfl ?_
        refine en_aload rfl rfl ?_
        obtain ⟨r11, e12, h⟩ := gb h
        refine ec_getP (ci := 8) (j := 6) ⟨rfl, rfl, rfl⟩ g2 e12 rfl ?_
        refine en_iload rfl rfl ?_
        obtain ⟨g13, h⟩ := gd h
        obtain ⟨g14, h⟩ := gd h
        refine ec_iaload g13 g14 rfl ?_
        obtain ⟨⟨q15, C16⟩, e17, h⟩ := gb h
        dsimp only at h
        refine ec_callS1 (k' := 69) (n := 3) (as := [.ref p0, .ref p1, .int (cI C8 r11 (Int32.toNatClampNeg p2))]) rfl rfl rfl (Nat.le_of_ble_eq_true rfl) (Nat.le_of_ble_eq_true rfl) (Nat.le_of_ble_eq_true rfl) rfl (t_69 e17) ?_
        rcases gi h with ⟨c18, h⟩ | ⟨c18, h⟩
        · refine en_if_eq_t c18 rfl ?_
          refine ec_iinc (l' := [(2, .int (p2 + (1 : Int32))), (0, .ref p0), (1, .ref p1)]) rfl cst_1 rfl rfl ?_
          refine en_goto rfl ?_
          refine en_sub [1, 2, 0] rfl rfl ?_
          exact ih _ _ _ _ _ h o M' hk
        · refine en_if_eq_f c18 rfl ?_
          cases h
          exact en_sub [] rfl rfl hk
/-- BulkWriter$Planner.makingAsks(LBulkWriter$Script;LBulkWriter$Statement;)Z -/
def f_68 (n : Nat) (a0 : Nat) (a1 : Nat) (C : AmC) : Option (Int32 × AmC) := (lp_68_2 n a0 a1 (0 : Int32) C).bind (fun q => match q with | ((.inl _), C21) => some ((1 : Int32), C21) | ((.inr _), C21) => some ((0 : Int32), C21))
set_option maxRecDepth 20000 in
set_option maxHeartbeats 4000000 in
theorem t_68 {n : Nat} {a0 : Nat} {a1 : Nat} {C : AmC} {r : Int32} {C' : AmC} (h : f_68 n a0 a1 C = some (r, C')) : En false 68 0 [(0, .ref a0), (1, .ref a1)] [] (mkM C) (.inl (some (.int r))) (mkM C') := by
  unfold f_68 at h
  refine ec_iconst cst_0 rfl ?_
  refine en_istore (l' := [(2, .int (0 : Int32)), (0, .ref a0), (1, .ref a1)]) rfl rfl ?_
  obtain ⟨⟨q19, C21⟩, e20, h⟩ := gb h
  refine en_sub [1, 2, 0] rfl rfl (lt_68_2 n _ _ _ _ _ e20 _ _ ?_)
  rcases q19 with ⟨⟩ | ⟨⟩
  · dsimp only at h ⊢
    refine ec_iconst cst_1 rfl ?_
    cases h
    exact en_zret (Or.inr rfl) rfl
  · dsimp only at h ⊢
    refine ec_iconst cst_0 rfl ?_
    cases h
    exact en_zret (Or.inl rfl) rfl
def lp_116_4 : Nat → Nat → Int32 → Int32 → AmC → Option (((Int32)) × AmC)
  | 0, _, _, _, _ => none
  | n + 1, p0, p1, p2, C => (if (4 : Int32) ≤ p2 then some (p1, C) else if isK p0 8 = true then (cP C p0 5).bind (fun r3 => if isK r3 12 = true then if amIn p2 (aLen r3) = true then (if (cI C r3 (Int32.toNatClampNeg p2)) = (-1 : Int32) then lp_116_4 n p0 p1 (p2 + (1 : Int32)) C else lp_116_4 n p0 (p1 + (1 : Int32)) (p2 + (1 : Int32)) C) else none else none) else none)
set_option maxRecDepth 20000 in
set_option maxHeartbeats 4000000 in
theorem lt_116_4 : ∀ (n : Nat) (p0 : Nat) (p1 : Int32) (p2 : Int32) (C : AmC) (r : ((Int32)) × AmC), lp_116_4 n p0 p1 p2 C = some r → ∀ (o : AmO) (M' : AmM), (match r with
        | (w1, C') => En false 116 16 [(1, .int w1)] [] (mkM C') o M') → En false 116 4 [(0, .ref p0), (1, .int p1), (2, .int p2)] [] (mkM C) o M' := by
  intro n
  induction n with
  | zero => intro p0 p1 p2 C r h; cases h
  | succ n ih =>
    intro p0 p1 p2 C r h o M' hk
    unfold lp_116_4 at h
    refine en_iload rfl rfl ?_
    refine ec_iconst cst_4 rfl ?_
    rcases gi h with ⟨c1, h⟩ | ⟨c1, h⟩
    · refine en_icmp_ge_t c1 rfl ?_
      cases h
      exact en_sub [1] rfl rfl hk
    · refine en_icmp_ge_f c1 rfl ?_
      refine en_aload rfl rfl ?_
      obtain ⟨g2, h⟩ := gd h
      obtain ⟨r3, e4, h⟩ := gb h
      refine ec_getP (ci := 8) (j := 5) ⟨rfl, rfl, rfl⟩ g2 e4 rfl ?_
      refine en_iload rfl rfl ?_
      obtain ⟨g5, h⟩ := gd h
      obtain ⟨g6, h⟩ := gd h
      refine ec_iaload g5 g6 rfl ?_
      refine ec_iconst cst_m1 rfl ?_
      rcases gi h with ⟨c7, h⟩ | ⟨c7, h⟩
      · refine en_icmp_eq_t c7 rfl ?_
        refine ec_iinc (l' := [(2, .int (p2 + (1 : Int32))), (0, .ref p0), (1, .int p1)]) rfl cst_1 rfl rfl ?_
        refine en_goto rfl ?_
        refine en_sub [1, 2, 0] rfl rfl ?_
        exact ih _ _ _ _ _ h o M' hk
      · refine en_icmp_eq_f c7 rfl ?_
        refine ec_iinc (l' := [(1, .int (p1 + (1 : Int32))), (0, .ref p0), (2, .int p2)]) rfl cst_1 rfl rfl ?_
        refine ec_iinc (l' := [(2, .int (p2 + (1 : Int32))), (1, .int (p1 + (1 : Int32))), (0, .ref p0)]) rfl cst_1 rfl rfl ?_
        refine en_goto rfl ?_
        refine en_sub [2, 1, 0] rfl rfl ?_
        exact ih _ _ _ _ _ h o M' hk
/-- BulkWriter$Statement.setCount()I -/
def f_116 (n : Nat) (a0 : Nat) (C : AmC) : Option (Int32 × AmC) := (lp_116_4 n a0 (0 : Int32) (0 : Int32) C).bind (fun q => match q with | (u11, C10) => some (u11, C10))
set_option maxRecDepth 20000 in
set_option maxHeartbeats 4000000 in
theorem t_116 {n : Nat} {a0 : Nat} {C : AmC} {r : Int32} {C' : AmC} (h : f_116 n a0 C = some (r, C')) : En false 116 0 [(0, .ref a0)] [] (mkM C) (.inl (some (.int r))) (mkM C') := by
  unfold f_116 at h
  refine ec_iconst cst_0 rfl ?_
  refine en_istore (l' := [(1, .int (0 : Int32)), (0, .ref a0)]) rfl rfl ?_
  refine ec_iconst cst_0 rfl ?_
  refine en_istore (l' := [(2, .int (0 : Int32)), (1, .int (0 : Int32)), (0, .ref a0)]) rfl rfl ?_
  obtain ⟨⟨q8, C10⟩, e9, h⟩ := gb h
  refine en_sub [2, 1, 0] rfl rfl (lt_116_4 n _ _ _ _ _ e9 _ _ ?_)
  revert h e9; revert q8; intro u11 e9 h
  dsimp only at h ⊢
  refine en_iload rfl rfl ?_
  cases h
  exact en_iret rfl
/-- BulkWriter$Planner.heldAt(LBulkWriter$Script;LBulkWriter$Statement;I)I -/
def f_64 (n : Nat) (a0 : Nat) (a1 : Nat) (a2 : Nat) (a3 : Int32) (C : AmC) : Option (Int32 × AmC) := (if ¬ a3 = (1 : Int32) then (if ¬ a3 = (2 : Int32) then if isK a2 8 = true then (if (cI C a2 2) = (0 : Int32) then (f_116 n a2 C).bind (fun z => match z with | (q8, C9) => if isK a0 4 = true then if isK a1 6 = true then some ((((cI C9 a0 2) * ((1 : Int32) + q8)) + ((cI C9 a0 3) * ((1 : Int32) + (cI C9 a1 0)))), C9) else none else none) else if (cI C a2 2) = (1 : Int32) then if isK a0 4 = true then if isK a1 6 = true then some ((((cI C a0 2) * (1 : Int32)) + ((cI C a0 3) * ((1 : Int32) + (cI C a1 0)))), C) else none else none else if (cI C a2 2) = (2 : Int32) then if isK a0 4 = true then if isK a1 6 = true then some ((((cI C a0 2) * (0 : Int32)) + ((cI C a0 3) * ((1 : Int32) + (cI C a1 0)))), C) else none else none else if (cI C a2 2) = (3 : Int32) then if isK a1 6 = true then if isK a0 4 = true then some ((((cI C a0 2) * ((1 : Int32) + (cI C a1 0))) + ((cI C a0 3) * ((1 : Int32) + (cI C a1 0)))), C) else none else none else if isK a0 4 = true then if isK a1 6 = true then some ((((cI C a0 2) * (0 : Int32)) + ((cI C a0 3) * ((1 : Int32) + (cI C a1 0)))), C) else none else none) else none else if isK a0 4 = true then some (((cI C a0 2) + (cI C a0 3)), C) else none) else if isK a2 8 = true then (if (cI C a2 0) = 0 then if isK a0 4 = true then some ((cI C a0 1), C) else none else if isK a0 4 = true then some (((cI C a0 2) + (cI C a0 3)), C) else none) else none)
set_option maxRecDepth 20000 in
set_option maxHeartbeats 4000000 in
theorem t_64 {n : Nat} {a0 : Nat} {a1 : Nat} {a2 : Nat} {a3 : Int32} {C : AmC} {r : Int32} {C' : AmC} (h : f_64 n a0 a1 a2 a3 C = some (r, C')) : En false 64 0 [(0, .ref a0), (1, .ref a1), (2, .ref a2), (3, .int a3)] [] (mkM C) (.inl (some (.int r))) (mkM C') := by
  unfold f_64 at h
  refine en_iload rfl rfl ?_
  refine ec_iconst cst_1 rfl ?_
  rcases gi h with ⟨c1, h⟩ | ⟨c1, h⟩
  · refine en_icmp_ne_t c1 rfl ?_
    refine en_iload rfl rfl ?_
    refine ec_iconst cst_2 rfl ?_
    rcases gi h with ⟨c2, h⟩ | ⟨c2, h⟩
    · refine en_icmp_ne_t c2 rfl ?_
      refine en_aload rfl rfl ?_
      obtain ⟨g3, h⟩ := gd h
      refine ec_getI (ci := 8) (j := 2) ⟨rfl, rfl, rfl⟩ g3 rfl ?_
      rcases gi h with ⟨c4, h⟩ | ⟨c4, h⟩
      · refine en_tab_i (t := 27) (by rw [c4]; decide) (by rw [c4]; rfl) rfl ?_
        refine ec_iconst cst_1 rfl ?_
        refine en_aload rfl rfl ?_
        obtain ⟨⟨q8, C9⟩, e10, h⟩ := gb h
        dsimp only at h
        refine ec_callV1 (k' := 116) (n := 1) (rc := 8) (a := a2) (as := []) ⟨rfl, rfl⟩ rfl rfl (Nat.le_of_ble_eq_true rfl) (Nat.le_of_ble_eq_true rfl) (Nat.le_of_ble_eq_true rfl) g3 rfl (t_116 e10) ?_
        refine en_iadd rfl ?_
        refine en_istore (l' := [(4, .int ((1 : Int32) + q8)), (0, .ref a0), (1, .ref a1), (2, .ref a2), (3, .int a3)]) rfl rfl ?_
        refine en_goto rfl ?_
        refine en_aload rfl rfl ?_
        obtain ⟨g11, h⟩ := gd h
        refine ec_getI (ci := 4) (j := 2) ⟨rfl, rfl, rfl⟩ g11 rfl ?_
        refine en_iload rfl rfl ?_
        refine en_imul rfl ?_
        refine en_aload rfl rfl ?_
        refine ec_getI (ci := 4) (j := 3) ⟨rfl, rfl, rfl⟩ g11 rfl ?_
        refine ec_iconst cst_1 rfl ?_
        refine en_aload rfl rfl ?_
        obtain ⟨g12, h⟩ := gd h
        refine ec_getI (ci := 6) (j := 0) ⟨rfl, rfl, rfl⟩ g12 rfl ?_
        refine en_iadd rfl ?_
        refine en_imul rfl ?_
        refine en_iadd rfl ?_
        cases h
        exact en_iret rfl
      ·
        rcases gi h with ⟨c5, h⟩ | ⟨c5, h⟩
        · refine en_tab_i (t := 39) (by rw [c5]; decide) (by rw [c5]; rfl) rfl ?_
          refine ec_iconst cst_1 rfl ?_
          refine en_istore (l' := [(4, .int (1 : Int32)), (0, .ref a0), (1, .ref a1), (2, .ref a2), (3, .int a3)]) rfl rfl ?_
          refine en_goto rfl ?_
          refine en_aload rfl rfl ?_
          obtain ⟨g13, h⟩ := gd h
          refine ec_getI (ci := 4) (j := 2) ⟨rfl, rfl, rfl⟩ g13 rfl ?_
          refine en_iload rfl rfl ?_
          refine en_imul rfl ?_
          refine en_aload rfl rfl ?_
          refine ec_getI (ci := 4) (j := 3) ⟨rfl, rfl, rfl⟩ g13 rfl ?_
          refine ec_iconst cst_1 rfl ?_
          refine en_aload rfl rfl ?_
          obtain ⟨g14, h⟩ := gd h
          refine ec_getI (ci := 6) (j := 0) ⟨rfl, rfl, rfl⟩ g14 rfl ?_
          refine en_iadd rfl ?_
          refine en_imul rfl ?_
          refine en_iadd rfl ?_
          cases h
          exact en_iret rfl
        ·
          rcases gi h with ⟨c6, h⟩ | ⟨c6, h⟩
          · refine en_tab_i (t := 42) (by rw [c6]; decide) (by rw [c6]; rfl) rfl ?_
            refine ec_iconst cst_0 rfl ?_
            refine en_istore (l' := [(4, .int (0 : Int32)), (0, .ref a0), (1, .ref a1), (2, .ref a2), (3, .int a3)]) rfl rfl ?_
            refine en_aload rfl rfl ?_
            obtain ⟨g15, h⟩ := gd h
            refine ec_getI (ci := 4) (j := 2) ⟨rfl, rfl, rfl⟩ g15 rfl ?_
            refine en_iload rfl rfl ?_
            refine en_imul rfl ?_
            refine en_aload rfl rfl ?_
            refine ec_getI (ci := 4) (j := 3) ⟨rfl, rfl, rfl⟩ g15 rfl ?_
            refine ec_iconst cst_1 rfl ?_
            refine en_aload rfl rfl ?_
            obtain ⟨g16, h⟩ := gd h
            refine ec_getI (ci := 6) (j := 0) ⟨rfl, rfl, rfl⟩ g16 rfl ?_
            refine en_iadd rfl ?_
            refine en_imul rfl ?_
            refine en_iadd rfl ?_
            cases h
            exact en_iret rfl
          ·
            rcases gi h with ⟨c7, h⟩ | ⟨c7, h⟩
            · refine en_tab_i (t := 33) (by rw [c7]; decide) (by rw [c7]; rfl) rfl ?_
              refine ec_iconst cst_1 rfl ?_
              refine en_aload rfl rfl ?_
              obtain ⟨g17, h⟩ := gd h
              refine ec_getI (ci := 6) (j := 0) ⟨rfl, rfl, rfl⟩ g17 rfl ?_
              refine en_iadd rfl ?_
              refine en_istore (l' := [(4, .int ((1 : Int32) + (cI C a1 0))), (0, .ref a0), (1, .ref a1), (2, .ref a2), (3, .int a3)]) rfl rfl ?_
              refine en_goto rfl ?_
              refine en_aload rfl rfl ?_
              obtain ⟨g18, h⟩ := gd h
              refine ec_getI (ci := 4) (j := 2) ⟨rfl, rfl, rfl⟩ g18 rfl ?_
              refine en_iload rfl rfl ?_
              refine en_imul rfl ?_
              refine en_aload rfl rfl ?_
              refine ec_getI (ci := 4) (j := 3) ⟨rfl, rfl, rfl⟩ g18 rfl ?_
              refine ec_iconst cst_1 rfl ?_
              refine en_aload rfl rfl ?_
              refine ec_getI (ci := 6) (j := 0) ⟨rfl, rfl, rfl⟩ g17 rfl ?_
              refine en_iadd rfl ?_
              refine en_imul rfl ?_
              refine en_iadd rfl ?_
              cases h
              exact en_iret rfl
            ·
              refine en_tab_o (by have z0 := ne_toInt c4 (v := 0) (by decide); have z1 := ne_toInt c5 (v := 1) (by decide); have z2 := ne_toInt c6 (v := 2) (by decide); have z3 := ne_toInt c7 (v := 3) (by decide); omega) rfl ?_
              refine ec_iconst cst_0 rfl ?_
              refine en_istore (l' := [(4, .int (0 : Int32)), (0, .ref a0), (1, .ref a1), (2, .ref a2), (3, .int a3)]) rfl rfl ?_
              refine en_aload rfl rfl ?_
              obtain ⟨g19, h⟩ := gd h
              refine ec_getI (ci := 4) (j := 2) ⟨rfl, rfl, rfl⟩ g19 rfl ?_
              refine en_iload rfl rfl ?_
              refine en_imul rfl ?_
              refine en_aload rfl rfl ?_
              refine ec_getI (ci := 4) (j := 3) ⟨rfl, rfl, rfl⟩ g19 rfl ?_
              refine ec_iconst cst_1 rfl ?_
              refine en_aload rfl rfl ?_
              obtain ⟨g20, h⟩ := gd h
              refine ec_getI (ci := 6) (j := 0) ⟨rfl, rfl, rfl⟩ g20 rfl ?_
              refine en_iadd rfl ?_
              refine en_imul rfl ?_
              refine en_iadd rfl ?_
              cases h
              exact en_iret rfl
    · refine en_icmp_ne_f c2 rfl ?_
      refine en_aload rfl rfl ?_
      obtain ⟨g21, h⟩ := gd h
      refine ec_getI (ci := 4) (j := 2) ⟨rfl, rfl, rfl⟩ g21 rfl ?_
      refine en_aload rfl rfl ?_
      refine ec_getI (ci := 4) (j := 3) ⟨rfl, rfl, rfl⟩ g21 rfl ?_
      refine en_iadd rfl ?_
      cases h
      exact en_iret rfl
  · refine en_icmp_ne_f c1 rfl ?_
    refine en_aload rfl rfl ?_
    obtain ⟨g22, h⟩ := gd h
    refine ec_getI (ci := 8) (j := 0) ⟨rfl, rfl, rfl⟩ g22 rfl ?_
    rcases gi h with ⟨c23, h⟩ | ⟨c23, h⟩
    · refine en_if_eq_t c23 rfl ?_
      refine en_aload rfl rfl ?_
      obtain ⟨g24, h⟩ := gd h
      refine ec_getI (ci := 4) (j := 1) ⟨rfl, rfl, rfl⟩ g24 rfl ?_
      cases h
      exact en_iret rfl
    · refine en_if_eq_f c23 rfl ?_
      refine en_aload rfl rfl ?_
      obtain ⟨g25, h⟩ := gd h
      refine ec_getI (ci := 4) (j := 2) ⟨rfl, rfl, rfl⟩ g25 rfl ?_
      refine en_aload rfl rfl ?_
      refine ec_getI (ci := 4) (j := 3) ⟨rfl, rfl, rfl⟩ g25 rfl ?_
      refine en_iadd rfl ?_
      refine en_goto rfl ?_
      cases h
      exact en_iret rfl
