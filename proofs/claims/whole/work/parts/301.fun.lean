def lp_28_20 : Nat → Nat → Int32 → Int32 → AmC → Option (((Unit) ⊕ (Nat × Int32)) × AmC)
  | 0, _, _, _, _ => none
  | n + 1, p0, p1, p2, C => if isK p0 2 = true then (cP C p0 5).bind (fun r13 => if isK r13 6 = true then (if (cI C r13 0) ≤ p2 then some ((.inr (p0, p1)), C) else (f_30 n p0 C).bind (fun z => match z with | (q17, C18) => (if ¬ q17 = 0 then (cP C18 p0 5).bind (fun r21 => if isK r21 6 = true then (cP C18 r21 1).bind (fun r24 => if isK r24 5 = true then (f_77 n r24 p1 p2 (cI C18 p0 9) C18).bind (fun z => match z with | (_, C28) => lp_28_20 n p0 p1 (p2 + (1 : Int32)) C28) else none) else none) else some ((.inl ()), C18)))) else none) else none
set_option maxRecDepth 20000 in
set_option maxHeartbeats 4000000 in
theorem lt_28_20 : ∀ (n : Nat) (p0 : Nat) (p1 : Int32) (p2 : Int32) (C : AmC) (r : ((Unit) ⊕ (Nat × Int32)) × AmC), lp_28_20 n p0 p1 p2 C = some r → ∀ (o : AmO) (M' : AmM), (match r with
        | ((.inl _), C') => En false 28 28 [] [] (mkM C') o M'
        | ((.inr (w0, w1)), C') => En false 28 40 [(0, .ref w0), (1, .int w1)] [] (mkM C') o M') → En false 28 20 [(0, .ref p0), (1, .int p1), (2, .int p2)] [] (mkM C) o M' := by
  intro n
  induction n with
  | zero => intro p0 p1 p2 C r h; cases h
  | succ n ih =>
    intro p0 p1 p2 C r h o M' hk
    unfold lp_28_20 at h
    refine en_iload rfl rfl ?_
    refine en_aload rfl rfl ?_
    obtain ⟨g12, h⟩ := gd h
    obtain ⟨r13, e14, h⟩ := gb h
    refine ec_getP (ci := 2) (j := 5) ⟨rfl, rfl, rfl⟩ g12 e14 rfl ?_
    obtain ⟨g15, h⟩ := gd h
    refine ec_getI (ci := 6) (j := 0) ⟨rfl, rfl, rfl⟩ g15 rfl ?_
    rcases gi h with ⟨c16, h⟩ | ⟨c16, h⟩
    · refine en_icmp_ge_t c16 rfl ?_
      cases h
      exact en_sub [0, 1] rfl rfl hk
    · refine en_icmp_ge_f c16 rfl ?_
      refine en_aload rfl rfl ?_
      obtain ⟨⟨q17, C18⟩, e19, h⟩ := gb h
      dsimp only at h
      refine ec_callV1 (k' := 30) (n := 1) (rc := 2) (a := p0) (as := []) ⟨rfl, rfl⟩ rfl rfl (Nat.le_of_ble_eq_true rfl) (Nat.le_of_ble_eq_true rfl) (Nat.le_of_ble_eq_true rfl) g12 rfl (t_30 e19) ?_
      rcases gi h with ⟨c20, h⟩ | ⟨c20, h⟩
      · refine en_if_ne_t c20 rfl ?_
        refine en_aload rfl rfl ?_
        obtain ⟨r21, e22, h⟩ := gb h
        refine ec_getP (ci := 2) (j := 5) ⟨rfl, rfl, rfl⟩ g12 e22 rfl ?_
        obtain ⟨g23, h⟩ := gd h
        obtain ⟨r24, e25, h⟩ := gb h
        refine ec_getP (ci := 6) (j := 1) ⟨rfl, rfl, rfl⟩ g23 e25 rfl ?_
        refine en_iload rfl rfl ?_
        refine en_iload rfl rfl ?_
        refine en_aload rfl rfl ?_
        refine ec_getI (ci := 2) (j := 9) ⟨rfl, rfl, rfl⟩ g12 rfl ?_
        obtain ⟨g26, h⟩ := gd h
        obtain ⟨⟨q27, C28⟩, e29, h⟩ := gb h
        dsimp only at h
        refine ec_callV0 (k' := 77) (n := 4) (rc := 5) (a := r24) (as := [.int p1, .int p2, .int (cI C18 p0 9)]) ⟨rfl, rfl⟩ rfl rfl (Nat.le_of_ble_eq_true rfl) (Nat.le_of_ble_eq_true rfl) (Nat.le_of_ble_eq_true rfl) g26 rfl (t_77 e29) ?_
        refine ec_iinc (l' := [(2, .int (p2 + (1 : Int32))), (0, .ref p0), (1, .int p1)]) rfl cst_1 rfl rfl ?_
        refine en_goto rfl ?_
        refine en_sub [1, 2, 0] rfl rfl ?_
        exact ih _ _ _ _ _ h o M' hk
      · refine en_if_ne_f c20 rfl ?_
        cases h
        exact en_sub [] rfl rfl hk
/-- BulkWriter$Parser.readRow()Z -/
def f_28 (n : Nat) (a0 : Nat) (C : AmC) : Option (Int32 × AmC) := if isK a0 2 = true then (cP C a0 5).bind (fun r2 => if isK r2 6 = true then (cP C r2 1).bind (fun r5 => if isK r5 5 = true then (f_80 n r5 C).bind (fun z => match z with | (q8, C9) => (if ¬ q8 = (-1 : Int32) then (lp_28_20 n a0 q8 (0 : Int32) (uI C9 a0 4 ((cI C9 a0 4) + (1 : Int32)))).bind (fun q => match q with | ((.inl _), C32) => some ((0 : Int32), C32) | ((.inr (u33, u34)), C32) => if isK u33 2 = true then (f_23 n u33 C32).bind (fun z => match z with | (q36, C37) => (if q36 = (59 : Int32) then (cP C37 u33 5).bind (fun r40 => if isK r40 6 = true then (cP C37 r40 1).bind (fun r43 => if isK r43 5 = true then (f_78 n r43 u34 C37).bind (fun z => match z with | (_, C47) => (cP C47 u33 5).bind (fun r49 => (cP C47 u33 5).bind (fun r51 => if isK r51 6 = true then (cP C47 r51 1).bind (fun r54 => if isK r49 6 = true then (f_107 n r49 r54 C47).bind (fun z => match z with | (q57, C58) => (if q57 = (-1 : Int32) then some ((1 : Int32), uI C58 u33 4 ((cI C58 u33 4) + (1 : Int32))) else (f_25 n u33 (4 : Int32) C58).bind (fun z => match z with | (q61, C62) => if q61 = 0 ∨ q61 = 1 then some (q61, C62) else none))) else none) else none))) else none) else none) else (f_25 n u33 (1 : Int32) C37).bind (fun z => match z with | (q65, C66) => if q65 = 0 ∨ q65 = 1 then some (q65, C66) else none))) else none) else (f_25 n a0 (2 : Int32) C9).bind (fun z => match z with | (q69, C70) => if q69 = 0 ∨ q69 = 1 then some (q69, C70) else none))) else none) else none) else none
set_option maxRecDepth 20000 in
set_option maxHeartbeats 4000000 in
theorem t_28 {n : Nat} {a0 : Nat} {C : AmC} {r : Int32} {C' : AmC} (h : f_28 n a0 C = some (r, C')) : En false 28 0 [(0, .ref a0)] [] (mkM C) (.inl (some (.int r))) (mkM C') := by
  unfold f_28 at h
  refine en_aload rfl rfl ?_
  obtain ⟨g1, h⟩ := gd h
  obtain ⟨r2, e3, h⟩ := gb h
  refine ec_getP (ci := 2) (j := 5) ⟨rfl, rfl, rfl⟩ g1 e3 rfl ?_
  obtain ⟨g4, h⟩ := gd h
  obtain ⟨r5, e6, h⟩ := gb h
  refine ec_getP (ci := 6) (j := 1) ⟨rfl, rfl, rfl⟩ g4 e6 rfl ?_
  obtain ⟨g7, h⟩ := gd h
  obtain ⟨⟨q8, C9⟩, e10, h⟩ := gb h
  dsimp only at h
  refine ec_callV1 (k' := 80) (n := 1) (rc := 5) (a := r5) (as := []) ⟨rfl, rfl⟩ rfl rfl (Nat.le_of_ble_eq_true rfl) (Nat.le_of_ble_eq_true rfl) (Nat.le_of_ble_eq_true rfl) g7 rfl (t_80 e10) ?_
  refine en_istore (l' := [(1, .int q8), (0, .ref a0)]) rfl rfl ?_
  refine en_iload rfl rfl ?_
  refine ec_iconst cst_m1 rfl ?_
  rcases gi h with ⟨c11, h⟩ | ⟨c11, h⟩
  · refine en_icmp_ne_t c11 rfl ?_
    refine en_aload rfl rfl ?_
    refine en_dup rfl rfl ?_
    refine ec_getI (ci := 2) (j := 4) ⟨rfl, rfl, rfl⟩ g1 rfl ?_
    refine ec_iconst cst_1 rfl ?_
    refine en_iadd rfl ?_
    refine ec_putI (ci := 2) (j := 4) ⟨rfl, rfl, rfl⟩ g1 rfl ?_
    refine ec_iconst cst_0 rfl ?_
    refine en_istore (l' := [(2, .int (0 : Int32)), (1, .int q8), (0, .ref a0)]) rfl rfl ?_
    obtain ⟨⟨q30, C32⟩, e31, h⟩ := gb h
    refine en_sub [2, 1, 0] rfl rfl (lt_28_20 n _ _ _ _ _ e31 _ _ ?_)
    rcases q30 with ⟨⟩ | ⟨u33, u34⟩
    · dsimp only at h ⊢
      refine ec_iconst cst_0 rfl ?_
      cases h
      exact en_zret (Or.inl rfl) rfl
    · dsimp only at h ⊢
      refine en_aload rfl rfl ?_
      obtain ⟨g35, h⟩ := gd h
      obtain ⟨⟨q36, C37⟩, e38, h⟩ := gb h
      dsimp only at h
      refine ec_callV1 (k' := 23) (n := 1) (rc := 2) (a := u33) (as := []) ⟨rfl, rfl⟩ rfl rfl (Nat.le_of_ble_eq_true rfl) (Nat.le_of_ble_eq_true rfl) (Nat.le_of_ble_eq_true rfl) g35 rfl (t_23 e38) ?_
      refine ec_iconst cst_59 rfl ?_
      rcases gi h with ⟨c39, h⟩ | ⟨c39, h⟩
      · refine en_icmp_eq_t c39 rfl ?_
        refine en_aload rfl rfl ?_
        obtain ⟨r40, e41, h⟩ := gb h
        refine ec_getP (ci := 2) (j := 5) ⟨rfl, rfl, rfl⟩ g35 e41 rfl ?_
        obtain ⟨g42, h⟩ := gd h
        obtain ⟨r43, e44, h⟩ := gb h
        refine ec_getP (ci := 6) (j := 1) ⟨rfl, rfl, rfl⟩ g42 e44 rfl ?_
        refine en_iload rfl rfl ?_
        obtain ⟨g45, h⟩ := gd h
        obtain ⟨⟨q46, C47⟩, e48, h⟩ := gb h
        dsimp only at h
        refine ec_callV0 (k' := 78) (n := 2) (rc := 5) (a := r43) (as := [.int u34]) ⟨rfl, rfl⟩ rfl rfl (Nat.le_of_ble_eq_true rfl) (Nat.le_of_ble_eq_true rfl) (Nat.le_of_ble_eq_true rfl) g45 rfl (t_78 e48) ?_
        refine en_aload rfl rfl ?_
        obtain ⟨r49, e50, h⟩ := gb h
        refine ec_getP (ci := 2) (j := 5) ⟨rfl, rfl, rfl⟩ g35 e50 rfl ?_
        refine en_aload rfl rfl ?_
        obtain ⟨r51, e52, h⟩ := gb h
        refine ec_getP (ci := 2) (j := 5) ⟨rfl, rfl, rfl⟩ g35 e52 rfl ?_
        obtain ⟨g53, h⟩ := gd h
        obtain ⟨r54, e55, h⟩ := gb h
        refine ec_getP (ci := 6) (j := 1) ⟨rfl, rfl, rfl⟩ g53 e55 rfl ?_
        obtain ⟨g56, h⟩ := gd h
        obtain ⟨⟨q57, C58⟩, e59, h⟩ := gb h
        dsimp only at h
        refine ec_callV1 (k' := 107) (n := 2) (rc := 6) (a := r49) (as := [.ref r54]) ⟨rfl, rfl⟩ rfl rfl (Nat.le_of_ble_eq_true rfl) (Nat.le_of_ble_eq_true rfl) (Nat.le_of_ble_eq_true rfl) g56 rfl (t_107 e59) ?_
        refine ec_iconst cst_m1 rfl ?_
        rcases gi h with ⟨c60, h⟩ | ⟨c60, h⟩
        · refine en_icmp_eq_t c60 rfl ?_
          refine en_aload rfl rfl ?_
          refine en_dup rfl rfl ?_
          refine ec_getI (ci := 2) (j := 4) ⟨rfl, rfl, rfl⟩ g35 rfl ?_
          refine ec_iconst cst_1 rfl ?_
          refine en_iadd rfl ?_
          refine ec_putI (ci := 2) (j := 4) ⟨rfl, rfl, rfl⟩ g35 rfl ?_
          refine ec_iconst cst_1 rfl ?_
          cases h
          exact en_zret (Or.inr rfl) rfl
        · refine en_icmp_eq_f c60 rfl ?_
          refine en_aload rfl rfl ?_
          refine ec_iconst cst_4 rfl ?_
          obtain ⟨⟨q61, C62⟩, e63, h⟩ := gb h
          dsimp only at h
          refine ec_callV1 (k' := 25) (n := 2) (rc := 2) (a := u33) (as := [.int (4 : Int32)]) ⟨rfl, rfl⟩ rfl rfl (Nat.le_of_ble_eq_true rfl) (Nat.le_of_ble_eq_true rfl) (Nat.le_of_ble_eq_true rfl) g35 rfl (t_25 e63) ?_
          obtain ⟨g64, h⟩ := gd h
          cases h
          exact en_zret g64 rfl
      · refine en_icmp_eq_f c39 rfl ?_
        refine en_aload rfl rfl ?_
        refine ec_iconst cst_1 rfl ?_
        obtain ⟨⟨q65, C66⟩, e67, h⟩ := gb h
        dsimp only at h
        refine ec_callV1 (k' := 25) (n := 2) (rc := 2) (a := u33) (as := [.int (1 : Int32)]) ⟨rfl, rfl⟩ rfl rfl (Nat.le_of_ble_eq_true rfl) (Nat.le_of_ble_eq_true rfl) (Nat.le_of_ble_eq_true rfl) g35 rfl (t_25 e67) ?_
        obtain ⟨g68, h⟩ := gd h
        cases h
        exact en_zret g68 rfl
  · refine en_icmp_ne_f c11 rfl ?_
    refine en_aload rfl rfl ?_
    refine ec_iconst cst_2 rfl ?_
    obtain ⟨⟨q69, C70⟩, e71, h⟩ := gb h
    dsimp only at h
    refine ec_callV1 (k' := 25) (n := 2) (rc := 2) (a := a0) (as := [.int (2 : Int32)]) ⟨rfl, rfl⟩ rfl rfl (Nat.le_of_ble_eq_true rfl) (Nat.le_of_ble_eq_true rfl) (Nat.le_of_ble_eq_true rfl) g1 rfl (t_25 e71) ?_
    obtain ⟨g72, h⟩ := gd h
    cases h
    exact en_zret g72 rfl
/-- BulkWriter$Script.putOther(III)V -/
def f_96 (n : Nat) (a0 : Nat) (a1 : Int32) (a2 : Int32) (a3 : Int32) (C : AmC) : Option (Unit × AmC) := (if a1 < 0 then some ((), C) else (if (10 : Int32) ≤ a1 then some ((), C) else (if a2 < 0 then some ((), C) else (if (4 : Int32) ≤ a2 then some ((), C) else if isK a0 6 = true then (cP C a0 7).bind (fun r6 => if isK r6 12 = true then if amIn ((a1 * (4 : Int32)) + a2) (aLen r6) = true then some ((), uI C r6 (Int32.toNatClampNeg ((a1 * (4 : Int32)) + a2)) a3) else none else none) else none))))
set_option maxRecDepth 20000 in
set_option maxHeartbeats 4000000 in
theorem t_96 {n : Nat} {a0 : Nat} {a1 : Int32} {a2 : Int32} {a3 : Int32} {C : AmC} {r : Unit} {C' : AmC} (h : f_96 n a0 a1 a2 a3 C = some (r, C')) : En false 96 0 [(0, .ref a0), (1, .int a1), (2, .int a2), (3, .int a3)] [] (mkM C) (.inl none) (mkM C') := by
  unfold f_96 at h
  refine en_iload rfl rfl ?_
  rcases gi h with ⟨c1, h⟩ | ⟨c1, h⟩
  · refine en_if_lt_t c1 rfl ?_
    cases h
    exact en_vret rfl
  · refine en_if_lt_f c1 rfl ?_
    refine en_iload rfl rfl ?_
    refine ec_iconst cst_10 rfl ?_
    rcases gi h with ⟨c2, h⟩ | ⟨c2, h⟩
    · refine en_icmp_ge_t c2 rfl ?_
      cases h
      exact en_vret rfl
    · refine en_icmp_ge_f c2 rfl ?_
      refine en_iload rfl rfl ?_
      rcases gi h with ⟨c3, h⟩ | ⟨c3, h⟩
      · refine en_if_lt_t c3 rfl ?_
        cases h
        exact en_vret rfl
      · refine en_if_lt_f c3 rfl ?_
        refine en_iload rfl rfl ?_
        refine ec_iconst cst_4 rfl ?_
        rcases gi h with ⟨c4, h⟩ | ⟨c4, h⟩
        · refine en_icmp_ge_t c4 rfl ?_
          cases h
          exact en_vret rfl
        · refine en_icmp_ge_f c4 rfl ?_
          refine en_aload rfl rfl ?_
          obtain ⟨g5, h⟩ := gd h
          obtain ⟨r6, e7, h⟩ := gb h
          refine ec_getP (ci := 6) (j := 7) ⟨rfl, rfl, rfl⟩ g5 e7 rfl ?_
          refine en_iload rfl rfl ?_
          refine ec_iconst cst_4 rfl ?_
          refine en_imul rfl ?_
          refine en_iload rfl rfl ?_
          refine en_iadd rfl ?_
          refine en_iload rfl rfl ?_
          obtain ⟨g8, h⟩ := gd h
          obtain ⟨g9, h⟩ := gd h
          refine ec_iastore g8 g9 rfl ?_
          cases h
          exact en_vret rfl
def lp_29_17 : Nat → Nat → Int32 → AmC → Option (((Unit) ⊕ (Nat)) × AmC)
  | 0, _, _, _ => none
  | n + 1, p0, p1, C => if isK p0 2 = true then (cP C p0 5).bind (fun r7 => if isK r7 6 = true then (if (cI C r7 0) ≤ p1 then some ((.inr p0), C) else (f_30 n p0 C).bind (fun z => match z with | (q11, C12) => (if ¬ q11 = 0 then (cP C12 p0 5).bind (fun r15 => (cP C12 p0 5).bind (fun r17 => if isK r17 6 = true then if isK r15 6 = true then (f_96 n r15 (cI C12 r17 6) p1 (cI C12 p0 9) C12).bind (fun z => match z with | (_, C22) => lp_29_17 n p0 (p1 + (1 : Int32)) C22) else none else none)) else some ((.inl ()), C12)))) else none) else none
set_option maxRecDepth 20000 in
set_option maxHeartbeats 4000000 in
theorem lt_29_17 : ∀ (n : Nat) (p0 : Nat) (p1 : Int32) (C : AmC) (r : ((Unit) ⊕ (Nat)) × AmC), lp_29_17 n p0 p1 C = some r → ∀ (o : AmO) (M' : AmM), (match r with
        | ((.inl _), C') => En false 29 25 [] [] (mkM C') o M'
        | ((.inr w0), C') => En false 29 38 [(0, .ref w0)] [] (mkM C') o M') → En false 29 17 [(0, .ref p0), (1, .int p1)] [] (mkM C) o M' := by
  intro n
  induction n with
  | zero => intro p0 p1 C r h; cases h
  | succ n ih =>
    intro p0 p1 C r h o M' hk
    unfold lp_29_17 at h
    refine en_iload rfl rfl ?_
    refine en_aload rfl rfl ?_
    obtain ⟨g6, h⟩ := gd h
    obtain ⟨r7, e8, h⟩ := gb h
    refine ec_getP (ci := 2) (j := 5) ⟨rfl, rfl, rfl⟩ g6 e8 rfl ?_
    obtain ⟨g9, h⟩ := gd h
    refine ec_getI (ci := 6) (j := 0) ⟨rfl, rfl, rfl⟩ g9 rfl ?_
    rcases gi h with ⟨c10, h⟩ | ⟨c10, h⟩
    · refine en_icmp_ge_t c10 rfl ?_
      cases h
      exact en_sub [0] rfl rfl hk
    · refine en_icmp_ge_f c10 rfl ?_
      refine en_aload rfl rfl ?_
      obtain ⟨⟨q11, C12⟩, e13, h⟩ := gb h
      dsimp only at h
      refine ec_callV1 (k' := 30) (n := 1) (rc := 2) (a := p0) (as := []) ⟨rfl, rfl⟩ rfl rfl (Nat.le_of_ble_eq_true rfl) (Nat.le_of_ble_eq_true rfl) (Nat.le_of_ble_eq_true rfl) g6 rfl (t_30 e13) ?_
      rcases gi h with ⟨c14, h⟩ | ⟨c14, h⟩
      · refine en_if_ne_t c14 rfl ?_
        refine en_aload rfl rfl ?_
        obtain ⟨r15, e16, h⟩ := gb h
        refine ec_getP (ci := 2) (j := 5) ⟨rfl, rfl, rfl⟩ g6 e16 rfl ?_
        refine en_aload rfl rfl ?_
        obtain ⟨r17, e18, h⟩ := gb h
        refine ec_getP (ci := 2) (j := 5) ⟨rfl, rfl, rfl⟩ g6 e18 rfl ?_
        obtain ⟨g19, h⟩ := gd h
        refine ec_getI (ci := 6) (j := 6) ⟨rfl, rfl, rfl⟩ g19 rfl ?_
        refine en_iload rfl rfl ?_
        refine en_aload rfl rfl ?_
        refine ec_getI (ci := 2) (j := 9) ⟨rfl, rfl, rfl⟩ g6 rfl ?_
        obtain ⟨g20, h⟩ := gd h
        obtain ⟨⟨q21, C22⟩, e23, h⟩ := gb h
        dsimp only at h
        refine ec_callV0 (k' := 96) (n := 4) (rc := 6) (a := r15) (as := [.int (cI C12 r17 6), .int p1, .int (cI C12 p0 9)]) ⟨rfl, rfl⟩ rfl rfl (Nat.le_of_ble_eq_true rfl) (Nat.le_of_ble_eq_true rfl) (Nat.le_of_ble_eq_true rfl) g20 rfl (t_96 e23) ?_
        refine ec_iinc (l' := [(1, .int (p1 + (1 : Int32))), (0, .ref p0)]) rfl cst_1 rfl rfl ?_
        refine en_goto rfl ?_
        refine en_sub [1, 0] rfl rfl ?_
        exact ih _ _ _ _ h o M' hk
      · refine en_if_ne_f c14 rfl ?_
        cases h
        exact en_sub [] rfl rfl hk
/-- BulkWriter$Parser.readOther()Z -/
def f_29 (n : Nat) (a0 : Nat) (C : AmC) : Option (Int32 × AmC) := if isK a0 2 = true then (cP C a0 5).bind (fun r2 => if isK r2 6 = true then (if (cI C r2 6) < (10 : Int32) then (lp_29_17 n a0 (0 : Int32) (uI C a0 4 ((cI C a0 4) + (1 : Int32)))).bind (fun q => match q with | ((.inl _), C26) => some ((0 : Int32), C26) | ((.inr u27), C26) => if isK u27 2 = true then (cP C26 u27 5).bind (fun r29 => if isK r29 6 = true then (f_26 n u27 (59 : Int32) (uI C26 r29 6 ((cI C26 r29 6) + (1 : Int32)))).bind (fun z => match z with | (q32, C33) => if q32 = 0 ∨ q32 = 1 then some (q32, C33) else none) else none) else none) else (f_25 n a0 (2 : Int32) C).bind (fun z => match z with | (q36, C37) => if q36 = 0 ∨ q36 = 1 then some (q36, C37) else none)) else none) else none
set_option maxRecDepth 20000 in
set_option maxHeartbeats 4000000 in
theorem t_29 {n : Nat} {a0 : Nat} {C : AmC} {r : Int32} {C' : AmC} (h : f_29 n a0 C = some (r, C')) : En false 29 0 [(0, .ref a0)] [] (mkM C) (.inl (some (.int r))) (mkM C') := by
  unfold f_29 at h
  refine en_aload rfl rfl ?_
  obtain ⟨g1, h⟩ := gd h
  obtain ⟨r2, e3, h⟩ := gb h
  refine ec_getP (ci := 2) (j := 5) ⟨rfl, rfl, rfl⟩ g1 e3 rfl ?_
  obtain ⟨g4, h⟩ := gd h
  refine ec_getI (ci := 6) (j := 6) ⟨rfl, rfl, rfl⟩ g4 rfl ?_
  refine ec_iconst cst_10 rfl ?_
  rcases gi h with ⟨c5, h⟩ | ⟨c5, h⟩
  · refine en_icmp_lt_t c5 rfl ?_
    refine en_aload rfl rfl ?_
    refine en_dup rfl rfl ?_
    refine ec_getI (ci := 2) (j := 4) ⟨rfl, rfl, rfl⟩ g1 rfl ?_
    refine ec_iconst cst_1 rfl ?_
    refine en_iadd rfl ?_
    refine ec_putI (ci := 2) (j := 4) ⟨rfl, rfl, rfl⟩ g1 rfl ?_
    refine ec_iconst cst_0 rfl ?_
    refine en_istore (l' := [(1, .int (0 : Int32)), (0, .ref a0)]) rfl rfl ?_
    obtain ⟨⟨q24, C26⟩, e25, h⟩ := gb h
    refine en_sub [1, 0] rfl rfl (lt_29_17 n _ _ _ _ e25 _ _ ?_)
    rcases q24 with ⟨⟩ | u27
    · dsimp only at h ⊢
      refine ec_iconst cst_0 rfl ?_
      cases h
      exact en_zret (Or.inl rfl) rfl
    · dsimp only at h ⊢
      refine en_aload rfl rfl ?_
      obtain ⟨g28, h⟩ := gd h
      obtain ⟨r29, e30, h⟩ := gb h
      refine ec_getP (ci := 2) (j := 5) ⟨rfl, rfl, rfl⟩ g28 e30 rfl ?_
      refine en_dup rfl rfl ?_
      obtain ⟨g31, h⟩ := gd h
      refine ec_getI (ci := 6) (j := 6) ⟨rfl, rfl, rfl⟩ g31 rfl ?_
      refine ec_iconst cst_1 rfl ?_
      refine en_iadd rfl ?_
      refine ec_putI (ci := 6) (j := 6) ⟨rfl, rfl, rfl⟩ g31 rfl ?_
      refine en_aload rfl rfl ?_
      refine ec_iconst cst_59 rfl ?_
      obtain ⟨⟨q32, C33⟩, e34, h⟩ := gb h
      dsimp only at h
      refine ec_callV1 (k' := 26) (n := 2) (rc := 2) (a := u27) (as := [.int (59 : Int32)]) ⟨rfl, rfl⟩ rfl rfl (Nat.le_of_ble_eq_true rfl) (Nat.le_of_ble_eq_true rfl) (Nat.le_of_ble_eq_true rfl) g28 rfl (t_26 e34) ?_
      obtain ⟨g35, h⟩ := gd h
      cases h
      exact en_zret g35 rfl
  · refine en_icmp_lt_f c5 rfl ?_
    refine en_aload rfl rfl ?_
    refine ec_iconst cst_2 rfl ?_
    obtain ⟨⟨q36, C37⟩, e38, h⟩ := gb h
    dsimp only at h
    refine ec_callV1 (k' := 25) (n := 2) (rc := 2) (a := a0) (as := [.int (2 : Int32)]) ⟨rfl, rfl⟩ rfl rfl (Nat.le_of_ble_eq_true rfl) (Nat.le_of_ble_eq_true rfl) (Nat.le_of_ble_eq_true rfl) g1 rfl (t_25 e38) ?_
    obtain ⟨g39, h⟩ := gd h
    cases h
    exact en_zret g39 rfl
/-- BulkWriter$Parser.readColumn()Z -/
def f_31 (n : Nat) (a0 : Nat) (C : AmC) : Option (Int32 × AmC) := if isK a0 2 = true then (f_23 n a0 C).bind (fun z => match z with | (q2, C3) => (if q2 = (130 : Int32) then (f_24 n a0 C3).bind (fun z => match z with | (q6, C7) => (cP C7 a0 5).bind (fun r9 => if isK r9 6 = true then (if q6 < (cI C7 r9 0) then (f_24 n a0 C7).bind (fun z => match z with | (q13, C14) => some ((1 : Int32), uI (uI C14 a0 8 q13) a0 4 ((cI (uI C14 a0 8 q13) a0 4) + (1 : Int32)))) else (f_25 n a0 (3 : Int32) C7).bind (fun z => match z with | (q16, C17) => if q16 = 0 ∨ q16 = 1 then some (q16, C17) else none)) else none)) else (f_25 n a0 (1 : Int32) C3).bind (fun z => match z with | (q20, C21) => if q20 = 0 ∨ q20 = 1 then some (q20, C21) else none))) else none
set_option maxRecDepth 20000 in
set_option maxHeartbeats 4000000 in
theorem t_31 {n : Nat} {a0 : Nat} {C : AmC} {r : Int32} {C' : AmC} (h : f_31 n a0 C = some (r, C')) : En false 31 0 [(0, .ref a0)] [] (mkM C) (.inl (some (.int r))) (mkM C') := by
  unfold f_31 at h
  refine en_aload rfl rfl ?_
  obtain ⟨g1, h⟩ := gd h
  obtain ⟨⟨q2, C3⟩, e4, h⟩ := gb h
  dsimp only at h
  refine ec_callV1 (k' := 23) (n := 1) (rc := 2) (a := a0) (as := []) ⟨rfl, rfl⟩ rfl rfl (Nat.le_of_ble_eq_true rfl) (Nat.le_of_ble_eq_true rfl) (Nat.le_of_ble_eq_true rfl) g1 rfl (t_23 e4) ?_
  refine ec_iconst cst_130 rfl ?_
  rcases gi h with ⟨c5, h⟩ | ⟨c5, h⟩
  · refine en_icmp_eq_t c5 rfl ?_
    refine en_aload rfl rfl ?_
    obtain ⟨⟨q6, C7⟩, e8, h⟩ := gb h
    dsimp only at h
    refine ec_callV1 (k' := 24) (n := 1) (rc := 2) (a := a0) (as := []) ⟨rfl, rfl⟩ rfl rfl (Nat.le_of_ble_eq_true rfl) (Nat.le_of_ble_eq_true rfl) (Nat.le_of_ble_eq_true rfl) g1 rfl (t_24 e8) ?_
    refine en_aload rfl rfl ?_
    obtain ⟨r9, e10, h⟩ := gb h
    refine ec_getP (ci := 2) (j := 5) ⟨rfl, rfl, rfl⟩ g1 e10 rfl ?_
    obtain ⟨g11, h⟩ := gd h
    refine ec_getI (ci := 6) (j := 0) ⟨rfl, rfl, rfl⟩ g11 rfl ?_
    rcases gi h with ⟨c12, h⟩ | ⟨c12, h⟩
    · refine en_icmp_lt_t c12 rfl ?_
      refine en_aload rfl rfl ?_
      refine en_aload rfl rfl ?_
      obtain ⟨⟨q13, C14⟩, e15, h⟩ := gb h
      dsimp only at h
      refine ec_callV1 (k' := 24) (n := 1) (rc := 2) (a := a0) (as := []) ⟨rfl, rfl⟩ rfl rfl (Nat.le_of_ble_eq_true rfl) (Nat.le_of_ble_eq_true rfl) (Nat.le_of_ble_eq_true rfl) g1 rfl (t_24 e15) ?_
      refine ec_putI (ci := 2) (j := 8) ⟨rfl, rfl, rfl⟩ g1 rfl ?_
      refine en_aload rfl rfl ?_
      refine en_dup rfl rfl ?_
      refine ec_getI (ci := 2) (j := 4) ⟨rfl, rfl, rfl⟩ g1 rfl ?_
      refine ec_iconst cst_1 rfl ?_
      refine en_iadd rfl ?_
      refine ec_putI (ci := 2) (j := 4) ⟨rfl, rfl, rfl⟩ g1 rfl ?_
      refine ec_iconst cst_1 rfl ?_
      cases h
      exact en_zret (Or.inr rfl) rfl
    · refine en_icmp_lt_f c12 rfl ?_
      refine en_aload rfl rfl ?_
      refine ec_iconst cst_3 rfl ?_
      obtain ⟨⟨q16, C17⟩, e18, h⟩ := gb h
      dsimp only at h
      refine ec_callV1 (k' := 25) (n := 2) (rc := 2) (a := a0) (as := [.int (3 : Int32)]) ⟨rfl, rfl⟩ rfl rfl (Nat.le_of_ble_eq_true rfl) (Nat.le_of_ble_eq_true rfl) (Nat.le_of_ble_eq_true rfl) g1 rfl (t_25 e18) ?_
      obtain ⟨g19, h⟩ := gd h
      cases h
      exact en_zret g19 rfl
  · refine en_icmp_eq_f c5 rfl ?_
    refine en_aload rfl rfl ?_
    refine ec_iconst cst_1 rfl ?_
    obtain ⟨⟨q20, C21⟩, e22, h⟩ := gb h
    dsimp only at h
    refine ec_callV1 (k' := 25) (n := 2) (rc := 2) (a := a0) (as := [.int (1 : Int32)]) ⟨rfl, rfl⟩ rfl rfl (Nat.le_of_ble_eq_true rfl) (Nat.le_of_ble_eq_true rfl) (Nat.le_of_ble_eq_true rfl) g1 rfl (t_25 e22) ?_
    obtain ⟨g23, h⟩ := gd h
    cases h
    exact en_zret g23 rfl
/-- BulkWriter$Script.addIndex(IIZ)V -/
def f_92 (n : Nat) (a0 : Nat) (a1 : Int32) (a2 : Int32) (a3 : Int32) (C : AmC) : Option (Unit × AmC) := if isK a0 6 = true then (if (cI C a0 2) < 0 then some ((), C) else (if (cI C a0 2) < (3 : Int32) then (cP C a0 3).bind (fun r4 => if isK r4 12 = true then if amIn (cI C a0 2) (aLen r4) = true then (cP (uI C r4 (Int32.toNatClampNeg (cI C a0 2)) a1) a0 4).bind (fun r8 => if isK r8 12 = true then if amIn (cI (uI C r4 (Int32.toNatClampNeg (cI C a0 2)) a1) a0 2) (aLen r8) = true then (if a3 = 0 then some ((), uI (uI (uI C r4 (Int32.toNatClampNeg (cI C a0 2)) a1) r8 (Int32.toNatClampNeg (cI (uI C r4 (Int32.toNatClampNeg (cI C a0 2)) a1) a0 2)) a2) a0 2 ((cI (uI (uI C r4 (Int32.toNatClampNeg (cI C a0 2)) a1) r8 (Int32.toNatClampNeg (cI (uI C r4 (Int32.toNatClampNeg (cI C a0 2)) a1) a0 2)) a2) a0 2) + (1 : Int32))) else some ((), uI (uI (uI (uI C r4 (Int32.toNatClampNeg (cI C a0 2)) a1) r8 (Int32.toNatClampNeg (cI (uI C r4 (Int32.toNatClampNeg (cI C a0 2)) a1) a0 2)) a2) a0 5 ((cI (uI (uI C r4 (Int32.toNatClampNeg (cI C a0 2)) a1) r8 (Int32.toNatClampNeg (cI (uI C r4 (Int32.toNatClampNeg (cI C a0 2)) a1) a0 2)) a2) a0 5) ||| ((1 : Int32) <<< ((cI (uI (uI C r4 (Int32.toNatClampNeg (cI C a0 2)) a1) r8 (Int32.toNatClampNeg (cI (uI C r4 (Int32.toNatClampNeg (cI C a0 2)) a1) a0 2)) a2) a0 2) &&& 31)))) a0 2 ((cI (uI (uI (uI C r4 (Int32.toNatClampNeg (cI C a0 2)) a1) r8 (Int32.toNatClampNeg (cI (uI C r4 (Int32.toNatClampNeg (cI C a0 2)) a1) a0 2)) a2) a0 5 ((cI (uI (uI C r4 (Int32.toNatClampNeg (cI C a0 2)) a1) r8 (Int32.toNatClampNeg (cI (uI C r4 (Int32.toNatClampNeg (cI C a0 2)) a1) a0 2)) a2) a0 5) ||| ((1 : Int32) <<< ((cI (uI (uI C r4 (Int32.toNatClampNeg (cI C a0 2)) a1) r8 (Int32.toNatClampNeg (cI (uI C r4 (Int32.toNatClampNeg (cI C a0 2)) a1) a0 2)) a2) a0 2) &&& 31)))) a0 2) + (1 : Int32)))) else none else none) else none else none) else some ((), C))) else none
set_option maxRecDepth 20000 in
set_option maxHeartbeats 4000000 in
theorem t_92 {n : Nat} {a0 : Nat} {a1 : Int32} {a2 : Int32} {a3 : Int32} {C : AmC} {r : Unit} {C' : AmC} (h : f_92 n a0 a1 a2 a3 C = some (r, C')) : En false 92 0 [(0, .ref a0), (1, .int a1), (2, .int a2), (3, .int a3)] [] (mkM C) (.inl none) (mkM C') := by
  unfold f_92 at h
  refine en_aload rfl rfl ?_
  obtain ⟨g1, h⟩ := gd h
  refine ec_getI (ci := 6) (j := 2) ⟨rfl, rfl, rfl⟩ g1 rfl ?_
  rcases gi h with ⟨c2, h⟩ | ⟨c2, h⟩
  · refine en_if_lt_t c2 rfl ?_
    cases h
    exact en_vret rfl
  · refine en_if_lt_f c2 rfl ?_
    refine en_aload rfl rfl ?_
    refine ec_getI (ci := 6) (j := 2) ⟨rfl, rfl, rfl⟩ g1 rfl ?_
    refine ec_iconst cst_3 rfl ?_
    rcases gi h with ⟨c3, h⟩ | ⟨c3, h⟩
    · refine en_icmp_lt_t c3 rfl ?_
      refine en_aload rfl rfl ?_
      obtain ⟨r4, e5, h⟩ := gb h
      refine ec_getP (ci := 6) (j := 3) ⟨rfl, rfl, rfl⟩ g1 e5 rfl ?_
      refine en_aload rfl rfl ?_
      refine ec_getI (ci := 6) (j := 2) ⟨rfl, rfl, rfl⟩ g1 rfl ?_
      refine en_iload rfl rfl ?_
      obtain ⟨g6, h⟩ := gd h
      obtain ⟨g7, h⟩ := gd h
      refine ec_iastore g6 g7 rfl ?_
      refine en_aload rfl rfl ?_
      obtain ⟨r8, e9, h⟩ := gb h
      refine ec_getP (ci := 6) (j := 4) ⟨rfl, rfl, rfl⟩ g1 e9 rfl ?_
      refine en_aload rfl rfl ?_
      refine ec_getI (ci := 6) (j := 2) ⟨rfl, rfl, rfl⟩ g1 rfl ?_
      refine en_iload rfl rfl ?_
      obtain ⟨g10, h⟩ := gd h
      obtain ⟨g11, h⟩ := gd h
      refine ec_iastore g10 g11 rfl ?_
      refine en_iload rfl rfl ?_
      rcases gi h with ⟨c12, h⟩ | ⟨c12, h⟩
      · refine en_if_eq_t c12 rfl ?_
        refine en_aload rfl rfl ?_
        refine en_dup rfl rfl ?_
        refine ec_getI (ci := 6) (j := 2) ⟨rfl, rfl, rfl⟩ g1 rfl ?_
        refine ec_iconst cst_1 rfl ?_
        refine en_iadd rfl ?_
        refine ec_putI (ci := 6) (j := 2) ⟨rfl, rfl, rfl⟩ g1 rfl ?_
        cases h
        exact en_vret rfl
      · refine en_if_eq_f c12 rfl ?_
        refine en_aload rfl rfl ?_
        refine en_dup rfl rfl ?_
        refine ec_getI (ci := 6) (j := 5) ⟨rfl, rfl, rfl⟩ g1 rfl ?_
        refine ec_iconst cst_1 rfl ?_
        refine en_aload rfl rfl ?_
        refine ec_getI (ci := 6) (j := 2) ⟨rfl, rfl, rfl⟩ g1 rfl ?_
        refine en_ishl rfl ?_
        refine en_ior rfl ?_
        refine ec_putI (ci := 6) (j := 5) ⟨rfl, rfl, rfl⟩ g1 rfl ?_
        refine en_aload rfl rfl ?_
        refine en_dup rfl rfl ?_
        refine ec_getI (ci := 6) (j := 2) ⟨rfl, rfl, rfl⟩ g1 rfl ?_
        refine ec_iconst cst_1 rfl ?_
        refine en_iadd rfl ?_
        refine ec_putI (ci := 6) (j := 2) ⟨rfl, rfl, rfl⟩ g1 rfl ?_
        cases h
        exact en_vret rfl
    · refine en_icmp_lt_f c3 rfl ?_
      cases h
      exact en_vret rfl
/-- BulkWriter$Parser.readIndex(Z)Z -/
def f_32 (n : Nat) (a0 : Nat) (a1 : Int32) (C : AmC) : Option (Int32 × AmC) := if isK a0 2 = true then (cP C a0 5).bind (fun r2 => if isK r2 6 = true then (if (cI C r2 2) < (3 : Int32) then (f_31 n a0 (uI C a0 4 ((cI C a0 4) + (1 : Int32)))).bind (fun z => match z with | (q6, C7) => (if ¬ q6 = 0 then (f_23 n a0 C7).bind (fun z => match z with | (q10, C11) => (if ¬ q10 = (130 : Int32) then (f_23 n a0 C11).bind (fun z => match z with | (q14, C15) => (if q14 = (59 : Int32) then (cP C15 a0 5).bind (fun r18 => if isK r18 6 = true then (f_92 n r18 (cI C7 a0 8) (-1 : Int32) a1 C15).bind (fun z => match z with | (_, C22) => (cP C22 a0 5).bind (fun r24 => (cP C22 a0 5).bind (fun r26 => if isK r26 6 = true then (cP C22 r26 1).bind (fun r29 => if isK r24 6 = true then (f_107 n r24 r29 C22).bind (fun z => match z with | (q32, C33) => (if q32 = (-1 : Int32) then some ((1 : Int32), uI C33 a0 4 ((cI C33 a0 4) + (1 : Int32))) else (f_25 n a0 (4 : Int32) C33).bind (fun z => match z with | (q36, C37) => if q36 = 0 ∨ q36 = 1 then some (q36, C37) else none))) else none) else none))) else none) else (f_25 n a0 (1 : Int32) C15).bind (fun z => match z with | (q40, C41) => if q40 = 0 ∨ q40 = 1 then some (q40, C41) else none))) else (f_24 n a0 C11).bind (fun z => match z with | (q44, C45) => (if ¬ q44 = (cI C7 a0 8) then (f_31 n a0 C45).bind (fun z => match z with | (q48, C49) => (if ¬ q48 = 0 then (f_23 n a0 C49).bind (fun z => match z with | (q52, C53) => (if q52 = (59 : Int32) then (cP C53 a0 5).bind (fun r56 => if isK r56 6 = true then (f_92 n r56 (cI C7 a0 8) (cI C49 a0 8) a1 C53).bind (fun z => match z with | (_, C60) => (cP C60 a0 5).bind (fun r62 => (cP C60 a0 5).bind (fun r64 => if isK r64 6 = true then (cP C60 r64 1).bind (fun r67 => if isK r62 6 = true then (f_107 n r62 r67 C60).bind (fun z => match z with | (q70, C71) => (if q70 = (-1 : Int32) then some ((1 : Int32), uI C71 a0 4 ((cI C71 a0 4) + (1 : Int32))) else (f_25 n a0 (4 : Int32) C71).bind (fun z => match z with | (q74, C75) => if q74 = 0 ∨ q74 = 1 then some (q74, C75) else none))) else none) else none))) else none) else (f_25 n a0 (1 : Int32) C53).bind (fun z => match z with | (q78, C79) => if q78 = 0 ∨ q78 = 1 then some (q78, C79) else none))) else some ((0 : Int32), C49))) else (f_25 n a0 (3 : Int32) C45).bind (fun z => match z with | (q82, C83) => if q82 = 0 ∨ q82 = 1 then some (q82, C83) else none))))) else some ((0 : Int32), C7))) else (f_25 n a0 (2 : Int32) C).bind (fun z => match z with | (q86, C87) => if q86 = 0 ∨ q86 = 1 then some (q86, C87) else none)) else none) else none
set_option maxRecDepth 20000 in
set_option maxHeartbeats 4000000 in
theorem t_32 {n : Nat} {a0 : Nat} {a1 : Int32} {C : AmC} {r : Int32} {C' : AmC} (h : f_32 n a0 a1 C = some (r, C')) : En false 32 0 [(0, .ref a0), (1, .int a1)] [] (mkM C) (.inl (some (.int r))) (mkM C') := by
  unfold f_32 at h
  refine en_aload rfl rfl ?_
  obtain ⟨g1, h⟩ := gd h
  obtain ⟨r2, e3, h⟩ := gb h
  refine ec_getP (ci := 2) (j := 5) ⟨rfl, rfl, rfl⟩ g1 e3 rfl ?_
  obtain ⟨g4, h⟩ := gd h
  refine ec_getI (ci := 6) (j := 2) ⟨rfl, rfl, rfl⟩ g4 rfl ?_
  refine ec_iconst cst_3 rfl ?_
  rcases gi h with ⟨c5, h⟩ | ⟨c5, h⟩
  · refine en_icmp_lt_t c5 rfl ?_
    refine en_aload rfl rfl ?_
    refine en_dup rfl rfl ?_
    refine ec_getI (ci := 2) (j := 4) ⟨rfl, rfl, rfl⟩ g1 rfl ?_
    refine ec_iconst cst_1 rfl ?_
    refine en_iadd rfl ?_
    refine ec_putI (ci := 2) (j := 4) ⟨rfl, rfl, rfl⟩ g1 rfl ?_
    refine en_aload rfl rfl ?_
    obtain ⟨⟨q6, C7⟩, e8, h⟩ := gb h
    dsimp only at h
    refine ec_callV1 (k' := 31) (n := 1) (rc := 2) (a := a0) (as := []) ⟨rfl, rfl⟩ rfl rfl (Nat.le_of_ble_eq_true rfl) (Nat.le_of_ble_eq_true rfl) (Nat.le_of_ble_eq_true rfl) g1 rfl (t_31 e8) ?_
    rcases gi h with ⟨c9, h⟩ | ⟨c9, h⟩
    · refine en_if_ne_t c9 rfl ?_
      refine en_aload rfl rfl ?_
      refine ec_getI (ci := 2) (j := 8) ⟨rfl, rfl, rfl⟩ g1 rfl ?_
      refine en_istore (l' := [(2, .int (cI C7 a0 8)), (0, .ref a0), (1, .int a1)]) rfl rfl ?_
      refine ec_iconst cst_m1 rfl ?_
      refine en_istore (l' := [(3, .int (-1 : Int32)), (2, .int (cI C7 a0 8)), (0, .ref a0), (1, .int a1)]) rfl rfl ?_
      refine en_aload rfl rfl ?_
      obtain ⟨⟨q10, C11⟩, e12, h⟩ := gb h
      dsimp only at h
      refine ec_callV1 (k' := 23) (n := 1) (rc := 2) (a := a0) (as := []) ⟨rfl, rfl⟩ rfl rfl (Nat.le_of_ble_eq_true rfl) (Nat.le_of_ble_eq_true rfl) (Nat.le_of_ble_eq_true rfl) g1 rfl (t_23 e12) ?_
      refine ec_iconst cst_130 rfl ?_
      rcases gi h with ⟨c13, h⟩ | ⟨c13, h⟩
      · refine en_icmp_ne_t c13 rfl ?_
        refine en_aload rfl rfl ?_
        obtain ⟨⟨q14, C15⟩, e16, h⟩ := gb h
        dsimp only at h
        refine ec_callV1 (k' := 23) (n := 1) (rc := 2) (a := a0) (as := []) ⟨rfl, rfl⟩ rfl rfl (Nat.le_of_ble_eq_true rfl) (Nat.le_of_ble_eq_true rfl) (Nat.le_of_ble_eq_true rfl) g1 rfl (t_23 e16) ?_
        refine ec_iconst cst_59 rfl ?_
        rcases gi h with ⟨c17, h⟩ | ⟨c17, h⟩
        · refine en_icmp_eq_t c17 rfl ?_
          refine en_aload rfl rfl ?_
          obtain ⟨r18, e19, h⟩ := gb h
          refine ec_getP (ci := 2) (j := 5) ⟨rfl, rfl, rfl⟩ g1 e19 rfl ?_
          refine en_iload rfl rfl ?_
          refine en_iload rfl rfl ?_
          refine en_iload rfl rfl ?_
          obtain ⟨g20, h⟩ := gd h
          obtain ⟨⟨q21, C22⟩, e23, h⟩ := gb h
          dsimp only at h
          refine ec_callV0 (k' := 92) (n := 4) (rc := 6) (a := r18) (as := [.int (cI C7 a0 8), .int (-1 : Int32), .int a1]) ⟨rfl, rfl⟩ rfl rfl (Nat.le_of_ble_eq_true rfl) (Nat.le_of_ble_eq_true rfl) (Nat.le_of_ble_eq_true rfl) g20 rfl (t_92 e23) ?_
          refine en_aload rfl rfl ?_
          obtain ⟨r24, e25, h⟩ := gb h
          refine ec_getP (ci := 2) (j := 5) ⟨rfl, rfl, rfl⟩ g1 e25 rfl ?_
          refine en_aload rfl rfl ?_
          obtain ⟨r26, e27, h⟩ := gb h
          refine ec_getP (ci := 2) (j := 5) ⟨rfl, rfl, rfl⟩ g1 e27 rfl ?_
          obtain ⟨g28, h⟩ := gd h
          obtain ⟨r29, e30, h⟩ := gb h
          refine ec_getP (ci := 6) (j := 1) ⟨rfl, rfl, rfl⟩ g28 e30 rfl ?_
          obtain ⟨g31, h⟩ := gd h
          obtain ⟨⟨q32, C33⟩, e34, h⟩ := gb h
          dsimp only at h
          refine ec_callV1 (k' := 107) (n := 2) (rc := 6) (a := r24) (as := [.ref r29]) ⟨rfl, rfl⟩ rfl rfl (Nat.le_of_ble_eq_true rfl) (Nat.le_of_ble_eq_true rfl) (Nat.le_of_ble_eq_true rfl) g31 rfl (t_107 e34) ?_
          refine ec_iconst cst_m1 rfl ?_
          rcases gi h with ⟨c35, h⟩ | ⟨c35, h⟩
          · refine en_icmp_eq_t c35 rfl ?_
            refine en_aload rfl rfl ?_
            refine en_dup rfl rfl ?_
            refine ec_getI (ci := 2) (j := 4) ⟨rfl, rfl, rfl⟩ g1 rfl ?_
            refine ec_iconst cst_1 rfl ?_
            refine en_iadd rfl ?_
            refine ec_putI (ci := 2) (j := 4) ⟨rfl, rfl, rfl⟩ g1 rfl ?_
            refine ec_iconst cst_1 rfl ?_
            cases h
            exact en_zret (Or.inr rfl) rfl
          · refine en_icmp_eq_f c35 rfl ?_
            refine en_aload rfl rfl ?_
            refine ec_iconst cst_4 rfl ?_
            obtain ⟨⟨q36, C37⟩, e38, h⟩ := gb h
            dsimp only at h
            refine ec_callV1 (k' := 25) (n := 2) (rc := 2) (a := a0) (as := [.int (4 : Int32)]) ⟨rfl, rfl⟩ rfl rfl (Nat.le_of_ble_eq_true rfl) (Nat.le_of_ble_eq_true rfl) (Nat.le_of_ble_eq_true rfl) g1 rfl (t_25 e38) ?_
            obtain ⟨g39, h⟩ := gd h
            cases h
            exact en_zret g39 rfl
        · refine en_icmp_eq_f c17 rfl ?_
          refine en_aload rfl rfl ?_
          refine ec_iconst cst_1 rfl ?_
          obtain ⟨⟨q40, C41⟩, e42, h⟩ := gb h
          dsimp only at h
          refine ec_callV1 (k' := 25) (n := 2) (rc := 2) (a := a0) (as := [.int (1 : Int32)]) ⟨rfl, rfl⟩ rfl rfl (Nat.le_of_ble_eq_true rfl) (Nat.le_of_ble_eq_true rfl) (Nat.le_of_ble_eq_true rfl) g1 rfl (t_25 e42) ?_
          obtain ⟨g43, h⟩ := gd h
          cases h
          exact en_zret g43 rfl
      · refine en_icmp_ne_f c13 rfl ?_
        refine en_aload rfl rfl ?_
        obtain ⟨⟨q44, C45⟩, e46, h⟩ := gb h
        dsimp only at h
        refine ec_callV1 (k' := 24) (n := 1) (rc := 2) (a := a0) (as := []) ⟨rfl, rfl⟩ rfl rfl (Nat.le_of_ble_eq_true rfl) (Nat.le_of_ble_eq_true rfl) (Nat.le_of_ble_eq_true rfl) g1 rfl (t_24 e46) ?_
        refine en_iload rfl rfl ?_
        rcases gi h with ⟨c47, h⟩ | ⟨c47, h⟩
        · refine en_icmp_ne_t c47 rfl ?_
          refine en_aload rfl rfl ?_
          obtain ⟨⟨q48, C49⟩, e50, h⟩ := gb h
          dsimp only at h
          refine ec_callV1 (k' := 31) (n := 1) (rc := 2) (a := a0) (as := []) ⟨rfl, rfl⟩ rfl rfl (Nat.le_of_ble_eq_true rfl) (Nat.le_of_ble_eq_true rfl) (Nat.le_of_ble_eq_true rfl) g1 rfl (t_31 e50) ?_
          rcases gi h with ⟨c51, h⟩ | ⟨c51, h⟩
          · refine en_if_ne_t c51 rfl ?_
            refine en_aload rfl rfl ?_
            refine ec_getI (ci := 2) (j := 8) ⟨rfl, rfl, rfl⟩ g1 rfl ?_
            refine en_istore (l' := [(3, .int (cI C49 a0 8)), (2, .int (cI C7 a0 8)), (0, .ref a0), (1, .int a1)]) rfl rfl ?_
            refine en_aload rfl rfl ?_
            obtain ⟨⟨q52, C53⟩, e54, h⟩ := gb h
            dsimp only at h
            refine ec_callV1 (k' := 23) (n := 1) (rc := 2) (a := a0) (as := []) ⟨rfl, rfl⟩ rfl rfl (Nat.le_of_ble_eq_true rfl) (Nat.le_of_ble_eq_true rfl) (Nat.le_of_ble_eq_true rfl) g1 rfl (t_23 e54) ?_
            refine ec_iconst cst_59 rfl ?_
            rcases gi h with ⟨c55, h⟩ | ⟨c55, h⟩
            · refine en_icmp_eq_t c55 rfl ?_
              refine en_aload rfl rfl ?_
              obtain ⟨r56, e57, h⟩ := gb h
              refine ec_getP (ci := 2) (j := 5) ⟨rfl, rfl, rfl⟩ g1 e57 rfl ?_
              refine en_iload rfl rfl ?_
              refine en_iload rfl rfl ?_
              refine en_iload rfl rfl ?_
              obtain ⟨g58, h⟩ := gd h
              obtain ⟨⟨q59, C60⟩, e61, h⟩ := gb h
              dsimp only at h
              refine ec_callV0 (k' := 92) (n := 4) (rc := 6) (a := r56) (as := [.int (cI C7 a0 8), .int (cI C49 a0 8), .int a1]) ⟨rfl, rfl⟩ rfl rfl (Nat.le_of_ble_eq_true rfl) (Nat.le_of_ble_eq_true rfl) (Nat.le_of_ble_eq_true rfl) g58 rfl (t_92 e61) ?_
              refine en_aload rfl rfl ?_
              obtain ⟨r62, e63, h⟩ := gb h
              refine ec_getP (ci := 2) (j := 5) ⟨rfl, rfl, rfl⟩ g1 e63 rfl ?_
              refine en_aload rfl rfl ?_
              obtain ⟨r64, e65, h⟩ := gb h
              refine ec_getP (ci := 2) (j := 5) ⟨rfl, rfl, rfl⟩ g1 e65 rfl ?_
              obtain ⟨g66, h⟩ := gd h
              obtain ⟨r67, e68, h⟩ := gb h
              refine ec_getP (ci := 6) (j := 1) ⟨rfl, rfl, rfl⟩ g66 e68 rfl ?_
              obtain ⟨g69, h⟩ := gd h
              obtain ⟨⟨q70, C71⟩, e72, h⟩ := gb h
              dsimp only at h
              refine ec_callV1 (k' := 107) (n := 2) (rc := 6) (a := r62) (as := [.ref r67]) ⟨rfl, rfl⟩ rfl rfl (Nat.le_of_ble_eq_true rfl) (Nat.le_of_ble_eq_true rfl) (Nat.le_of_ble_eq_true rfl) g69 rfl (t_107 e72) ?_
              refine ec_iconst cst_m1 rfl ?_
              rcases gi h with ⟨c73, h⟩ | ⟨c73, h⟩
              · refine en_icmp_eq_t c73 rfl ?_
                refine en_aload rfl rfl ?_
                refine en_dup rfl rfl ?_
                refine ec_getI (ci := 2) (j := 4) ⟨rfl, rfl, rfl⟩ g1 rfl ?_
                refine ec_iconst cst_1 rfl ?_
                refine en_iadd rfl ?_
                refine ec_putI (ci := 2) (j := 4) ⟨rfl, rfl, rfl⟩ g1 rfl ?_
                refine ec_iconst cst_1 rfl ?_
                cases h
                exact en_zret (Or.inr rfl) rfl
              · refine en_icmp_eq_f c73 rfl ?_
                refine en_aload rfl rfl ?_
                refine ec_iconst cst_4 rfl ?_
                obtain ⟨⟨q74, C75⟩, e76, h⟩ := gb h
                dsimp only at h
                refine ec_callV1 (k' := 25) (n := 2) (rc := 2) (a := a0) (as := [.int (4 : Int32)]) ⟨rfl, rfl⟩ rfl rfl (Nat.le_of_ble_eq_true rfl) (Nat.le_of_ble_eq_true rfl) (Nat.le_of_ble_eq_true rfl) g1 rfl (t_25 e76) ?_
                obtain ⟨g77, h⟩ := gd h
                cases h
                exact en_zret g77 rfl
            · refine en_icmp_eq_f c55 rfl ?_
              refine en_aload rfl rfl ?_
              refine ec_iconst cst_1 rfl ?_
              obtain ⟨⟨q78, C79⟩, e80, h⟩ := gb h
              dsimp only at h
              refine ec_callV1 (k' := 25) (n := 2) (rc := 2) (a := a0) (as := [.int (1 : Int32)]) ⟨rfl, rfl⟩ rfl rfl (Nat.le_of_ble_eq_true rfl) (Nat.le_of_ble_eq_true rfl) (Nat.le_of_ble_eq_true rfl) g1 rfl (t_25 e80) ?_
              obtain ⟨g81, h⟩ := gd h
              cases h
              exact en_zret g81 rfl
          · refine en_if_ne_f c51 rfl ?_
            refine ec_iconst cst_0 rfl ?_
            cases h
            exact en_zret (Or.inl rfl) rfl
        · refine en_icmp_ne_f c47 rfl ?_
          refine en_aload rfl rfl ?_
          refine ec_iconst cst_3 rfl ?_
          obtain ⟨⟨q82, C83⟩, e84, h⟩ := gb h
          dsimp only at h
          refine ec_callV1 (k' := 25) (n := 2) (rc := 2) (a := a0) (as := [.int (3 : Int32)]) ⟨rfl, rfl⟩ rfl rfl (Nat.le_of_ble_eq_true rfl) (Nat.le_of_ble_eq_true rfl) (Nat.le_of_ble_eq_true rfl) g1 rfl (t_25 e84) ?_
          obtain ⟨g85, h⟩ := gd h
          cases h
          exact en_zret g85 rfl
    · refine en_if_ne_f c9 rfl ?_
      refine ec_iconst cst_0 rfl ?_
      cases h
      exact en_zret (Or.inl rfl) rfl
  · refine en_icmp_lt_f c5 rfl ?_
    refine en_aload rfl rfl ?_
    refine ec_iconst cst_2 rfl ?_
    obtain ⟨⟨q86, C87⟩, e88, h⟩ := gb h
    dsimp only at h
    refine ec_callV1 (k' := 25) (n := 2) (rc := 2) (a := a0) (as := [.int (2 : Int32)]) ⟨rfl, rfl⟩ rfl rfl (Nat.le_of_ble_eq_true rfl) (Nat.le_of_ble_eq_true rfl) (Nat.le_of_ble_eq_true rfl) g1 rfl (t_25 e88) ?_
    obtain ⟨g89, h⟩ := gd h
    cases h
    exact en_zret g89 rfl
/-- BulkWriter$Script.statement(I)LBulkWriter$Statement; -/
def f_90 (n : Nat) (a0 : Nat) (a1 : Int32) (C : AmC) : Option (Nat × AmC) := (if a1 < 0 then if isK a0 6 = true then (cP C a0 10).bind (fun r3 => some (r3, C)) else none else (if (8 : Int32) ≤ a1 then if isK a0 6 = true then (cP C a0 10).bind (fun r7 => some (r7, C)) else none else if isK a0 6 = true then (cP C a0 9).bind (fun r10 => if isK r10 15 = true then if amIn a1 (aLen r10) = true then (cP C r10 (Int32.toNatClampNeg a1)).bind (fun r14 => some (r14, C)) else none else none) else none))
set_option maxRecDepth 20000 in
set_option maxHeartbeats 4000000 in
theorem t_90 {n : Nat} {a0 : Nat} {a1 : Int32} {C : AmC} {r : Nat} {C' : AmC} (h : f_90 n a0 a1 C = some (r, C')) : En false 90 0 [(0, .ref a0), (1, .int a1)] [] (mkM C) (.inl (some (.ref r))) (mkM C') := by
  unfold f_90 at h
  refine en_iload rfl rfl ?_
  rcases gi h with ⟨c1, h⟩ | ⟨c1, h⟩
  · refine en_if_lt_t c1 rfl ?_
    refine en_aload rfl rfl ?_
    obtain ⟨g2, h⟩ := gd h
    obtain ⟨r3, e4, h⟩ := gb h
    refine ec_getP (ci := 6) (j := 10) ⟨rfl, rfl, rfl⟩ g2 e4 rfl ?_
    cases h
    exact en_aret rfl
  · refine en_if_lt_f c1 rfl ?_
    refine en_iload rfl rfl ?_
    refine ec_iconst cst_8 rfl ?_
    rcases gi h with ⟨c5, h⟩ | ⟨c5, h⟩
    · refine en_icmp_ge_t c5 rfl ?_
      refine en_aload rfl rfl ?_
      obtain ⟨g6, h⟩ := gd h
      obtain ⟨r7, e8, h⟩ := gb h
      refine ec_getP (ci := 6) (j := 10) ⟨rfl, rfl, rfl⟩ g6 e8 rfl ?_
      cases h
      exact en_aret rfl
    · refine en_icmp_ge_f c5 rfl ?_
      refine en_aload rfl rfl ?_
      obtain ⟨g9, h⟩ := gd h
      obtain ⟨r10, e11, h⟩ := gb h
      refine ec_getP (ci := 6) (j := 9) ⟨rfl, rfl, rfl⟩ g9 e11 rfl ?_
      refine en_iload rfl rfl ?_
      obtain ⟨g12, h⟩ := gd h
      obtain ⟨g13, h⟩ := gd h
      obtain ⟨r14, e15, h⟩ := gb h
      refine ec_aaload g12 (by decide) g13 e15 rfl ?_
      refine en_goto rfl ?_
      cases h
      exact en_aret rfl
def lp_114_17 : Nat → Nat → Int32 → Int32 → AmC → Option (((Nat × Int32)) × AmC)
  | 0, _, _, _, _ => none
  | n + 1, p0, p1, p2, C => (if (4 : Int32) ≤ p2 then some ((p0, p1), C) else if isK p0 8 = true then (cP C p0 5).bind (fun r4 => if isK r4 12 = true then if amIn p2 (aLen r4) = true then (cP (uI C r4 (Int32.toNatClampNeg p2) (-1 : Int32)) p0 6).bind (fun r8 => if isK r8 12 = true then if amIn p2 (aLen r8) = true then lp_114_17 n p0 p1 (p2 + (1 : Int32)) (uI (uI C r4 (Int32.toNatClampNeg p2) (-1 : Int32)) r8 (Int32.toNatClampNeg p2) (-1 : Int32)) else none else none) else none else none) else none)
set_option maxRecDepth 20000 in
set_option maxHeartbeats 4000000 in
theorem lt_114_17 : ∀ (n : Nat) (p0 : Nat) (p1 : Int32) (p2 : Int32) (C : AmC) (r : ((Nat × Int32)) × AmC), lp_114_17 n p0 p1 p2 C = some r → ∀ (o : AmO) (M' : AmM), (match r with
        | ((w0, w1), C') => En false 114 32 [(0, .ref w0), (1, .int w1)] [] (mkM C') o M') → En false 114 17 [(0, .ref p0), (1, .int p1), (2, .int p2)] [] (mkM C) o M' := by
  intro n
  induction n with
  | zero => intro p0 p1 p2 C r h; cases h
  | succ n ih =>
    intro p0 p1 p2 C r h o M' hk
    unfold lp_114_17 at h
    refine en_iload rfl rfl ?_
    refine ec_iconst cst_4 rfl ?_
    rcases gi h with ⟨c2, h⟩ | ⟨c2, h⟩
    · refine en_icmp_ge_t c2 rfl ?_
      cases h
      exact en_sub [0, 1] rfl rfl hk
    · refine en_icmp_ge_f c2 rfl ?_
      refine en_aload rfl rfl ?_
      obtain ⟨g3, h⟩ := gd h
      obtain ⟨r4, e5, h⟩ := gb h
      refine ec_getP (ci := 8) (j := 5) ⟨rfl, rfl, rfl⟩ g3 e5 rfl ?_
      refine en_iload rfl rfl ?_
      refine ec_iconst cst_m1 rfl ?_
      obtain ⟨g6, h⟩ := gd h
      obtain ⟨g7, h⟩ := gd h
      refine ec_iastore g6 g7 rfl ?_
      refine en_aload rfl rfl ?_
      obtain ⟨r8, e9, h⟩ := gb h
      refine ec_getP (ci := 8) (j := 6) ⟨rfl, rfl, rfl⟩ g3 e9 rfl ?_
      refine en_iload rfl rfl ?_
      refine ec_iconst cst_m1 rfl ?_
      obtain ⟨g10, h⟩ := gd h
      obtain ⟨g11, h⟩ := gd h
      refine ec_iastore g10 g11 rfl ?_
      refine ec_iinc (l' := [(2, .int (p2 + (1 : Int32))), (0, .ref p0), (1, .int p1)]) rfl cst_1 rfl rfl ?_
      refine en_goto rfl ?_
      refine en_sub [1, 2, 0] rfl rfl ?_
      exact ih _ _ _ _ _ h o M' hk
/-- BulkWriter$Statement.empty(I)V -/
def f_114 (n : Nat) (a0 : Nat) (a1 : Int32) (C : AmC) : Option (Unit × AmC) := if isK a0 8 = true then (lp_114_17 n a0 a1 (0 : Int32) (uI (uI (uI (uI (uI C a0 0 (0 : Int32)) a0 1 (0 : Int32)) a0 2 (0 : Int32)) a0 3 (0 : Int32)) a0 4 (0 : Int32))).bind (fun q => match q with | ((u15, u16), C14) => if isK u15 8 = true then some ((), uI (uI C14 u15 7 u16) u15 8 (0 : Int32)) else none) else none
set_option maxRecDepth 20000 in
set_option maxHeartbeats 4000000 in
theorem t_114 {n : Nat} {a0 : Nat} {a1 : Int32} {C : AmC} {r : Unit} {C' : AmC} (h : f_114 n a0 a1 C = some (r, C')) : En false 114 0 [(0, .ref a0), (1, .int a1)] [] (mkM C) (.inl none) (mkM C') := by
  unfold f_114 at h
  refine en_aload rfl rfl ?_
  refine ec_iconst cst_0 rfl ?_
  obtain ⟨g1, h⟩ := gd h
  refine ec_putZ (ci := 8) (j := 0) ⟨rfl, rfl, rfl⟩ g1 (Or.inl rfl) rfl ?_
  refine en_aload rfl rfl ?_
  refine ec_iconst cst_0 rfl ?_
  refine ec_putZ (ci := 8) (j := 1) ⟨rfl, rfl, rfl⟩ g1 (Or.inl rfl) rfl ?_
  refine en_aload rfl rfl ?_
  refine ec_iconst cst_0 rfl ?_
  refine ec_putI (ci := 8) (j := 2) ⟨rfl, rfl, rfl⟩ g1 rfl ?_
  refine en_aload rfl rfl ?_
  refine ec_iconst cst_0 rfl ?_
  refine ec_putI (ci := 8) (j := 3) ⟨rfl, rfl, rfl⟩ g1 rfl ?_
  refine en_aload rfl rfl ?_
  refine ec_iconst cst_0 rfl ?_
  refine ec_putI (ci := 8) (j := 4) ⟨rfl, rfl, rfl⟩ g1 rfl ?_
  refine ec_iconst cst_0 rfl ?_
  refine en_istore (l' := [(2, .int (0 : Int32)), (0, .ref a0), (1, .int a1)]) rfl rfl ?_
  obtain ⟨⟨q12, C14⟩, e13, h⟩ := gb h
  refine en_sub [1, 2, 0] rfl rfl (lt_114_17 n _ _ _ _ _ e13 _ _ ?_)
  obtain ⟨u15, u16⟩ := q12
  dsimp only at h ⊢
  refine en_aload rfl rfl ?_
  refine en_iload rfl rfl ?_
  obtain ⟨g17, h⟩ := gd h
  refine ec_putI (ci := 8) (j := 7) ⟨rfl, rfl, rfl⟩ g17 rfl ?_
  refine en_aload rfl rfl ?_
  refine ec_iconst cst_0 rfl ?_
  refine ec_putI (ci := 8) (j := 8) ⟨rfl, rfl, rfl⟩ g17 rfl ?_
  cases h
  exact en_vret rfl
/-- BulkWriter$Script.addStatement()LBulkWriter$Statement; -/
def f_91 (n : Nat) (a0 : Nat) (C : AmC) : Option (Nat × AmC) := if isK a0 6 = true then (f_90 n a0 (cI C a0 8) C).bind (fun z => match z with | (q2, C3) => if isK q2 8 = true then (f_114 n q2 (cI C3 a0 17) C3).bind (fun z => match z with | (_, C7) => some (q2, uI C7 a0 8 ((cI C7 a0 8) + (1 : Int32)))) else none) else none
set_option maxRecDepth 20000 in
set_option maxHeartbeats 4000000 in
theorem t_91 {n : Nat} {a0 : Nat} {C : AmC} {r : Nat} {C' : AmC} (h : f_91 n a0 C = some (r, C')) : En false 91 0 [(0, .ref a0)] [] (mkM C) (.inl (some (.ref r))) (mkM C') := by
  unfold f_91 at h
  refine en_aload rfl rfl ?_
  refine en_aload rfl rfl ?_
  obtain ⟨g1, h⟩ := gd h
  refine ec_getI (ci := 6) (j := 8) ⟨rfl, rfl, rfl⟩ g1 rfl ?_
  obtain ⟨⟨q2, C3⟩, e4, h⟩ := gb h
  dsimp only at h
  refine ec_callV1 (k' := 90) (n := 2) (rc := 6) (a := a0) (as := [.int (cI C a0 8)]) ⟨rfl, rfl⟩ rfl rfl (Nat.le_of_ble_eq_true rfl) (Nat.le_of_ble_eq_true rfl) (Nat.le_of_ble_eq_true rfl) g1 rfl (t_90 e4) ?_
  refine en_astore (l' := [(1, .ref q2), (0, .ref a0)]) rfl rfl ?_
  refine en_aload rfl rfl ?_
  refine en_aload rfl rfl ?_
  refine ec_getI (ci := 6) (j := 17) ⟨rfl, rfl, rfl⟩ g1 rfl ?_
  obtain ⟨g5, h⟩ := gd h
  obtain ⟨⟨q6, C7⟩, e8, h⟩ := gb h
  dsimp only at h
  refine ec_callV0 (k' := 114) (n := 2) (rc := 8) (a := q2) (as := [.int (cI C3 a0 17)]) ⟨rfl, rfl⟩ rfl rfl (Nat.le_of_ble_eq_true rfl) (Nat.le_of_ble_eq_true rfl) (Nat.le_of_ble_eq_true rfl) g5 rfl (t_114 e8) ?_
  refine en_aload rfl rfl ?_
  refine en_dup rfl rfl ?_
  refine ec_getI (ci := 6) (j := 8) ⟨rfl, rfl, rfl⟩ g1 rfl ?_
  refine ec_iconst cst_1 rfl ?_
  refine en_iadd rfl ?_
  refine ec_putI (ci := 6) (j := 8) ⟨rfl, rfl, rfl⟩ g1 rfl ?_
  refine en_aload rfl rfl ?_
  cases h
  exact en_aret rfl
/-- BulkWriter$Parser.allow(ZZ)V -/
def f_38 (n : Nat) (a0 : Nat) (a1 : Int32) (a2 : Int32) (C : AmC) : Option (Unit × AmC) := if isK a0 2 = true then if a1 = 0 ∨ a1 = 1 then if a2 = 0 ∨ a2 = 1 then some ((), uI (uI C a0 11 a1) a0 12 a2) else none else none else none
set_option maxRecDepth 20000 in
set_option maxHeartbeats 4000000 in
theorem t_38 {n : Nat} {a0 : Nat} {a1 : Int32} {a2 : Int32} {C : AmC} {r : Unit} {C' : AmC} (h : f_38 n a0 a1 a2 C = some (r, C')) : En false 38 0 [(0, .ref a0), (1, .int a1), (2, .int a2)] [] (mkM C) (.inl none) (mkM C') := by
  unfold f_38 at h
  refine en_aload rfl rfl ?_
  refine en_iload rfl rfl ?_
  obtain ⟨g1, h⟩ := gd h
  obtain ⟨g2, h⟩ := gd h
  refine ec_putZ (ci := 2) (j := 11) ⟨rfl, rfl, rfl⟩ g1 g2 rfl ?_
  refine en_aload rfl rfl ?_
  refine en_iload rfl rfl ?_
  obtain ⟨g3, h⟩ := gd h
  refine ec_putZ (ci := 2) (j := 12) ⟨rfl, rfl, rfl⟩ g1 g3 rfl ?_
  cases h
  exact en_vret rfl
/-- BulkWriter$Parser.begin(I)LBulkWriter$Statement; -/
def f_33 (n : Nat) (a0 : Nat) (a1 : Int32) (C : AmC) : Option (Nat × AmC) := if isK a0 2 = true then (cP (uI C a0 4 ((cI C a0 4) + (1 : Int32))) a0 5).bind (fun r2 => if isK r2 6 = true then (f_91 n r2 (uI C a0 4 ((cI C a0 4) + (1 : Int32)))).bind (fun z => match z with | (q5, C6) => if isK q5 8 = true then (f_38 n a0 (0 : Int32) (1 : Int32) (uI C6 q5 2 a1)).bind (fun z => match z with | (_, C10) => some (q5, C10)) else none) else none) else none
set_option maxRecDepth 20000 in
set_option maxHeartbeats 4000000 in
theorem t_33 {n : Nat} {a0 : Nat} {a1 : Int32} {C : AmC} {r : Nat} {C' : AmC} (h : f_33 n a0 a1 C = some (r, C')) : En false 33 0 [(0, .ref a0), (1, .int a1)] [] (mkM C) (.inl (some (.ref r))) (mkM C') := by
  unfold f_33 at h
  refine en_aload rfl rfl ?_
  refine en_dup rfl rfl ?_
  obtain ⟨g1, h⟩ := gd h
  refine ec_getI (ci := 2) (j := 4) ⟨rfl, rfl, rfl⟩ g1 rfl ?_
  refine ec_iconst cst_1 rfl ?_
  refine en_iadd rfl ?_
  refine ec_putI (ci := 2) (j := 4) ⟨rfl, rfl, rfl⟩ g1 rfl ?_
  refine en_aload rfl rfl ?_
  obtain ⟨r2, e3, h⟩ := gb h
  refine ec_getP (ci := 2) (j := 5) ⟨rfl, rfl, rfl⟩ g1 e3 rfl ?_
  obtain ⟨g4, h⟩ := gd h
  obtain ⟨⟨q5, C6⟩, e7, h⟩ := gb h
  dsimp only at h
  refine ec_callV1 (k' := 91) (n := 1) (rc := 6) (a := r2) (as := []) ⟨rfl, rfl⟩ rfl rfl (Nat.le_of_ble_eq_true rfl) (Nat.le_of_ble_eq_true rfl) (Nat.le_of_ble_eq_true rfl) g4 rfl (t_91 e7) ?_
  refine en_astore (l' := [(2, .ref q5), (0, .ref a0), (1, .int a1)]) rfl rfl ?_
  refine en_aload rfl rfl ?_
  refine en_iload rfl rfl ?_
  obtain ⟨g8, h⟩ := gd h
  refine ec_putI (ci := 8) (j := 2) ⟨rfl, rfl, rfl⟩ g8 rfl ?_
  refine en_aload rfl rfl ?_
  refine ec_iconst cst_0 rfl ?_
  refine ec_iconst cst_1 rfl ?_
  obtain ⟨⟨q9, C10⟩, e11, h⟩ := gb h
  dsimp only at h
  refine ec_callV0 (k' := 38) (n := 3) (rc := 2) (a := a0) (as := [.int (0 : Int32), .int (1 : Int32)]) ⟨rfl, rfl⟩ rfl rfl (Nat.le_of_ble_eq_true rfl) (Nat.le_of_ble_eq_true rfl) (Nat.le_of_ble_eq_true rfl) g1 rfl (t_38 e11) ?_
  refine en_aload rfl rfl ?_
  cases h
  exact en_aret rfl
/-- BulkWriter$Statement.isSet(I)Z -/
def f_115 (n : Nat) (a0 : Nat) (a1 : Int32) (C : AmC) : Option (Int32 × AmC) := (if a1 < 0 then some ((0 : Int32), C) else (if (4 : Int32) ≤ a1 then some ((0 : Int32), C) else if isK a0 8 = true then (cP C a0 5).bind (fun r4 => if isK r4 12 = true then if amIn a1 (aLen r4) = true then (if (cI C r4 (Int32.toNatClampNeg a1)) = (-1 : Int32) then some ((0 : Int32), C) else some ((1 : Int32), C)) else none else none) else none))
set_option maxRecDepth 20000 in
set_option maxHeartbeats 4000000 in
theorem t_115 {n : Nat} {a0 : Nat} {a1 : Int32} {C : AmC} {r : Int32} {C' : AmC} (h : f_115 n a0 a1 C = some (r, C')) : En false 115 0 [(0, .ref a0), (1, .int a1)] [] (mkM C) (.inl (some (.int r))) (mkM C') := by
  unfold f_115 at h
  refine en_iload rfl rfl ?_
  rcases gi h with ⟨c1, h⟩ | ⟨c1, h⟩
  · refine en_if_lt_t c1 rfl ?_
    refine ec_iconst cst_0 rfl ?_
    cases h
    exact en_zret (Or.inl rfl) rfl
  · refine en_if_lt_f c1 rfl ?_
    refine en_iload rfl rfl ?_
    refine ec_iconst cst_4 rfl ?_
    rcases gi h with ⟨c2, h⟩ | ⟨c2, h⟩
    · refine en_icmp_ge_t c2 rfl ?_
      refine ec_iconst cst_0 rfl ?_
      cases h
      exact en_zret (Or.inl rfl) rfl
    · refine en_icmp_ge_f c2 rfl ?_
      refine en_aload rfl rfl ?_
      obtain ⟨g3, h⟩ := gd h
      obtain ⟨r4, e5, h⟩ := gb h
      refine ec_getP (ci := 8) (j := 5) ⟨rfl, rfl, rfl⟩ g3 e5 rfl ?_
      refine en_iload rfl rfl ?_
      obtain ⟨g6, h⟩ := gd h
      obtain ⟨g7, h⟩ := gd h
      refine ec_iaload g6 g7 rfl ?_
      refine ec_iconst cst_m1 rfl ?_
      rcases gi h with ⟨c8, h⟩ | ⟨c8, h⟩
      · refine en_icmp_eq_t c8 rfl ?_
        refine ec_iconst cst_0 rfl ?_
        cases h
        exact en_zret (Or.inl rfl) rfl
      · refine en_icmp_eq_f c8 rfl ?_
        refine ec_iconst cst_1 rfl ?_
        refine en_goto rfl ?_
        cases h
        exact en_zret (Or.inr rfl) rfl
/-- BulkWriter$Script.addAtom(III)Z -/
def f_97 (n : Nat) (a0 : Nat) (a1 : Int32) (a2 : Int32) (a3 : Int32) (C : AmC) : Option (Int32 × AmC) := if isK a0 6 = true then (if (cI C a0 11) < 0 then some ((0 : Int32), C) else (if (cI C a0 11) < (450 : Int32) then (cP C a0 12).bind (fun r4 => if isK r4 12 = true then if amIn (cI C a0 11) (aLen r4) = true then (cP (uI C r4 (Int32.toNatClampNeg (cI C a0 11)) a1) a0 13).bind (fun r8 => if isK r8 12 = true then if amIn (cI (uI C r4 (Int32.toNatClampNeg (cI C a0 11)) a1) a0 11) (aLen r8) = true then (cP (uI (uI C r4 (Int32.toNatClampNeg (cI C a0 11)) a1) r8 (Int32.toNatClampNeg (cI (uI C r4 (Int32.toNatClampNeg (cI C a0 11)) a1) a0 11)) a2) a0 14).bind (fun r12 => if isK r12 12 = true then if amIn (cI (uI (uI C r4 (Int32.toNatClampNeg (cI C a0 11)) a1) r8 (Int32.toNatClampNeg (cI (uI C r4 (Int32.toNatClampNeg (cI C a0 11)) a1) a0 11)) a2) a0 11) (aLen r12) = true then some ((1 : Int32), uI (uI (uI (uI C r4 (Int32.toNatClampNeg (cI C a0 11)) a1) r8 (Int32.toNatClampNeg (cI (uI C r4 (Int32.toNatClampNeg (cI C a0 11)) a1) a0 11)) a2) r12 (Int32.toNatClampNeg (cI (uI (uI C r4 (Int32.toNatClampNeg (cI C a0 11)) a1) r8 (Int32.toNatClampNeg (cI (uI C r4 (Int32.toNatClampNeg (cI C a0 11)) a1) a0 11)) a2) a0 11)) a3) a0 11 ((cI (uI (uI (uI C r4 (Int32.toNatClampNeg (cI C a0 11)) a1) r8 (Int32.toNatClampNeg (cI (uI C r4 (Int32.toNatClampNeg (cI C a0 11)) a1) a0 11)) a2) r12 (Int32.toNatClampNeg (cI (uI (uI C r4 (Int32.toNatClampNeg (cI C a0 11)) a1) r8 (Int32.toNatClampNeg (cI (uI C r4 (Int32.toNatClampNeg (cI C a0 11)) a1) a0 11)) a2) a0 11)) a3) a0 11) + (1 : Int32))) else none else none) else none else none) else none else none) else some ((0 : Int32), C))) else none
set_option maxRecDepth 20000 in
set_option maxHeartbeats 4000000 in
theorem t_97 {n : Nat} {a0 : Nat} {a1 : Int32} {a2 : Int32} {a3 : Int32} {C : AmC} {r : Int32} {C' : AmC} (h : f_97 n a0 a1 a2 a3 C = some (r, C')) : En false 97 0 [(0, .ref a0), (1, .int a1), (2, .int a2), (3, .int a3)] [] (mkM C) (.inl (some (.int r))) (mkM C') := by
  unfold f_97 at h
  refine en_aload rfl rfl ?_
  obtain ⟨g1, h⟩ := gd h
  refine ec_getI (ci := 6) (j := 11) ⟨rfl, rfl, rfl⟩ g1 rfl ?_
  rcases gi h with ⟨c2, h⟩ | ⟨c2, h⟩
  · refine en_if_lt_t c2 rfl ?_
    refine ec_iconst cst_0 rfl ?_
    cases h
    exact en_zret (Or.inl rfl) rfl
  · refine en_if_lt_f c2 rfl ?_
    refine en_aload rfl rfl ?_
    refine ec_getI (ci := 6) (j := 11) ⟨rfl, rfl, rfl⟩ g1 rfl ?_
    refine ec_iconst cst_450 rfl ?_
    rcases gi h with ⟨c3, h⟩ | ⟨c3, h⟩
    · refine en_icmp_lt_t c3 rfl ?_
      refine en_aload rfl rfl ?_
      obtain ⟨r4, e5, h⟩ := gb h
      refine ec_getP (ci := 6) (j := 12) ⟨rfl, rfl, rfl⟩ g1 e5 rfl ?_
      refine en_aload rfl rfl ?_
      refine ec_getI (ci := 6) (j := 11) ⟨rfl, rfl, rfl⟩ g1 rfl ?_
      refine en_iload rfl rfl ?_
      obtain ⟨g6, h⟩ := gd h
      obtain ⟨g7, h⟩ := gd h
      refine ec_iastore g6 g7 rfl ?_
      refine en_aload rfl rfl ?_
      obtain ⟨r8, e9, h⟩ := gb h
      refine ec_getP (ci := 6) (j := 13) ⟨rfl, rfl, rfl⟩ g1 e9 rfl ?_
      refine en_aload rfl rfl ?_
      refine ec_getI (ci := 6) (j := 11) ⟨rfl, rfl, rfl⟩ g1 rfl ?_
      refine en_iload rfl rfl ?_
      obtain ⟨g10, h⟩ := gd h
      obtain ⟨g11, h⟩ := gd h
      refine ec_iastore g10 g11 rfl ?_
      refine en_aload rfl rfl ?_
      obtain ⟨r12, e13, h⟩ := gb h
      refine ec_getP (ci := 6) (j := 14) ⟨rfl, rfl, rfl⟩ g1 e13 rfl ?_
      refine en_aload rfl rfl ?_
      refine ec_getI (ci := 6) (j := 11) ⟨rfl, rfl, rfl⟩ g1 rfl ?_
      refine en_iload rfl rfl ?_
      obtain ⟨g14, h⟩ := gd h
      obtain ⟨g15, h⟩ := gd h
      refine ec_iastore g14 g15 rfl ?_
      refine en_aload rfl rfl ?_
      refine en_dup rfl rfl ?_
      refine ec_getI (ci := 6) (j := 11) ⟨rfl, rfl, rfl⟩ g1 rfl ?_
      refine ec_iconst cst_1 rfl ?_
      refine en_iadd rfl ?_
      refine ec_putI (ci := 6) (j := 11) ⟨rfl, rfl, rfl⟩ g1 rfl ?_
      refine ec_iconst cst_1 rfl ?_
      cases h
      exact en_zret (Or.inr rfl) rfl
    · refine en_icmp_lt_f c3 rfl ?_
      refine ec_iconst cst_0 rfl ?_
      cases h
      exact en_zret (Or.inl rfl) rfl
/-- BulkWriter$Parser.readAtom(I)Z -/
def f_43 (n : Nat) (a0 : Nat) (a1 : Int32) (C : AmC) : Option (Int32 × AmC) := if isK a0 2 = true then (f_23 n a0 C).bind (fun z => match z with | (q2, C3) => (if q2 = (130 : Int32) then (if ¬ (cI C3 a0 12) = 0 then (f_31 n a0 C3).bind (fun z => match z with | (q12, C13) => (if q12 = 0 then some ((0 : Int32), C13) else (cP C13 a0 5).bind (fun r16 => if isK r16 6 = true then (f_97 n r16 a1 (130 : Int32) (cI C13 a0 8) C13).bind (fun z => match z with | (q19, C20) => (if q19 = 0 then some ((0 : Int32), C20) else some ((1 : Int32), C20))) else none))) else (f_25 n a0 (3 : Int32) C3).bind (fun z => match z with | (q23, C24) => if q23 = 0 ∨ q23 = 1 then some (q23, C24) else none)) else if q2 = (202 : Int32) then (if ¬ (cI C3 a0 11) = 0 then (f_31 n a0 (uI C3 a0 4 ((cI C3 a0 4) + (1 : Int32)))).bind (fun z => match z with | (q28, C29) => (if q28 = 0 then some ((0 : Int32), C29) else (cP C29 a0 5).bind (fun r32 => if isK r32 6 = true then (f_97 n r32 a1 (202 : Int32) (cI C29 a0 8) C29).bind (fun z => match z with | (q35, C36) => (if q35 = 0 then some ((0 : Int32), C36) else some ((1 : Int32), C36))) else none))) else (f_25 n a0 (3 : Int32) C3).bind (fun z => match z with | (q39, C40) => if q39 = 0 ∨ q39 = 1 then some (q39, C40) else none)) else if q2 = (211 : Int32) then (f_31 n a0 (uI C3 a0 4 ((cI C3 a0 4) + (1 : Int32)))).bind (fun z => match z with | (q43, C44) => (if q43 = 0 then some ((0 : Int32), C44) else (cP C44 a0 5).bind (fun r47 => if isK r47 6 = true then (f_97 n r47 a1 q2 (cI C44 a0 8) C44).bind (fun z => match z with | (q50, C51) => (if q50 = 0 then some ((0 : Int32), C51) else some ((1 : Int32), C51))) else none))) else if q2 = (212 : Int32) then (f_31 n a0 (uI C3 a0 4 ((cI C3 a0 4) + (1 : Int32)))).bind (fun z => match z with | (q54, C55) => (if q54 = 0 then some ((0 : Int32), C55) else (cP C55 a0 5).bind (fun r58 => if isK r58 6 = true then (f_97 n r58 a1 q2 (cI C55 a0 8) C55).bind (fun z => match z with | (q61, C62) => (if q61 = 0 then some ((0 : Int32), C62) else some ((1 : Int32), C62))) else none))) else if q2 = (213 : Int32) then (f_31 n a0 (uI C3 a0 4 ((cI C3 a0 4) + (1 : Int32)))).bind (fun z => match z with | (q65, C66) => (if q65 = 0 then some ((0 : Int32), C66) else (cP C66 a0 5).bind (fun r69 => if isK r69 6 = true then (f_97 n r69 a1 q2 (cI C66 a0 8) C66).bind (fun z => match z with | (q72, C73) => (if q72 = 0 then some ((0 : Int32), C73) else some ((1 : Int32), C73))) else none))) else if q2 = (214 : Int32) then (cP (uI C3 a0 4 ((cI C3 a0 4) + (1 : Int32))) a0 5).bind (fun r76 => if isK r76 6 = true then (f_97 n r76 a1 (214 : Int32) (0 : Int32) (uI C3 a0 4 ((cI C3 a0 4) + (1 : Int32)))).bind (fun z => match z with | (q79, C80) => if q79 = 0 ∨ q79 = 1 then some (q79, C80) else none) else none) else (f_30 n a0 C3).bind (fun z => match z with | (q83, C84) => (if q83 = 0 then some ((0 : Int32), C84) else (cP C84 a0 5).bind (fun r87 => if isK r87 6 = true then (f_97 n r87 a1 (128 : Int32) (cI C84 a0 9) C84).bind (fun z => match z with | (q90, C91) => (if q90 = 0 then some ((0 : Int32), C91) else some ((1 : Int32), C91))) else none))))) else none
set_option maxRecDepth 20000 in
set_option maxHeartbeats 4000000 in
theorem t_43 {n : Nat} {a0 : Nat} {a1 : Int32} {C : AmC} {r : Int32} {C' : AmC} (h : f_43 n a0 a1 C = some (r, C')) : En false 43 0 [(0, .ref a0), (1, .int a1)] [] (mkM C) (.inl (some (.int r))) (mkM C') := by
  unfold f_43 at h
  refine en_aload rfl rfl ?_
  obtain ⟨g1, h⟩ := gd h
  obtain ⟨⟨q2, C3⟩, e4, h⟩ := gb h
  dsimp only at h
  refine ec_callV1 (k' := 23) (n := 1) (rc := 2) (a := a0) (as := []) ⟨rfl, rfl⟩ rfl rfl (Nat.le_of_ble_eq_true rfl) (Nat.le_of_ble_eq_true rfl) (Nat.le_of_ble_eq_true rfl) g1 rfl (t_23 e4) ?_
  refine en_istore (l' := [(2, .int q2), (0, .ref a0), (1, .int a1)]) rfl rfl ?_
  refine en_iload rfl rfl ?_
  rcases gi h with ⟨c5, h⟩ | ⟨c5, h⟩
  · refine en_look (t := 5) (by rw [c5]; rfl) rfl ?_
    refine en_aload rfl rfl ?_
    refine ec_getI (ci := 2) (j := 12) ⟨rfl, rfl, rfl⟩ g1 rfl ?_
    rcases gi h with ⟨c11, h⟩ | ⟨c11, h⟩
    · refine en_if_ne_t c11 rfl ?_
      refine en_aload rfl rfl ?_
      obtain ⟨⟨q12, C13⟩, e14, h⟩ := gb h
      dsimp only at h
      refine ec_callV1 (k' := 31) (n := 1) (rc := 2) (a := a0) (as := []) ⟨rfl, rfl⟩ rfl rfl (Nat.le_of_ble_eq_true rfl) (Nat.le_of_ble_eq_true rfl) (Nat.le_of_ble_eq_true rfl) g1 rfl (t_31 e14) ?_
      rcases gi h with ⟨c15, h⟩ | ⟨c15, h⟩
      · refine en_if_eq_t c15 rfl ?_
        refine ec_iconst cst_0 rfl ?_
        cases h
        exact en_zret (Or.inl rfl) rfl
      · refine en_if_eq_f c15 rfl ?_
        refine en_aload rfl rfl ?_
        obtain ⟨r16, e17, h⟩ := gb h
        refine ec_getP (ci := 2) (j := 5) ⟨rfl, rfl, rfl⟩ g1 e17 rfl ?_
        refine en_iload rfl rfl ?_
        refine ec_iconst cst_130 rfl ?_
        refine en_aload rfl rfl ?_
        refine ec_getI (ci := 2) (j := 8) ⟨rfl, rfl, rfl⟩ g1 rfl ?_
        obtain ⟨g18, h⟩ := gd h
        obtain ⟨⟨q19, C20⟩, e21, h⟩ := gb h
        dsimp only at h
        refine ec_callV1 (k' := 97) (n := 4) (rc := 6) (a := r16) (as := [.int a1, .int (130 : Int32), .int (cI C13 a0 8)]) ⟨rfl, rfl⟩ rfl rfl (Nat.le_of_ble_eq_true rfl) (Nat.le_of_ble_eq_true rfl) (Nat.le_of_ble_eq_true rfl) g18 rfl (t_97 e21) ?_
        rcases gi h with ⟨c22, h⟩ | ⟨c22, h⟩
        · refine en_if_eq_t c22 rfl ?_
          refine ec_iconst cst_0 rfl ?_
          cases h
          exact en_zret (Or.inl rfl) rfl
        · refine en_if_eq_f c22 rfl ?_
          refine ec_iconst cst_1 rfl ?_
          refine en_goto rfl ?_
          cases h
          exact en_zret (Or.inr rfl) rfl
    · refine en_if_ne_f c11 rfl ?_
      refine en_aload rfl rfl ?_
      refine ec_iconst cst_3 rfl ?_
      obtain ⟨⟨q23, C24⟩, e25, h⟩ := gb h
      dsimp only at h
      refine ec_callV1 (k' := 25) (n := 2) (rc := 2) (a := a0) (as := [.int (3 : Int32)]) ⟨rfl, rfl⟩ rfl rfl (Nat.le_of_ble_eq_true rfl) (Nat.le_of_ble_eq_true rfl) (Nat.le_of_ble_eq_true rfl) g1 rfl (t_25 e25) ?_
      obtain ⟨g26, h⟩ := gd h
      cases h
      exact en_zret g26 rfl
  ·
    rcases gi h with ⟨c6, h⟩ | ⟨c6, h⟩
    · refine en_look (t := 27) (by rw [c6]; rfl) rfl ?_
      refine en_aload rfl rfl ?_
      refine ec_getI (ci := 2) (j := 11) ⟨rfl, rfl, rfl⟩ g1 rfl ?_
      rcases gi h with ⟨c27, h⟩ | ⟨c27, h⟩
      · refine en_if_ne_t c27 rfl ?_
        refine en_aload rfl rfl ?_
        refine en_dup rfl rfl ?_
        refine ec_getI (ci := 2) (j := 4) ⟨rfl, rfl, rfl⟩ g1 rfl ?_
        refine ec_iconst cst_1 rfl ?_
        refine en_iadd rfl ?_
        refine ec_putI (ci := 2) (j := 4) ⟨rfl, rfl, rfl⟩ g1 rfl ?_
        refine en_aload rfl rfl ?_
        obtain ⟨⟨q28, C29⟩, e30, h⟩ := gb h
        dsimp only at h
        refine ec_callV1 (k' := 31) (n := 1) (rc := 2) (a := a0) (as := []) ⟨rfl, rfl⟩ rfl rfl (Nat.le_of_ble_eq_true rfl) (Nat.le_of_ble_eq_true rfl) (Nat.le_of_ble_eq_true rfl) g1 rfl (t_31 e30) ?_
        rcases gi h with ⟨c31, h⟩ | ⟨c31, h⟩
        · refine en_if_eq_t c31 rfl ?_
          refine ec_iconst cst_0 rfl ?_
          cases h
          exact en_zret (Or.inl rfl) rfl
        · refine en_if_eq_f c31 rfl ?_
          refine en_aload rfl rfl ?_
          obtain ⟨r32, e33, h⟩ := gb h
          refine ec_getP (ci := 2) (j := 5) ⟨rfl, rfl, rfl⟩ g1 e33 rfl ?_
          refine en_iload rfl rfl ?_
          refine ec_iconst cst_202 rfl ?_
          refine en_aload rfl rfl ?_
          refine ec_getI (ci := 2) (j := 8) ⟨rfl, rfl, rfl⟩ g1 rfl ?_
          obtain ⟨g34, h⟩ := gd h
          obtain ⟨⟨q35, C36⟩, e37, h⟩ := gb h
          dsimp only at h
          refine ec_callV1 (k' := 97) (n := 4) (rc := 6) (a := r32) (as := [.int a1, .int (202 : Int32), .int (cI C29 a0 8)]) ⟨rfl, rfl⟩ rfl rfl (Nat.le_of_ble_eq_true rfl) (Nat.le_of_ble_eq_true rfl) (Nat.le_of_ble_eq_true rfl) g34 rfl (t_97 e37) ?_
          rcases gi h with ⟨c38, h⟩ | ⟨c38, h⟩
          · refine en_if_eq_t c38 rfl ?_
            refine ec_iconst cst_0 rfl ?_
            cases h
            exact en_zret (Or.inl rfl) rfl
          · refine en_if_eq_f c38 rfl ?_
            refine ec_iconst cst_1 rfl ?_
            refine en_goto rfl ?_
            cases h
            exact en_zret (Or.inr rfl) rfl
      · refine en_if_ne_f c27 rfl ?_
        refine en_aload rfl rfl ?_
        refine ec_iconst cst_3 rfl ?_
        obtain ⟨⟨q39, C40⟩, e41, h⟩ := gb h
        dsimp only at h
        refine ec_callV1 (k' := 25) (n := 2) (rc := 2) (a := a0) (as := [.int (3 : Int32)]) ⟨rfl, rfl⟩ rfl rfl (Nat.le_of_ble_eq_true rfl) (Nat.le_of_ble_eq_true rfl) (Nat.le_of_ble_eq_true rfl) g1 rfl (t_25 e41) ?_
        obtain ⟨g42, h⟩ := gd h
        cases h
        exact en_zret g42 rfl
    ·
      rcases gi h with ⟨c7, h⟩ | ⟨c7, h⟩
      · refine en_look (t := 55) (by rw [c7]; rfl) rfl ?_
        refine en_aload rfl rfl ?_
        refine en_dup rfl rfl ?_
        refine ec_getI (ci := 2) (j := 4) ⟨rfl, rfl, rfl⟩ g1 rfl ?_
        refine ec_iconst cst_1 rfl ?_
        refine en_iadd rfl ?_
        refine ec_putI (ci := 2) (j := 4) ⟨rfl, rfl, rfl⟩ g1 rfl ?_
        refine en_aload rfl rfl ?_
        obtain ⟨⟨q43, C44⟩, e45, h⟩ := gb h
        dsimp only at h
        refine ec_callV1 (k' := 31) (n := 1) (rc := 2) (a := a0) (as := []) ⟨rfl, rfl⟩ rfl rfl (Nat.le_of_ble_eq_true rfl) (Nat.le_of_ble_eq_true rfl) (Nat.le_of_ble_eq_true rfl) g1 rfl (t_31 e45) ?_
        rcases gi h with ⟨c46, h⟩ | ⟨c46, h⟩
        · refine en_if_eq_t c46 rfl ?_
          refine ec_iconst cst_0 rfl ?_
          cases h
          exact en_zret (Or.inl rfl) rfl
        · refine en_if_eq_f c46 rfl ?_
          refine en_aload rfl rfl ?_
          obtain ⟨r47, e48, h⟩ := gb h
          refine ec_getP (ci := 2) (j := 5) ⟨rfl, rfl, rfl⟩ g1 e48 rfl ?_
          refine en_iload rfl rfl ?_
          refine en_iload rfl rfl ?_
          refine en_aload rfl rfl ?_
          refine ec_getI (ci := 2) (j := 8) ⟨rfl, rfl, rfl⟩ g1 rfl ?_
          obtain ⟨g49, h⟩ := gd h
          obtain ⟨⟨q50, C51⟩, e52, h⟩ := gb h
          dsimp only at h
          refine ec_callV1 (k' := 97) (n := 4) (rc := 6) (a := r47) (as := [.int a1, .int q2, .int (cI C44 a0 8)]) ⟨rfl, rfl⟩ rfl rfl (Nat.le_of_ble_eq_true rfl) (Nat.le_of_ble_eq_true rfl) (Nat.le_of_ble_eq_true rfl) g49 rfl (t_97 e52) ?_
          rcases gi h with ⟨c53, h⟩ | ⟨c53, h⟩
          · refine en_if_eq_t c53 rfl ?_
            refine ec_iconst cst_0 rfl ?_
            cases h
            exact en_zret (Or.inl rfl) rfl
          · refine en_if_eq_f c53 rfl ?_
            refine ec_iconst cst_1 rfl ?_
            refine en_goto rfl ?_
            cases h
            exact en_zret (Or.inr rfl) rfl
      ·
        rcases gi h with ⟨c8, h⟩ | ⟨c8, h⟩
        · refine en_look (t := 55) (by rw [c8]; rfl) rfl ?_
          refine en_aload rfl rfl ?_
          refine en_dup rfl rfl ?_
          refine ec_getI (ci := 2) (j := 4) ⟨rfl, rfl, rfl⟩ g1 rfl ?_
          refine ec_iconst cst_1 rfl ?_
          refine en_iadd rfl ?_
          refine ec_putI (ci := 2) (j := 4) ⟨rfl, rfl, rfl⟩ g1 rfl ?_
          refine en_aload rfl rfl ?_
          obtain ⟨⟨q54, C55⟩, e56, h⟩ := gb h
          dsimp only at h
          refine ec_callV1 (k' := 31) (n := 1) (rc := 2) (a := a0) (as := []) ⟨rfl, rfl⟩ rfl rfl (Nat.le_of_ble_eq_true rfl) (Nat.le_of_ble_eq_true rfl) (Nat.le_of_ble_eq_true rfl) g1 rfl (t_31 e56) ?_
          rcases gi h with ⟨c57, h⟩ | ⟨c57, h⟩
          · refine en_if_eq_t c57 rfl ?_
            refine ec_iconst cst_0 rfl ?_
            cases h
            exact en_zret (Or.inl rfl) rfl
          · refine en_if_eq_f c57 rfl ?_
            refine en_aload rfl rfl ?_
            obtain ⟨r58, e59, h⟩ := gb h
            refine ec_getP (ci := 2) (j := 5) ⟨rfl, rfl, rfl⟩ g1 e59 rfl ?_
            refine en_iload rfl rfl ?_
            refine en_iload rfl rfl ?_
            refine en_aload rfl rfl ?_
            refine ec_getI (ci := 2) (j := 8) ⟨rfl, rfl, rfl⟩ g1 rfl ?_
            obtain ⟨g60, h⟩ := gd h
            obtain ⟨⟨q61, C62⟩, e63, h⟩ := gb h
            dsimp only at h
            refine ec_callV1 (k' := 97) (n := 4) (rc := 6) (a := r58) (as := [.int a1, .int q2, .int (cI C55 a0 8)]) ⟨rfl, rfl⟩ rfl rfl (Nat.le_of_ble_eq_true rfl) (Nat.le_of_ble_eq_true rfl) (Nat.le_of_ble_eq_true rfl) g60 rfl (t_97 e63) ?_
            rcases gi h with ⟨c64, h⟩ | ⟨c64, h⟩
            · refine en_if_eq_t c64 rfl ?_
              refine ec_iconst cst_0 rfl ?_
              cases h
              exact en_zret (Or.inl rfl) rfl
            · refine en_if_eq_f c64 rfl ?_
              refine ec_iconst cst_1 rfl ?_
              refine en_goto rfl ?_
              cases h
              exact en_zret (Or.inr rfl) rfl
        ·
          rcases gi h with ⟨c9, h⟩ | ⟨c9, h⟩
          · refine en_look (t := 55) (by rw [c9]; rfl) rfl ?_
            refine en_aload rfl rfl ?_
            refine en_dup rfl rfl ?_
            refine ec_getI (ci := 2) (j := 4) ⟨rfl, rfl, rfl⟩ g1 rfl ?_
            refine ec_iconst cst_1 rfl ?_
            refine en_iadd rfl ?_
            refine ec_putI (ci := 2) (j := 4) ⟨rfl, rfl, rfl⟩ g1 rfl ?_
            refine en_aload rfl rfl ?_
            obtain ⟨⟨q65, C66⟩, e67, h⟩ := gb h
            dsimp only at h
            refine ec_callV1 (k' := 31) (n := 1) (rc := 2) (a := a0) (as := []) ⟨rfl, rfl⟩ rfl rfl (Nat.le_of_ble_eq_true rfl) (Nat.le_of_ble_eq_true rfl) (Nat.le_of_ble_eq_true rfl) g1 rfl (t_31 e67) ?_
            rcases gi h with ⟨c68, h⟩ | ⟨c68, h⟩
            · refine en_if_eq_t c68 rfl ?_
              refine ec_iconst cst_0 rfl ?_
              cases h
              exact en_zret (Or.inl rfl) rfl
            · refine en_if_eq_f c68 rfl ?_
              refine en_aload rfl rfl ?_
              obtain ⟨r69, e70, h⟩ := gb h
              refine ec_getP (ci := 2) (j := 5) ⟨rfl, rfl, rfl⟩ g1 e70 rfl ?_
              refine en_iload rfl rfl ?_
              refine en_iload rfl rfl ?_
              refine en_aload rfl rfl ?_
              refine ec_getI (ci := 2) (j := 8) ⟨rfl, rfl, rfl⟩ g1 rfl ?_
              obtain ⟨g71, h⟩ := gd h
              obtain ⟨⟨q72, C73⟩, e74, h⟩ := gb h
              dsimp only at h
              refine ec_callV1 (k' := 97) (n := 4) (rc := 6) (a := r69) (as := [.int a1, .int q2, .int (cI C66 a0 8)]) ⟨rfl, rfl⟩ rfl rfl (Nat.le_of_ble_eq_true rfl) (Nat.le_of_ble_eq_true rfl) (Nat.le_of_ble_eq_true rfl) g71 rfl (t_97 e74) ?_
              rcases gi h with ⟨c75, h⟩ | ⟨c75, h⟩
              · refine en_if_eq_t c75 rfl ?_
                refine ec_iconst cst_0 rfl ?_
                cases h
                exact en_zret (Or.inl rfl) rfl
              · refine en_if_eq_f c75 rfl ?_
                refine ec_iconst cst_1 rfl ?_
                refine en_goto rfl ?_
                cases h
                exact en_zret (Or.inr rfl) rfl
          ·
            rcases gi h with ⟨c10, h⟩ | ⟨c10, h⟩
            · refine en_look (t := 76) (by rw [c10]; rfl) rfl ?_
              refine en_aload rfl rfl ?_
              refine en_dup rfl rfl ?_
              refine ec_getI (ci := 2) (j := 4) ⟨rfl, rfl, rfl⟩ g1 rfl ?_
              refine ec_iconst cst_1 rfl ?_
              refine en_iadd rfl ?_
              refine ec_putI (ci := 2) (j := 4) ⟨rfl, rfl, rfl⟩ g1 rfl ?_
              refine en_aload rfl rfl ?_
              obtain ⟨r76, e77, h⟩ := gb h
              refine ec_getP (ci := 2) (j := 5) ⟨rfl, rfl, rfl⟩ g1 e77 rfl ?_
              refine en_iload rfl rfl ?_
              refine ec_iconst cst_214 rfl ?_
              refine ec_iconst cst_0 rfl ?_
              obtain ⟨g78, h⟩ := gd h
              obtain ⟨⟨q79, C80⟩, e81, h⟩ := gb h
              dsimp only at h
              refine ec_callV1 (k' := 97) (n := 4) (rc := 6) (a := r76) (as := [.int a1, .int (214 : Int32), .int (0 : Int32)]) ⟨rfl, rfl⟩ rfl rfl (Nat.le_of_ble_eq_true rfl) (Nat.le_of_ble_eq_true rfl) (Nat.le_of_ble_eq_true rfl) g78 rfl (t_97 e81) ?_
              obtain ⟨g82, h⟩ := gd h
              cases h
              exact en_zret g82 rfl
            ·
              refine en_look (t := 89) (by have z0 := ne_toInt c5 (v := 130) (by decide); have z1 := ne_toInt c6 (v := 202) (by decide); have z2 := ne_toInt c7 (v := 211) (by decide); have z3 := ne_toInt c8 (v := 212) (by decide); have z4 := ne_toInt c9 (v := 213) (by decide); have z5 := ne_toInt c10 (v := 214) (by decide); simp [Op.lookupswitch.offset, z0, z0.symm, z1, z1.symm, z2, z2.symm, z3, z3.symm, z4, z4.symm, z5, z5.symm]) rfl ?_
              refine en_aload rfl rfl ?_
              obtain ⟨⟨q83, C84⟩, e85, h⟩ := gb h
              dsimp only at h
              refine ec_callV1 (k' := 30) (n := 1) (rc := 2) (a := a0) (as := []) ⟨rfl, rfl⟩ rfl rfl (Nat.le_of_ble_eq_true rfl) (Nat.le_of_ble_eq_true rfl) (Nat.le_of_ble_eq_true rfl) g1 rfl (t_30 e85) ?_
              rcases gi h with ⟨c86, h⟩ | ⟨c86, h⟩
              · refine en_if_eq_t c86 rfl ?_
                refine ec_iconst cst_0 rfl ?_
                cases h
                exact en_zret (Or.inl rfl) rfl
              · refine en_if_eq_f c86 rfl ?_
                refine en_aload rfl rfl ?_
                obtain ⟨r87, e88, h⟩ := gb h
                refine ec_getP (ci := 2) (j := 5) ⟨rfl, rfl, rfl⟩ g1 e88 rfl ?_
                refine en_iload rfl rfl ?_
                refine ec_iconst cst_128 rfl ?_
                refine en_aload rfl rfl ?_
                refine ec_getI (ci := 2) (j := 9) ⟨rfl, rfl, rfl⟩ g1 rfl ?_
                obtain ⟨g89, h⟩ := gd h
                obtain ⟨⟨q90, C91⟩, e92, h⟩ := gb h
                dsimp only at h
                refine ec_callV1 (k' := 97) (n := 4) (rc := 6) (a := r87) (as := [.int a1, .int (128 : Int32), .int (cI C84 a0 9)]) ⟨rfl, rfl⟩ rfl rfl (Nat.le_of_ble_eq_true rfl) (Nat.le_of_ble_eq_true rfl) (Nat.le_of_ble_eq_true rfl) g89 rfl (t_97 e92) ?_
                rcases gi h with ⟨c93, h⟩ | ⟨c93, h⟩
                · refine en_if_eq_t c93 rfl ?_
                  refine ec_iconst cst_0 rfl ?_
                  cases h
                  exact en_zret (Or.inl rfl) rfl
                · refine en_if_eq_f c93 rfl ?_
                  refine ec_iconst cst_1 rfl ?_
                  refine en_goto rfl ?_
                  cases h
                  exact en_zret (Or.inr rfl) rfl
/-- BulkWriter$Script.closeValue()I -/
def f_98 (n : Nat) (a0 : Nat) (C : AmC) : Option (Int32 × AmC) := if isK a0 6 = true then (if (cI C a0 15) < 0 then some ((-1 : Int32), C) else (if (cI C a0 15) < (450 : Int32) then (if ¬ (cI C a0 15) = 0 then (cP (uI C a0 15 ((cI C a0 15) + (1 : Int32))) a0 16).bind (fun r5 => if isK r5 12 = true then if amIn (cI (uI C a0 15 ((cI C a0 15) + (1 : Int32))) a0 15) (aLen r5) = true then some ((cI C a0 15), uI (uI C a0 15 ((cI C a0 15) + (1 : Int32))) r5 (Int32.toNatClampNeg (cI (uI C a0 15 ((cI C a0 15) + (1 : Int32))) a0 15)) (cI (uI C a0 15 ((cI C a0 15) + (1 : Int32))) a0 11)) else none else none) else (cP (uI C a0 15 ((cI C a0 15) + (1 : Int32))) a0 16).bind (fun r9 => if isK r9 12 = true then if amIn (0 : Int32) (aLen r9) = true then (cP (uI (uI C a0 15 ((cI C a0 15) + (1 : Int32))) r9 (Int32.toNatClampNeg (0 : Int32)) (0 : Int32)) a0 16).bind (fun r13 => if isK r13 12 = true then if amIn (cI (uI (uI C a0 15 ((cI C a0 15) + (1 : Int32))) r9 (Int32.toNatClampNeg (0 : Int32)) (0 : Int32)) a0 15) (aLen r13) = true then some ((cI C a0 15), uI (uI (uI C a0 15 ((cI C a0 15) + (1 : Int32))) r9 (Int32.toNatClampNeg (0 : Int32)) (0 : Int32)) r13 (Int32.toNatClampNeg (cI (uI (uI C a0 15 ((cI C a0 15) + (1 : Int32))) r9 (Int32.toNatClampNeg (0 : Int32)) (0 : Int32)) a0 15)) (cI (uI (uI C a0 15 ((cI C a0 15) + (1 : Int32))) r9 (Int32.toNatClampNeg (0 : Int32)) (0 : Int32)) a0 11)) else none else none) else none else none)) else some ((-1 : Int32), C))) else none
set_option maxRecDepth 20000 in
set_option maxHeartbeats 4000000 in
theorem t_98 {n : Nat} {a0 : Nat} {C : AmC} {r : Int32} {C' : AmC} (h : f_98 n a0 C = some (r, C')) : En false 98 0 [(0, .ref a0)] [] (mkM C) (.inl (some (.int r))) (mkM C') := by
  unfold f_98 at h
  refine en_aload rfl rfl ?_
  obtain ⟨g1, h⟩ := gd h
  refine ec_getI (ci := 6) (j := 15) ⟨rfl, rfl, rfl⟩ g1 rfl ?_
  rcases gi h with ⟨c2, h⟩ | ⟨c2, h⟩
  · refine en_if_lt_t c2 rfl ?_
    refine ec_iconst cst_m1 rfl ?_
    cases h
    exact en_iret rfl
  · refine en_if_lt_f c2 rfl ?_
    refine en_aload rfl rfl ?_
    refine ec_getI (ci := 6) (j := 15) ⟨rfl, rfl, rfl⟩ g1 rfl ?_
    refine ec_iconst cst_450 rfl ?_
    rcases gi h with ⟨c3, h⟩ | ⟨c3, h⟩
    · refine en_icmp_lt_t c3 rfl ?_
      refine en_aload rfl rfl ?_
      refine ec_getI (ci := 6) (j := 15) ⟨rfl, rfl, rfl⟩ g1 rfl ?_
      refine en_istore (l' := [(1, .int (cI C a0 15)), (0, .ref a0)]) rfl rfl ?_
      refine en_aload rfl rfl ?_
      refine en_dup rfl rfl ?_
      refine ec_getI (ci := 6) (j := 15) ⟨rfl, rfl, rfl⟩ g1 rfl ?_
      refine ec_iconst cst_1 rfl ?_
      refine en_iadd rfl ?_
      refine ec_putI (ci := 6) (j := 15) ⟨rfl, rfl, rfl⟩ g1 rfl ?_
      refine en_iload rfl rfl ?_
      rcases gi h with ⟨c4, h⟩ | ⟨c4, h⟩
      · refine en_if_ne_t c4 rfl ?_
        refine en_aload rfl rfl ?_
        obtain ⟨r5, e6, h⟩ := gb h
        refine ec_getP (ci := 6) (j := 16) ⟨rfl, rfl, rfl⟩ g1 e6 rfl ?_
        refine en_aload rfl rfl ?_
        refine ec_getI (ci := 6) (j := 15) ⟨rfl, rfl, rfl⟩ g1 rfl ?_
        refine en_aload rfl rfl ?_
        refine ec_getI (ci := 6) (j := 11) ⟨rfl, rfl, rfl⟩ g1 rfl ?_
        obtain ⟨g7, h⟩ := gd h
        obtain ⟨g8, h⟩ := gd h
        refine ec_iastore g7 g8 rfl ?_
        refine en_iload rfl rfl ?_
        cases h
        exact en_iret rfl
      · refine en_if_ne_f c4 rfl ?_
        refine en_aload rfl rfl ?_
        obtain ⟨r9, e10, h⟩ := gb h
        refine ec_getP (ci := 6) (j := 16) ⟨rfl, rfl, rfl⟩ g1 e10 rfl ?_
        refine ec_iconst cst_0 rfl ?_
        refine ec_iconst cst_0 rfl ?_
        obtain ⟨g11, h⟩ := gd h
        obtain ⟨g12, h⟩ := gd h
        refine ec_iastore g11 g12 rfl ?_
        refine en_aload rfl rfl ?_
        obtain ⟨r13, e14, h⟩ := gb h
        refine ec_getP (ci := 6) (j := 16) ⟨rfl, rfl, rfl⟩ g1 e14 rfl ?_
        refine en_aload rfl rfl ?_
        refine ec_getI (ci := 6) (j := 15) ⟨rfl, rfl, rfl⟩ g1 rfl ?_
        refine en_aload rfl rfl ?_
        refine ec_getI (ci := 6) (j := 11) ⟨rfl, rfl, rfl⟩ g1 rfl ?_
        obtain ⟨g15, h⟩ := gd h
        obtain ⟨g16, h⟩ := gd h
        refine ec_iastore g15 g16 rfl ?_
        refine en_iload rfl rfl ?_
        cases h
        exact en_iret rfl
    · refine en_icmp_lt_f c3 rfl ?_
      refine ec_iconst cst_m1 rfl ?_
      cases h
      exact en_iret rfl
def lp_42_4 : Nat → Nat → Int32 → Int32 → AmC → Option (((Unit) ⊕ (Nat) ⊕ (Nat)) × AmC)
  | 0, _, _, _, _ => none
  | n + 1, p0, p1, p2, C => (if (900 : Int32) ≤ p2 then some ((.inr (.inr p0)), C) else if isK p0 2 = true then (f_43 n p0 p1 C).bind (fun z => match z with | (q3, C4) => (if ¬ q3 = 0 then (f_23 n p0 C4).bind (fun z => match z with | (q7, C8) => (if q7 = (43 : Int32) then lp_42_4 n p0 q7 (p2 + (1 : Int32)) (uI C8 p0 4 ((cI C8 p0 4) + (1 : Int32))) else (if q7 = (45 : Int32) then lp_42_4 n p0 q7 (p2 + (1 : Int32)) (uI C8 p0 4 ((cI C8 p0 4) + (1 : Int32))) else (if q7 = (42 : Int32) then lp_42_4 n p0 q7 (p2 + (1 : Int32)) (uI C8 p0 4 ((cI C8 p0 4) + (1 : Int32))) else some ((.inr (.inl p0)), C8))))) else some ((.inl ()), C4))) else none)
set_option maxRecDepth 20000 in
set_option maxHeartbeats 4000000 in
theorem lt_42_4 : ∀ (n : Nat) (p0 : Nat) (p1 : Int32) (p2 : Int32) (C : AmC) (r : ((Unit) ⊕ (Nat) ⊕ (Nat)) × AmC), lp_42_4 n p0 p1 p2 C = some r → ∀ (o : AmO) (M' : AmM), (match r with
        | ((.inl _), C') => En false 42 11 [] [] (mkM C') o M'
        | ((.inr (.inl w0)), C') => En false 42 25 [(0, .ref w0)] [] (mkM C') o M'
        | ((.inr (.inr w0)), C') => En false 42 34 [(0, .ref w0)] [] (mkM C') o M') → En false 42 4 [(0, .ref p0), (1, .int p1), (2, .int p2)] [] (mkM C) o M' := by
  intro n
  induction n with
  | zero => intro p0 p1 p2 C r h; cases h
  | succ n ih =>
    intro p0 p1 p2 C r h o M' hk
    unfold lp_42_4 at h
    refine en_iload rfl rfl ?_
    refine ec_iconst cst_900 rfl ?_
    rcases gi h with ⟨c1, h⟩ | ⟨c1, h⟩
    · refine en_icmp_ge_t c1 rfl ?_
      cases h
      exact en_sub [0] rfl rfl hk
    · refine en_icmp_ge_f c1 rfl ?_
      refine en_aload rfl rfl ?_
      refine en_iload rfl rfl ?_
      obtain ⟨g2, h⟩ := gd h
      obtain ⟨⟨q3, C4⟩, e5, h⟩ := gb h
      dsimp only at h
      refine ec_callV1 (k' := 43) (n := 2) (rc := 2) (a := p0) (as := [.int p1]) ⟨rfl, rfl⟩ rfl rfl (Nat.le_of_ble_eq_true rfl) (Nat.le_of_ble_eq_true rfl) (Nat.le_of_ble_eq_true rfl) g2 rfl (t_43 e5) ?_
      rcases gi h with ⟨c6, h⟩ | ⟨c6, h⟩
      · refine en_if_ne_t c6 rfl ?_
        refine en_aload rfl rfl ?_
        obtain ⟨⟨q7, C8⟩, e9, h⟩ := gb h
        dsimp only at h
        refine ec_callV1 (k' := 23) (n := 1) (rc := 2) (a := p0) (as := []) ⟨rfl, rfl⟩ rfl rfl (Nat.le_of_ble_eq_true rfl) (Nat.le_of_ble_eq_true rfl) (Nat.le_of_ble_eq_true rfl) g2 rfl (t_23 e9) ?_
        refine en_istore (l' := [(1, .int q7), (0, .ref p0), (2, .int p2)]) rfl rfl ?_
        refine en_iload rfl rfl ?_
        refine ec_iconst cst_43 rfl ?_
        rcases gi h with ⟨c10, h⟩ | ⟨c10, h⟩
        · refine en_icmp_eq_t c10 rfl ?_
          refine en_aload rfl rfl ?_
          refine en_dup rfl rfl ?_
          refine ec_getI (ci := 2) (j := 4) ⟨rfl, rfl, rfl⟩ g2 rfl ?_
          refine ec_iconst cst_1 rfl ?_
          refine en_iadd rfl ?_
          refine ec_putI (ci := 2) (j := 4) ⟨rfl, rfl, rfl⟩ g2 rfl ?_
          refine ec_iinc (l' := [(2, .int (p2 + (1 : Int32))), (1, .int q7), (0, .ref p0)]) rfl cst_1 rfl rfl ?_
          refine en_goto rfl ?_
          refine en_sub [2, 1, 0] rfl rfl ?_
          exact ih _ _ _ _ _ h o M' hk
        · refine en_icmp_eq_f c10 rfl ?_
          refine en_iload rfl rfl ?_
          refine ec_iconst cst_45 rfl ?_
          rcases gi h with ⟨c11, h⟩ | ⟨c11, h⟩
          · refine en_icmp_eq_t c11 rfl ?_
            refine en_aload rfl rfl ?_
            refine en_dup rfl rfl ?_
            refine ec_getI (ci := 2) (j := 4) ⟨rfl, rfl, rfl⟩ g2 rfl ?_
            refine ec_iconst cst_1 rfl ?_
            refine en_iadd rfl ?_
            refine ec_putI (ci := 2) (j := 4) ⟨rfl, rfl, rfl⟩ g2 rfl ?_
            refine ec_iinc (l' := [(2, .int (p2 + (1 : Int32))), (1, .int q7), (0, .ref p0)]) rfl cst_1 rfl rfl ?_
            refine en_goto rfl ?_
            refine en_sub [2, 1, 0] rfl rfl ?_
            exact ih _ _ _ _ _ h o M' hk
          · refine en_icmp_eq_f c11 rfl ?_
            refine en_iload rfl rfl ?_
            refine ec_iconst cst_42 rfl ?_
            rcases gi h with ⟨c12, h⟩ | ⟨c12, h⟩
            · refine en_icmp_eq_t c12 rfl ?_
              refine en_aload rfl rfl ?_
              refine en_dup rfl rfl ?_
              refine ec_getI (ci := 2) (j := 4) ⟨rfl, rfl, rfl⟩ g2 rfl ?_
              refine ec_iconst cst_1 rfl ?_
              refine en_iadd rfl ?_
              refine ec_putI (ci := 2) (j := 4) ⟨rfl, rfl, rfl⟩ g2 rfl ?_
              refine ec_iinc (l' := [(2, .int (p2 + (1 : Int32))), (1, .int q7), (0, .ref p0)]) rfl cst_1 rfl rfl ?_
              refine en_goto rfl ?_
              refine en_sub [2, 1, 0] rfl rfl ?_
              exact ih _ _ _ _ _ h o M' hk
            · refine en_icmp_eq_f c12 rfl ?_
              cases h
              exact en_sub [1] rfl rfl hk
      · refine en_if_ne_f c6 rfl ?_
        cases h
        exact en_sub [] rfl rfl hk
/-- BulkWriter$Parser.readValue()Z -/
def f_42 (n : Nat) (a0 : Nat) (C : AmC) : Option (Int32 × AmC) := (lp_42_4 n a0 (43 : Int32) (0 : Int32) C).bind (fun q => match q with | ((.inl _), C15) => some ((0 : Int32), C15) | ((.inr (.inl u16)), C15) => if isK u16 2 = true then (cP C15 u16 5).bind (fun r18 => if isK r18 6 = true then (f_98 n r18 C15).bind (fun z => match z with | (q21, C22) => some ((1 : Int32), uI C22 u16 10 q21)) else none) else none | ((.inr (.inr u24)), C15) => if isK u24 2 = true then (cP C15 u24 5).bind (fun r26 => if isK r26 6 = true then (f_98 n r26 C15).bind (fun z => match z with | (q29, C30) => some ((1 : Int32), uI C30 u24 10 q29)) else none) else none)
set_option maxRecDepth 20000 in
set_option maxHeartbeats 4000000 in
theorem t_42 {n : Nat} {a0 : Nat} {C : AmC} {r : Int32} {C' : AmC} (h : f_42 n a0 C = some (r, C')) : En false 42 0 [(0, .ref a0)] [] (mkM C) (.inl (some (.int r))) (mkM C') := by
  unfold f_42 at h
  refine ec_iconst cst_43 rfl ?_
  refine en_istore (l' := [(1, .int (43 : Int32)), (0, .ref a0)]) rfl rfl ?_
  refine ec_iconst cst_0 rfl ?_
  refine en_istore (l' := [(2, .int (0 : Int32)), (1, .int (43 : Int32)), (0, .ref a0)]) rfl rfl ?_
  obtain ⟨⟨q13, C15⟩, e14, h⟩ := gb h
  refine en_sub [2, 1, 0] rfl rfl (lt_42_4 n _ _ _ _ _ e14 _ _ ?_)
  rcases q13 with ⟨⟩ | u16 | u24
  · dsimp only at h ⊢
    refine ec_iconst cst_0 rfl ?_
    cases h
    exact en_zret (Or.inl rfl) rfl
  · dsimp only at h ⊢
    refine en_goto rfl ?_
    refine en_aload rfl rfl ?_
    refine en_aload rfl rfl ?_
    obtain ⟨g17, h⟩ := gd h
    obtain ⟨r18, e19, h⟩ := gb h
    refine ec_getP (ci := 2) (j := 5) ⟨rfl, rfl, rfl⟩ g17 e19 rfl ?_
    obtain ⟨g20, h⟩ := gd h
    obtain ⟨⟨q21, C22⟩, e23, h⟩ := gb h
    dsimp only at h
    refine ec_callV1 (k' := 98) (n := 1) (rc := 6) (a := r18) (as := []) ⟨rfl, rfl⟩ rfl rfl (Nat.le_of_ble_eq_true rfl) (Nat.le_of_ble_eq_true rfl) (Nat.le_of_ble_eq_true rfl) g20 rfl (t_98 e23) ?_
    refine ec_putI (ci := 2) (j := 10) ⟨rfl, rfl, rfl⟩ g17 rfl ?_
    refine ec_iconst cst_1 rfl ?_
    cases h
    exact en_zret (Or.inr rfl) rfl
  · dsimp only at h ⊢
    refine en_aload rfl rfl ?_
    refine en_aload rfl rfl ?_
    obtain ⟨g25, h⟩ := gd h
    obtain ⟨r26, e27, h⟩ := gb h
    refine ec_getP (ci := 2) (j := 5) ⟨rfl, rfl, rfl⟩ g25 e27 rfl ?_
    obtain ⟨g28, h⟩ := gd h
    obtain ⟨⟨q29, C30⟩, e31, h⟩ := gb h
    dsimp only at h
    refine ec_callV1 (k' := 98) (n := 1) (rc := 6) (a := r26) (as := []) ⟨rfl, rfl⟩ rfl rfl (Nat.le_of_ble_eq_true rfl) (Nat.le_of_ble_eq_true rfl) (Nat.le_of_ble_eq_true rfl) g28 rfl (t_98 e31) ?_
    refine ec_putI (ci := 2) (j := 10) ⟨rfl, rfl, rfl⟩ g25 rfl ?_
    refine ec_iconst cst_1 rfl ?_
    cases h
    exact en_zret (Or.inr rfl) rfl
def lp_39_2 : Nat → Nat → Nat → Int32 → AmC → Option (((Nat) ⊕ (Unit) ⊕ (Unit) ⊕ (Unit) ⊕ (Nat)) × AmC)
  | 0, _, _, _, _ => none
  | n + 1, p0, p1, p2, C => (if (4 : Int32) < p2 then some ((.inr (.inr (.inr (.inr p0)))), C) else if isK p0 2 = true then (f_23 n p0 C).bind (fun z => match z with | (q3, C4) => (if ¬ q3 = (130 : Int32) then (f_31 n p0 C4).bind (fun z => match z with | (q7, C8) => (if ¬ q7 = 0 then (f_26 n p0 (61 : Int32) C8).bind (fun z => match z with | (q11, C12) => (if q11 = 0 then some ((.inr (.inr (.inl ()))), C12) else (f_42 n p0 C12).bind (fun z => match z with | (q15, C16) => (if ¬ q15 = 0 then (if (cI C8 p0 8) < 0 then (f_23 n p0 C16).bind (fun z => match z with | (q20, C21) => (if q20 = (44 : Int32) then lp_39_2 n p0 p1 (p2 + (1 : Int32)) (uI C21 p0 4 ((cI C21 p0 4) + (1 : Int32))) else some ((.inr (.inr (.inr (.inl ())))), C21))) else (if (4 : Int32) ≤ (cI C8 p0 8) then (f_23 n p0 C16).bind (fun z => match z with | (q25, C26) => (if q25 = (44 : Int32) then lp_39_2 n p0 p1 (p2 + (1 : Int32)) (uI C26 p0 4 ((cI C26 p0 4) + (1 : Int32))) else some ((.inr (.inr (.inr (.inl ())))), C26))) else if isK p1 8 = true then (cP C16 p1 5).bind (fun r30 => if isK r30 12 = true then if amIn (cI C8 p0 8) (aLen r30) = true then (f_23 n p0 (uI C16 r30 (Int32.toNatClampNeg (cI C8 p0 8)) (cI C16 p0 10))).bind (fun z => match z with | (q34, C35) => (if q34 = (44 : Int32) then lp_39_2 n p0 p1 (p2 + (1 : Int32)) (uI C35 p0 4 ((cI C35 p0 4) + (1 : Int32))) else some ((.inr (.inr (.inr (.inl ())))), C35))) else none else none) else none)) else some ((.inr (.inr (.inl ()))), C16))))) else some ((.inr (.inl ())), C8))) else (f_24 n p0 C4).bind (fun z => match z with | (q38, C39) => if isK p1 8 = true then (f_115 n p1 q38 C39).bind (fun z => match z with | (q42, C43) => (if q42 = 0 then (f_31 n p0 C43).bind (fun z => match z with | (q46, C47) => (if ¬ q46 = 0 then (f_26 n p0 (61 : Int32) C47).bind (fun z => match z with | (q50, C51) => (if q50 = 0 then some ((.inr (.inr (.inl ()))), C51) else (f_42 n p0 C51).bind (fun z => match z with | (q54, C55) => (if ¬ q54 = 0 then (if (cI C47 p0 8) < 0 then (f_23 n p0 C55).bind (fun z => match z with | (q59, C60) => (if q59 = (44 : Int32) then lp_39_2 n p0 p1 (p2 + (1 : Int32)) (uI C60 p0 4 ((cI C60 p0 4) + (1 : Int32))) else some ((.inr (.inr (.inr (.inl ())))), C60))) else (if (4 : Int32) ≤ (cI C47 p0 8) then (f_23 n p0 C55).bind (fun z => match z with | (q64, C65) => (if q64 = (44 : Int32) then lp_39_2 n p0 p1 (p2 + (1 : Int32)) (uI C65 p0 4 ((cI C65 p0 4) + (1 : Int32))) else some ((.inr (.inr (.inr (.inl ())))), C65))) else (cP C55 p1 5).bind (fun r68 => if isK r68 12 = true then if amIn (cI C47 p0 8) (aLen r68) = true then (f_23 n p0 (uI C55 r68 (Int32.toNatClampNeg (cI C47 p0 8)) (cI C55 p0 10))).bind (fun z => match z with | (q72, C73) => (if q72 = (44 : Int32) then lp_39_2 n p0 p1 (p2 + (1 : Int32)) (uI C73 p0 4 ((cI C73 p0 4) + (1 : Int32))) else some ((.inr (.inr (.inr (.inl ())))), C73))) else none else none))) else some ((.inr (.inr (.inl ()))), C55))))) else some ((.inr (.inl ())), C47))) else some ((.inl p0), C43))) else none))) else none)
set_option maxRecDepth 20000 in
set_option maxHeartbeats 4000000 in
theorem lt_39_2 : ∀ (n : Nat) (p0 : Nat) (p1 : Nat) (p2 : Int32) (C : AmC) (r : ((Nat) ⊕ (Unit) ⊕ (Unit) ⊕ (Unit) ⊕ (Nat)) × AmC), lp_39_2 n p0 p1 p2 C = some r → ∀ (o : AmO) (M' : AmM), (match r with
        | ((.inl w0), C') => En false 39 14 [(0, .ref w0)] [] (mkM C') o M'
        | ((.inr (.inl _)), C') => En false 39 21 [] [] (mkM C') o M'
        | ((.inr (.inr (.inl _))), C') => En false 39 33 [] [] (mkM C') o M'
        | ((.inr (.inr (.inr (.inl _)))), C') => En false 39 50 [] [] (mkM C') o M'
        | ((.inr (.inr (.inr (.inr w0)))), C') => En false 39 60 [(0, .ref w0)] [] (mkM C') o M') → En false 39 2 [(0, .ref p0), (1, .ref p1), (2, .int p2)] [] (mkM C) o M' := by
  intro n
  induction n with
  | zero => intro p0 p1 p2 C r h; cases h
  | succ n ih =>
    intro p0 p1 p2 C r h o M' hk
    unfold lp_39_2 at h
    refine en_iload rfl rfl ?_
    refine ec_iconst cst_4 rfl ?_
    rcases gi h with ⟨c1, h⟩ | ⟨c1, h⟩
    · refine en_icmp_gt_t c1 rfl ?_
      cases h
      exact en_sub [0] rfl rfl hk
    · refine en_icmp_gt_f c1 rfl ?_
      refine en_aload rfl rfl ?_
      obtain ⟨g2, h⟩ := gd h
      obtain ⟨⟨q3, C4⟩, e5, h⟩ := gb h
      dsimp only at h
      refine ec_callV1 (k' := 23) (n := 1) (rc := 2) (a := p0) (as := []) ⟨rfl, rfl⟩ rfl rfl (Nat.le_of_ble_eq_true rfl) (Nat.le_of_ble_eq_true rfl) (Nat.le_of_ble_eq_true rfl) g2 rfl (t_23 e5) ?_
      refine ec_iconst cst_130 rfl ?_
      rcases gi h with ⟨c6, h⟩ | ⟨c6, h⟩
      · refine en_icmp_ne_t c6 rfl ?_
        refine en_aload rfl rfl ?_
        obtain ⟨⟨q7, C8⟩, e9, h⟩ := gb h
        dsimp only at h
        refine ec_callV1 (k' := 31) (n := 1) (rc := 2) (a := p0) (as := []) ⟨rfl, rfl⟩ rfl rfl (Nat.le_of_ble_eq_true rfl) (Nat.le_of_ble_eq_true rfl) (Nat.le_of_ble_eq_true rfl) g2 rfl (t_31 e9) ?_
        rcases gi h with ⟨c10, h⟩ | ⟨c10, h⟩
        · refine en_if_ne_t c10 rfl ?_
          refine en_aload rfl rfl ?_
          refine ec_getI (ci := 2) (j := 8) ⟨rfl, rfl, rfl⟩ g2 rfl ?_
          refine en_istore (l' := [(3, .int (cI C8 p0 8)), (0, .ref p0), (1, .ref p1), (2, .int p2)]) rfl rfl ?_
          refine en_aload rfl rfl ?_
          refine ec_iconst cst_61 rfl ?_
          obtain ⟨⟨q11, C12⟩, e13, h⟩ := gb h
          dsimp only at h
          refine ec_callV1 (k' := 26) (n := 2) (rc := 2) (a := p0) (as := [.int (61 : Int32)]) ⟨rfl, rfl⟩ rfl rfl (Nat.le_of_ble_eq_true rfl) (Nat.le_of_ble_eq_true rfl) (Nat.le_of_ble_eq_true rfl) g2 rfl (t_26 e13) ?_
          rcases gi h with ⟨c14, h⟩ | ⟨c14, h⟩
          · refine en_if_eq_t c14 rfl ?_
            cases h
            exact en_sub [] rfl rfl hk
          · refine en_if_eq_f c14 rfl ?_
            refine en_aload rfl rfl ?_
            obtain ⟨⟨q15, C16⟩, e17, h⟩ := gb h
            dsimp only at h
            refine ec_callV1 (k' := 42) (n := 1) (rc := 2) (a := p0) (as := []) ⟨rfl, rfl⟩ rfl rfl (Nat.le_of_ble_eq_true rfl) (Nat.le_of_ble_eq_true rfl) (Nat.le_of_ble_eq_true rfl) g2 rfl (t_42 e17) ?_
            rcases gi h with ⟨c18, h⟩ | ⟨c18, h⟩
            · refine en_if_ne_t c18 rfl ?_
              refine en_iload rfl rfl ?_
              rcases gi h with ⟨c19, h⟩ | ⟨c19, h⟩
              · refine en_if_lt_t c19 rfl ?_
                refine en_aload rfl rfl ?_
                obtain ⟨⟨q20, C21⟩, e22, h⟩ := gb h
                dsimp only at h
                refine ec_callV1 (k' := 23) (n := 1) (rc := 2) (a := p0) (as := []) ⟨rfl, rfl⟩ rfl rfl (Nat.le_of_ble_eq_true rfl) (Nat.le_of_ble_eq_true rfl) (Nat.le_of_ble_eq_true rfl) g2 rfl (t_23 e22) ?_
                refine ec_iconst cst_44 rfl ?_
                rcases gi h with ⟨c23, h⟩ | ⟨c23, h⟩
                · refine en_icmp_eq_t c23 rfl ?_
                  refine en_aload rfl rfl ?_
                  refine en_dup rfl rfl ?_
                  refine ec_getI (ci := 2) (j := 4) ⟨rfl, rfl, rfl⟩ g2 rfl ?_
                  refine ec_iconst cst_1 rfl ?_
                  refine en_iadd rfl ?_
                  refine ec_putI (ci := 2) (j := 4) ⟨rfl, rfl, rfl⟩ g2 rfl ?_
                  refine ec_iinc (l' := [(2, .int (p2 + (1 : Int32))), (3, .int (cI C8 p0 8)), (0, .ref p0), (1, .ref p1)]) rfl cst_1 rfl rfl ?_
                  refine en_goto rfl ?_
                  refine en_sub [2, 3, 0] rfl rfl ?_
                  exact ih _ _ _ _ _ h o M' hk
                · refine en_icmp_eq_f c23 rfl ?_
                  cases h
                  exact en_sub [] rfl rfl hk
              · refine en_if_lt_f c19 rfl ?_
                refine en_iload rfl rfl ?_
                refine ec_iconst cst_4 rfl ?_
                rcases gi h with ⟨c24, h⟩ | ⟨c24, h⟩
                · refine en_icmp_ge_t c24 rfl ?_
                  refine en_aload rfl rfl ?_
                  obtain ⟨⟨q25, C26⟩, e27, h⟩ := gb h
                  dsimp only at h
                  refine ec_callV1 (k' := 23) (n := 1) (rc := 2) (a := p0) (as := []) ⟨rfl, rfl⟩ rfl rfl (Nat.le_of_ble_eq_true rfl) (Nat.le_of_ble_eq_true rfl) (Nat.le_of_ble_eq_true rfl) g2 rfl (t_23 e27) ?_
                  refine ec_iconst cst_44 rfl ?_
                  rcases gi h with ⟨c28, h⟩ | ⟨c28, h⟩
                  · refine en_icmp_eq_t c28 rfl ?_
                    refine en_aload rfl rfl ?_
                    refine en_dup rfl rfl ?_
                    refine ec_getI (ci := 2) (j := 4) ⟨rfl, rfl, rfl⟩ g2 rfl ?_
                    refine ec_iconst cst_1 rfl ?_
                    refine en_iadd rfl ?_
                    refine ec_putI (ci := 2) (j := 4) ⟨rfl, rfl, rfl⟩ g2 rfl ?_
                    refine ec_iinc (l' := [(2, .int (p2 + (1 : Int32))), (3, .int (cI C8 p0 8)), (0, .ref p0), (1, .ref p1)]) rfl cst_1 rfl rfl ?_
                    refine en_goto rfl ?_
                    refine en_sub [2, 3, 0] rfl rfl ?_
                    exact ih _ _ _ _ _ h o M' hk
                  · refine en_icmp_eq_f c28 rfl ?_
                    cases h
                    exact en_sub [] rfl rfl hk
                · refine en_icmp_ge_f c24 rfl ?_
                  refine en_aload rfl rfl ?_
                  obtain ⟨g29, h⟩ := gd h
                  obtain ⟨r30, e31, h⟩ := gb h
                  refine ec_getP (ci := 8) (j := 5) ⟨rfl, rfl, rfl⟩ g29 e31 rfl ?_
                  refine en_iload rfl rfl ?_
                  refine en_aload rfl rfl ?_
                  refine ec_getI (ci := 2) (j := 10) ⟨rfl, rfl, rfl⟩ g2 rfl ?_
                  obtain ⟨g32, h⟩ := gd h
                  obtain ⟨g33, h⟩ := gd h
                  refine ec_iastore g32 g33 rfl ?_
                  refine en_aload rfl rfl ?_
                  obtain ⟨⟨q34, C35⟩, e36, h⟩ := gb h
                  dsimp only at h
                  refine ec_callV1 (k' := 23) (n := 1) (rc := 2) (a := p0) (as := []) ⟨rfl, rfl⟩ rfl rfl (Nat.le_of_ble_eq_true rfl) (Nat.le_of_ble_eq_true rfl) (Nat.le_of_ble_eq_true rfl) g2 rfl (t_23 e36) ?_
                  refine ec_iconst cst_44 rfl ?_
                  rcases gi h with ⟨c37, h⟩ | ⟨c37, h⟩
                  · refine en_icmp_eq_t c37 rfl ?_
                    refine en_aload rfl rfl ?_
                    refine en_dup rfl rfl ?_
                    refine ec_getI (ci := 2) (j := 4) ⟨rfl, rfl, rfl⟩ g2 rfl ?_
                    refine ec_iconst cst_1 rfl ?_
                    refine en_iadd rfl ?_
                    refine ec_putI (ci := 2) (j := 4) ⟨rfl, rfl, rfl⟩ g2 rfl ?_
                    refine ec_iinc (l' := [(2, .int (p2 + (1 : Int32))), (3, .int (cI C8 p0 8)), (0, .ref p0), (1, .ref p1)]) rfl cst_1 rfl rfl ?_
                    refine en_goto rfl ?_
                    refine en_sub [2, 3, 0] rfl rfl ?_
                    exact ih _ _ _ _ _ h o M' hk
                  · refine en_icmp_eq_f c37 rfl ?_
                    cases h
                    exact en_sub [] rfl rfl hk
            · refine en_if_ne_f c18 rfl ?_
              cases h
              exact en_sub [] rfl rfl hk
        · refine en_if_ne_f c10 rfl ?_
          cases h
          exact en_sub [] rfl rfl hk
      · refine en_icmp_ne_f c6 rfl ?_
        refine en_aload rfl rfl ?_
        refine en_aload rfl rfl ?_
        obtain ⟨⟨q38, C39⟩, e40, h⟩ := gb h
        dsimp only at h
        refine ec_callV1 (k' := 24) (n := 1) (rc := 2) (a := p0) (as := []) ⟨rfl, rfl⟩ rfl rfl (Nat.le_of_ble_eq_true rfl) (Nat.le_of_ble_eq_true rfl) (Nat.le_of_ble_eq_true rfl) g2 rfl (t_24 e40) ?_
        obtain ⟨g41, h⟩ := gd h
        obtain ⟨⟨q42, C43⟩, e44, h⟩ := gb h
        dsimp only at h
        refine ec_callV1 (k' := 115) (n := 2) (rc := 8) (a := p1) (as := [.int q38]) ⟨rfl, rfl⟩ rfl rfl (Nat.le_of_ble_eq_true rfl) (Nat.le_of_ble_eq_true rfl) (Nat.le_of_ble_eq_true rfl) g41 rfl (t_115 e44) ?_
        rcases gi h with ⟨c45, h⟩ | ⟨c45, h⟩
        · refine en_if_eq_t c45 rfl ?_
          refine en_aload rfl rfl ?_
          obtain ⟨⟨q46, C47⟩, e48, h⟩ := gb h
          dsimp only at h
          refine ec_callV1 (k' := 31) (n := 1) (rc := 2) (a := p0) (as := []) ⟨rfl, rfl⟩ rfl rfl (Nat.le_of_ble_eq_true rfl) (Nat.le_of_ble_eq_true rfl) (Nat.le_of_ble_eq_true rfl) g2 rfl (t_31 e48) ?_
          rcases gi h with ⟨c49, h⟩ | ⟨c49, h⟩
          · refine en_if_ne_t c49 rfl ?_
            refine en_aload rfl rfl ?_
            refine ec_getI (ci := 2) (j := 8) ⟨rfl, rfl, rfl⟩ g2 rfl ?_
            refine en_istore (l' := [(3, .int (cI C47 p0 8)), (0, .ref p0), (1, .ref p1), (2, .int p2)]) rfl rfl ?_
            refine en_aload rfl rfl ?_
            refine ec_iconst cst_61 rfl ?_
            obtain ⟨⟨q50, C51⟩, e52, h⟩ := gb h
            dsimp only at h
            refine ec_callV1 (k' := 26) (n := 2) (rc := 2) (a := p0) (as := [.int (61 : Int32)]) ⟨rfl, rfl⟩ rfl rfl (Nat.le_of_ble_eq_true rfl) (Nat.le_of_ble_eq_true rfl) (Nat.le_of_ble_eq_true rfl) g2 rfl (t_26 e52) ?_
            rcases gi h with ⟨c53, h⟩ | ⟨c53, h⟩
            · refine en_if_eq_t c53 rfl ?_
              cases h
              exact en_sub [] rfl rfl hk
            · refine en_if_eq_f c53 rfl ?_
              refine en_aload rfl rfl ?_
              obtain ⟨⟨q54, C55⟩, e56, h⟩ := gb h
              dsimp only at h
              refine ec_callV1 (k' := 42) (n := 1) (rc := 2) (a := p0) (as := []) ⟨rfl, rfl⟩ rfl rfl (Nat.le_of_ble_eq_true rfl) (Nat.le_of_ble_eq_true rfl) (Nat.le_of_ble_eq_true rfl) g2 rfl (t_42 e56) ?_
              rcases gi h with ⟨c57, h⟩ | ⟨c57, h⟩
              · refine en_if_ne_t c57 rfl ?_
                refine en_iload rfl rfl ?_
                rcases gi h with ⟨c58, h⟩ | ⟨c58, h⟩
                · refine en_if_lt_t c58 rfl ?_
                  refine en_aload rfl rfl ?_
                  obtain ⟨⟨q59, C60⟩, e61, h⟩ := gb h
                  dsimp only at h
                  refine ec_callV1 (k' := 23) (n := 1) (rc := 2) (a := p0) (as := []) ⟨rfl, rfl⟩ rfl rfl (Nat.le_of_ble_eq_true rfl) (Nat.le_of_ble_eq_true rfl) (Nat.le_of_ble_eq_true rfl) g2 rfl (t_23 e61) ?_
                  refine ec_iconst cst_44 rfl ?_
                  rcases gi h with ⟨c62, h⟩ | ⟨c62, h⟩
                  · refine en_icmp_eq_t c62 rfl ?_
                    refine en_aload rfl rfl ?_
                    refine en_dup rfl rfl ?_
                    refine ec_getI (ci := 2) (j := 4) ⟨rfl, rfl, rfl⟩ g2 rfl ?_
                    refine ec_iconst cst_1 rfl ?_
                    refine en_iadd rfl ?_
                    refine ec_putI (ci := 2) (j := 4) ⟨rfl, rfl, rfl⟩ g2 rfl ?_
                    refine ec_iinc (l' := [(2, .int (p2 + (1 : Int32))), (3, .int (cI C47 p0 8)), (0, .ref p0), (1, .ref p1)]) rfl cst_1 rfl rfl ?_
                    refine en_goto rfl ?_
                    refine en_sub [2, 3, 0] rfl rfl ?_
                    exact ih _ _ _ _ _ h o M' hk
                  · refine en_icmp_eq_f c62 rfl ?_
                    cases h
                    exact en_sub [] rfl rfl hk
                · refine en_if_lt_f c58 rfl ?_
                  refine en_iload rfl rfl ?_
                  refine ec_iconst cst_4 rfl ?_
                  rcases gi h with ⟨c63, h⟩ | ⟨c63, h⟩
                  · refine en_icmp_ge_t c63 rfl ?_
                    refine en_aload rfl rfl ?_
                    obtain ⟨⟨q64, C65⟩, e66, h⟩ := gb h
                    dsimp only at h
                    refine ec_callV1 (k' := 23) (n := 1) (rc := 2) (a := p0) (as := []) ⟨rfl, rfl⟩ rfl rfl (Nat.le_of_ble_eq_true rfl) (Nat.le_of_ble_eq_true rfl) (Nat.le_of_ble_eq_true rfl) g2 rfl (t_23 e66) ?_
                    refine ec_iconst cst_44 rfl ?_
                    rcases gi h with ⟨c67, h⟩ | ⟨c67, h⟩
                    · refine en_icmp_eq_t c67 rfl ?_
                      refine en_aload rfl rfl ?_
                      refine en_dup rfl rfl ?_
                      refine ec_getI (ci := 2) (j := 4) ⟨rfl, rfl, rfl⟩ g2 rfl ?_
                      refine ec_iconst cst_1 rfl ?_
                      refine en_iadd rfl ?_
                      refine ec_putI (ci := 2) (j := 4) ⟨rfl, rfl, rfl⟩ g2 rfl ?_
                      refine ec_iinc (l' := [(2, .int (p2 + (1 : Int32))), (3, .int (cI C47 p0 8)), (0, .ref p0), (1, .ref p1)]) rfl cst_1 rfl rfl ?_
                      refine en_goto rfl ?_
                      refine en_sub [2, 3, 0] rfl rfl ?_
                      exact ih _ _ _ _ _ h o M' hk
                    · refine en_icmp_eq_f c67 rfl ?_
                      cases h
                      exact en_sub [] rfl rfl hk
                  · refine en_icmp_ge_f c63 rfl ?_
                    refine en_aload rfl rfl ?_
                    obtain ⟨r68, e69, h⟩ := gb h
                    refine ec_getP (ci := 8) (j := 5) ⟨rfl, rfl, rfl⟩ g41 e69 rfl ?_
                    refine en_iload rfl rfl ?_
                    refine en_aload rfl rfl ?_
                    refine ec_getI (ci := 2) (j := 10) ⟨rfl, rfl, rfl⟩ g2 rfl ?_
                    obtain ⟨g70, h⟩ := gd h
                    obtain ⟨g71, h⟩ := gd h
                    refine ec_iastore g70 g71 rfl ?_
                    refine en_aload rfl rfl ?_
                    obtain ⟨⟨q72, C73⟩, e74, h⟩ := gb h
                    dsimp only at h
                    refine ec_callV1 (k' := 23) (n := 1) (rc := 2) (a := p0) (as := []) ⟨rfl, rfl⟩ rfl rfl (Nat.le_of_ble_eq_true rfl) (Nat.le_of_ble_eq_true rfl) (Nat.le_of_ble_eq_true rfl) g2 rfl (t_23 e74) ?_
                    refine ec_iconst cst_44 rfl ?_
                    rcases gi h with ⟨c75, h⟩ | ⟨c75, h⟩
                    · refine en_icmp_eq_t c75 rfl ?_
                      refine en_aload rfl rfl ?_
                      refine en_dup rfl rfl ?_
                      refine ec_getI (ci := 2) (j := 4) ⟨rfl, rfl, rfl⟩ g2 rfl ?_
                      refine ec_iconst cst_1 rfl ?_
                      refine en_iadd rfl ?_
                      refine ec_putI (ci := 2) (j := 4) ⟨rfl, rfl, rfl⟩ g2 rfl ?_
                      refine ec_iinc (l' := [(2, .int (p2 + (1 : Int32))), (3, .int (cI C47 p0 8)), (0, .ref p0), (1, .ref p1)]) rfl cst_1 rfl rfl ?_
                      refine en_goto rfl ?_
                      refine en_sub [2, 3, 0] rfl rfl ?_
                      exact ih _ _ _ _ _ h o M' hk
                    · refine en_icmp_eq_f c75 rfl ?_
                      cases h
                      exact en_sub [] rfl rfl hk
              · refine en_if_ne_f c57 rfl ?_
                cases h
                exact en_sub [] rfl rfl hk
          · refine en_if_ne_f c49 rfl ?_
            cases h
            exact en_sub [] rfl rfl hk
        · refine en_if_eq_f c45 rfl ?_
          cases h
          exact en_sub [0] rfl rfl hk
/-- BulkWriter$Parser.readSets(LBulkWriter$Statement;)Z -/
def f_39 (n : Nat) (a0 : Nat) (a1 : Nat) (C : AmC) : Option (Int32 × AmC) := (lp_39_2 n a0 a1 (0 : Int32) C).bind (fun q => match q with | ((.inl u79), C78) => if isK u79 2 = true then (f_25 n u79 (3 : Int32) C78).bind (fun z => match z with | (q81, C82) => if q81 = 0 ∨ q81 = 1 then some (q81, C82) else none) else none | ((.inr (.inl _)), C78) => some ((0 : Int32), C78) | ((.inr (.inr (.inl _))), C78) => some ((0 : Int32), C78) | ((.inr (.inr (.inr (.inl _)))), C78) => some ((1 : Int32), C78) | ((.inr (.inr (.inr (.inr u85)))), C78) => if isK u85 2 = true then (f_25 n u85 (1 : Int32) C78).bind (fun z => match z with | (q87, C88) => if q87 = 0 ∨ q87 = 1 then some (q87, C88) else none) else none)
set_option maxRecDepth 20000 in
set_option maxHeartbeats 4000000 in
theorem t_39 {n : Nat} {a0 : Nat} {a1 : Nat} {C : AmC} {r : Int32} {C' : AmC} (h : f_39 n a0 a1 C = some (r, C')) : En false 39 0 [(0, .ref a0), (1, .ref a1)] [] (mkM C) (.inl (some (.int r))) (mkM C') := by
  unfold f_39 at h
  refine ec_iconst cst_0 rfl ?_
  refine en_istore (l' := [(2, .int (0 : Int32)), (0, .ref a0), (1, .ref a1)]) rfl rfl ?_
  obtain ⟨⟨q76, C78⟩, e77, h⟩ := gb h
  refine en_sub [1, 2, 0] rfl rfl (lt_39_2 n _ _ _ _ _ e77 _ _ ?_)
  rcases q76 with u79 | ⟨⟩ | ⟨⟩ | ⟨⟩ | u85
  · dsimp only at h ⊢
    refine en_aload rfl rfl ?_
    refine ec_iconst cst_3 rfl ?_
    obtain ⟨g80, h⟩ := gd h
    obtain ⟨⟨q81, C82⟩, e83, h⟩ := gb h
    dsimp only at h
    refine ec_callV1 (k' := 25) (n := 2) (rc := 2) (a := u79) (as := [.int (3 : Int32)]) ⟨rfl, rfl⟩ rfl rfl (Nat.le_of_ble_eq_true rfl) (Nat.le_of_ble_eq_true rfl) (Nat.le_of_ble_eq_true rfl) g80 rfl (t_25 e83) ?_
    obtain ⟨g84, h⟩ := gd h
    cases h
    exact en_zret g84 rfl
  · dsimp only at h ⊢
    refine ec_iconst cst_0 rfl ?_
    cases h
    exact en_zret (Or.inl rfl) rfl
  · dsimp only at h ⊢
    refine ec_iconst cst_0 rfl ?_
    cases h
    exact en_zret (Or.inl rfl) rfl
  · dsimp only at h ⊢
    refine ec_iconst cst_1 rfl ?_
    cases h
    exact en_zret (Or.inr rfl) rfl
  · dsimp only at h ⊢
    refine en_aload rfl rfl ?_
    refine ec_iconst cst_1 rfl ?_
    obtain ⟨g86, h⟩ := gd h
    obtain ⟨⟨q87, C88⟩, e89, h⟩ := gb h
    dsimp only at h
    refine ec_callV1 (k' := 25) (n := 2) (rc := 2) (a := u85) (as := [.int (1 : Int32)]) ⟨rfl, rfl⟩ rfl rfl (Nat.le_of_ble_eq_true rfl) (Nat.le_of_ble_eq_true rfl) (Nat.le_of_ble_eq_true rfl) g86 rfl (t_25 e89) ?_
    obtain ⟨g90, h⟩ := gd h
    cases h
    exact en_zret g90 rfl
/-- BulkWriter$Script.addTest(LBulkWriter$Statement;II)V -/
def f_99 (n : Nat) (a0 : Nat) (a1 : Nat) (a2 : Int32) (a3 : Int32) (C : AmC) : Option (Unit × AmC) := if isK a0 6 = true then (if (cI C a0 17) < 0 then some ((), C) else (if (cI C a0 17) < (450 : Int32) then (cP C a0 18).bind (fun r4 => if isK r4 12 = true then if amIn (cI C a0 17) (aLen r4) = true then (cP (uI C r4 (Int32.toNatClampNeg (cI C a0 17)) a2) a0 19).bind (fun r8 => if isK r8 12 = true then if amIn (cI (uI C r4 (Int32.toNatClampNeg (cI C a0 17)) a2) a0 17) (aLen r8) = true then if isK a1 8 = true then some ((), uI (uI (uI (uI C r4 (Int32.toNatClampNeg (cI C a0 17)) a2) r8 (Int32.toNatClampNeg (cI (uI C r4 (Int32.toNatClampNeg (cI C a0 17)) a2) a0 17)) a3) a0 17 ((cI (uI (uI C r4 (Int32.toNatClampNeg (cI C a0 17)) a2) r8 (Int32.toNatClampNeg (cI (uI C r4 (Int32.toNatClampNeg (cI C a0 17)) a2) a0 17)) a3) a0 17) + (1 : Int32))) a1 8 ((cI (uI (uI (uI C r4 (Int32.toNatClampNeg (cI C a0 17)) a2) r8 (Int32.toNatClampNeg (cI (uI C r4 (Int32.toNatClampNeg (cI C a0 17)) a2) a0 17)) a3) a0 17 ((cI (uI (uI C r4 (Int32.toNatClampNeg (cI C a0 17)) a2) r8 (Int32.toNatClampNeg (cI (uI C r4 (Int32.toNatClampNeg (cI C a0 17)) a2) a0 17)) a3) a0 17) + (1 : Int32))) a1 8) + (1 : Int32))) else none else none else none) else none else none) else some ((), C))) else none
set_option maxRecDepth 20000 in
set_option maxHeartbeats 4000000 in
theorem t_99 {n : Nat} {a0 : Nat} {a1 : Nat} {a2 : Int32} {a3 : Int32} {C : AmC} {r : Unit} {C' : AmC} (h : f_99 n a0 a1 a2 a3 C = some (r, C')) : En false 99 0 [(0, .ref a0), (1, .ref a1), (2, .int a2), (3, .int a3)] [] (mkM C) (.inl none) (mkM C') := by
  unfold f_99 at h
  refine en_aload rfl rfl ?_
  obtain ⟨g1, h⟩ := gd h
  refine ec_getI (ci := 6) (j := 17) ⟨rfl, rfl, rfl⟩ g1 rfl ?_
  rcases gi h with ⟨c2, h⟩ | ⟨c2, h⟩
  · refine en_if_lt_t c2 rfl ?_
    cases h
    exact en_vret rfl
  · refine en_if_lt_f c2 rfl ?_
    refine en_aload rfl rfl ?_
    refine ec_getI (ci := 6) (j := 17) ⟨rfl, rfl, rfl⟩ g1 rfl ?_
    refine ec_iconst cst_450 rfl ?_
    rcases gi h with ⟨c3, h⟩ | ⟨c3, h⟩
    · refine en_icmp_lt_t c3 rfl ?_
      refine en_aload rfl rfl ?_
      obtain ⟨r4, e5, h⟩ := gb h
      refine ec_getP (ci := 6) (j := 18) ⟨rfl, rfl, rfl⟩ g1 e5 rfl ?_
      refine en_aload rfl rfl ?_
      refine ec_getI (ci := 6) (j := 17) ⟨rfl, rfl, rfl⟩ g1 rfl ?_
      refine en_iload rfl rfl ?_
      obtain ⟨g6, h⟩ := gd h
      obtain ⟨g7, h⟩ := gd h
      refine ec_iastore g6 g7 rfl ?_
      refine en_aload rfl rfl ?_
      obtain ⟨r8, e9, h⟩ := gb h
      refine ec_getP (ci := 6) (j := 19) ⟨rfl, rfl, rfl⟩ g1 e9 rfl ?_
      refine en_aload rfl rfl ?_
      refine ec_getI (ci := 6) (j := 17) ⟨rfl, rfl, rfl⟩ g1 rfl ?_
      refine en_iload rfl rfl ?_
      obtain ⟨g10, h⟩ := gd h
      obtain ⟨g11, h⟩ := gd h
      refine ec_iastore g10 g11 rfl ?_
      refine en_aload rfl rfl ?_
      refine en_dup rfl rfl ?_
      refine ec_getI (ci := 6) (j := 17) ⟨rfl, rfl, rfl⟩ g1 rfl ?_
      refine ec_iconst cst_1 rfl ?_
      refine en_iadd rfl ?_
      refine ec_putI (ci := 6) (j := 17) ⟨rfl, rfl, rfl⟩ g1 rfl ?_
      refine en_aload rfl rfl ?_
      refine en_dup rfl rfl ?_
      obtain ⟨g12, h⟩ := gd h
      refine ec_getI (ci := 8) (j := 8) ⟨rfl, rfl, rfl⟩ g12 rfl ?_
      refine ec_iconst cst_1 rfl ?_
      refine en_iadd rfl ?_
      refine ec_putI (ci := 8) (j := 8) ⟨rfl, rfl, rfl⟩ g12 rfl ?_
      cases h
      exact en_vret rfl
    · refine en_icmp_lt_f c3 rfl ?_
      cases h
      exact en_vret rfl
def lp_41_8 : Nat → Nat → Nat → Int32 → AmC → Option (((Unit) ⊕ (Nat) ⊕ (Unit) ⊕ (Unit)) × AmC)
  | 0, _, _, _, _ => none
  | n + 1, p0, p1, p2, C => (if (900 : Int32) ≤ p2 then some ((.inr (.inr (.inr ()))), C) else if isK p0 2 = true then (f_23 n p0 C).bind (fun z => match z with | (q8, C9) => (if ¬ q8 = (215 : Int32) then (f_23 n p0 C9).bind (fun z => match z with | (q12, C13) => (if ¬ q12 = (216 : Int32) then some ((.inr (.inr (.inr ()))), C13) else (f_42 n p0 (uI C13 p0 4 ((cI C13 p0 4) + (1 : Int32)))).bind (fun z => match z with | (q16, C17) => (if ¬ q16 = 0 then (f_23 n p0 C17).bind (fun z => match z with | (q20, C21) => (if q20 = (60 : Int32) then (f_42 n p0 (uI C21 p0 4 ((cI C21 p0 4) + (1 : Int32)))).bind (fun z => match z with | (q24, C25) => (if ¬ q24 = 0 then (cP C25 p0 5).bind (fun r28 => if isK r28 6 = true then (f_99 n r28 p1 q20 (cI C17 p0 10) C25).bind (fun z => match z with | (_, C32) => lp_41_8 n p0 p1 (p2 + (1 : Int32)) C32) else none) else some ((.inr (.inr (.inl ()))), C25))) else (if q20 = (61 : Int32) then (f_42 n p0 (uI C21 p0 4 ((cI C21 p0 4) + (1 : Int32)))).bind (fun z => match z with | (q35, C36) => (if ¬ q35 = 0 then (cP C36 p0 5).bind (fun r39 => if isK r39 6 = true then (f_99 n r39 p1 q20 (cI C17 p0 10) C36).bind (fun z => match z with | (_, C43) => lp_41_8 n p0 p1 (p2 + (1 : Int32)) C43) else none) else some ((.inr (.inr (.inl ()))), C36))) else (if q20 = (62 : Int32) then (f_42 n p0 (uI C21 p0 4 ((cI C21 p0 4) + (1 : Int32)))).bind (fun z => match z with | (q46, C47) => (if ¬ q46 = 0 then (cP C47 p0 5).bind (fun r50 => if isK r50 6 = true then (f_99 n r50 p1 q20 (cI C17 p0 10) C47).bind (fun z => match z with | (_, C54) => lp_41_8 n p0 p1 (p2 + (1 : Int32)) C54) else none) else some ((.inr (.inr (.inl ()))), C47))) else some ((.inr (.inl p0)), C21))))) else some ((.inl ()), C17))))) else (if p2 = 0 then (f_42 n p0 (uI C9 p0 4 ((cI C9 p0 4) + (1 : Int32)))).bind (fun z => match z with | (q57, C58) => (if ¬ q57 = 0 then (f_23 n p0 C58).bind (fun z => match z with | (q61, C62) => (if q61 = (60 : Int32) then (f_42 n p0 (uI C62 p0 4 ((cI C62 p0 4) + (1 : Int32)))).bind (fun z => match z with | (q65, C66) => (if ¬ q65 = 0 then (cP C66 p0 5).bind (fun r69 => if isK r69 6 = true then (f_99 n r69 p1 q61 (cI C58 p0 10) C66).bind (fun z => match z with | (_, C73) => lp_41_8 n p0 p1 (p2 + (1 : Int32)) C73) else none) else some ((.inr (.inr (.inl ()))), C66))) else (if q61 = (61 : Int32) then (f_42 n p0 (uI C62 p0 4 ((cI C62 p0 4) + (1 : Int32)))).bind (fun z => match z with | (q76, C77) => (if ¬ q76 = 0 then (cP C77 p0 5).bind (fun r80 => if isK r80 6 = true then (f_99 n r80 p1 q61 (cI C58 p0 10) C77).bind (fun z => match z with | (_, C84) => lp_41_8 n p0 p1 (p2 + (1 : Int32)) C84) else none) else some ((.inr (.inr (.inl ()))), C77))) else (if q61 = (62 : Int32) then (f_42 n p0 (uI C62 p0 4 ((cI C62 p0 4) + (1 : Int32)))).bind (fun z => match z with | (q87, C88) => (if ¬ q87 = 0 then (cP C88 p0 5).bind (fun r91 => if isK r91 6 = true then (f_99 n r91 p1 q61 (cI C58 p0 10) C88).bind (fun z => match z with | (_, C95) => lp_41_8 n p0 p1 (p2 + (1 : Int32)) C95) else none) else some ((.inr (.inr (.inl ()))), C88))) else some ((.inr (.inl p0)), C62))))) else some ((.inl ()), C58))) else (f_23 n p0 C9).bind (fun z => match z with | (q97, C98) => (if ¬ q97 = (216 : Int32) then some ((.inr (.inr (.inr ()))), C98) else (f_42 n p0 (uI C98 p0 4 ((cI C98 p0 4) + (1 : Int32)))).bind (fun z => match z with | (q101, C102) => (if ¬ q101 = 0 then (f_23 n p0 C102).bind (fun z => match z with | (q105, C106) => (if q105 = (60 : Int32) then (f_42 n p0 (uI C106 p0 4 ((cI C106 p0 4) + (1 : Int32)))).bind (fun z => match z with | (q109, C110) => (if ¬ q109 = 0 then (cP C110 p0 5).bind (fun r113 => if isK r113 6 = true then (f_99 n r113 p1 q105 (cI C102 p0 10) C110).bind (fun z => match z with | (_, C117) => lp_41_8 n p0 p1 (p2 + (1 : Int32)) C117) else none) else some ((.inr (.inr (.inl ()))), C110))) else (if q105 = (61 : Int32) then (f_42 n p0 (uI C106 p0 4 ((cI C106 p0 4) + (1 : Int32)))).bind (fun z => match z with | (q120, C121) => (if ¬ q120 = 0 then (cP C121 p0 5).bind (fun r124 => if isK r124 6 = true then (f_99 n r124 p1 q105 (cI C102 p0 10) C121).bind (fun z => match z with | (_, C128) => lp_41_8 n p0 p1 (p2 + (1 : Int32)) C128) else none) else some ((.inr (.inr (.inl ()))), C121))) else (if q105 = (62 : Int32) then (f_42 n p0 (uI C106 p0 4 ((cI C106 p0 4) + (1 : Int32)))).bind (fun z => match z with | (q131, C132) => (if ¬ q131 = 0 then (cP C132 p0 5).bind (fun r135 => if isK r135 6 = true then (f_99 n r135 p1 q105 (cI C102 p0 10) C132).bind (fun z => match z with | (_, C139) => lp_41_8 n p0 p1 (p2 + (1 : Int32)) C139) else none) else some ((.inr (.inr (.inl ()))), C132))) else some ((.inr (.inl p0)), C106))))) else some ((.inl ()), C102)))))))) else none)
set_option maxRecDepth 20000 in
set_option maxHeartbeats 4000000 in
theorem lt_41_8 : ∀ (n : Nat) (p0 : Nat) (p1 : Nat) (p2 : Int32) (C : AmC) (r : ((Unit) ⊕ (Nat) ⊕ (Unit) ⊕ (Unit)) × AmC), lp_41_8 n p0 p1 p2 C = some r → ∀ (o : AmO) (M' : AmM), (match r with
        | ((.inl _), C') => En false 41 30 [] [] (mkM C') o M'
        | ((.inr (.inl w0)), C') => En false 41 47 [(0, .ref w0)] [] (mkM C') o M'
        | ((.inr (.inr (.inl _))), C') => En false 41 60 [] [] (mkM C') o M'
        | ((.inr (.inr (.inr _))), C') => En false 41 70 [] [] (mkM C') o M') → En false 41 8 [(0, .ref p0), (1, .ref p1), (2, .int p2)] [] (mkM C) o M' := by
  intro n
  induction n with
  | zero => intro p0 p1 p2 C r h; cases h
  | succ n ih =>
    intro p0 p1 p2 C r h o M' hk
    unfold lp_41_8 at h
    refine en_iload rfl rfl ?_
    refine ec_iconst cst_900 rfl ?_
    rcases gi h with ⟨c6, h⟩ | ⟨c6, h⟩
    · refine en_icmp_ge_t c6 rfl ?_
      cases h
      exact en_sub [] rfl rfl hk
    · refine en_icmp_ge_f c6 rfl ?_
      refine en_aload rfl rfl ?_
      obtain ⟨g7, h⟩ := gd h
      obtain ⟨⟨q8, C9⟩, e10, h⟩ := gb h
      dsimp only at h
      refine ec_callV1 (k' := 23) (n := 1) (rc := 2) (a := p0) (as := []) ⟨rfl, rfl⟩ rfl rfl (Nat.le_of_ble_eq_true rfl) (Nat.le_of_ble_eq_true rfl) (Nat.le_of_ble_eq_true rfl) g7 rfl (t_23 e10) ?_
      refine ec_iconst cst_215 rfl ?_
      rcases gi h with ⟨c11, h⟩ | ⟨c11, h⟩
      · refine en_icmp_ne_t c11 rfl ?_
        refine en_aload rfl rfl ?_
        obtain ⟨⟨q12, C13⟩, e14, h⟩ := gb h
        dsimp only at h
        refine ec_callV1 (k' := 23) (n := 1) (rc := 2) (a := p0) (as := []) ⟨rfl, rfl⟩ rfl rfl (Nat.le_of_ble_eq_true rfl) (Nat.le_of_ble_eq_true rfl) (Nat.le_of_ble_eq_true rfl) g7 rfl (t_23 e14) ?_
        refine ec_iconst cst_216 rfl ?_
        rcases gi h with ⟨c15, h⟩ | ⟨c15, h⟩
        · refine en_icmp_ne_t c15 rfl ?_
          cases h
          exact en_sub [] rfl rfl hk
        · refine en_icmp_ne_f c15 rfl ?_
          refine en_aload rfl rfl ?_
          refine en_dup rfl rfl ?_
          refine ec_getI (ci := 2) (j := 4) ⟨rfl, rfl, rfl⟩ g7 rfl ?_
          refine ec_iconst cst_1 rfl ?_
          refine en_iadd rfl ?_
          refine ec_putI (ci := 2) (j := 4) ⟨rfl, rfl, rfl⟩ g7 rfl ?_
          refine en_aload rfl rfl ?_
          obtain ⟨⟨q16, C17⟩, e18, h⟩ := gb h
          dsimp only at h
          refine ec_callV1 (k' := 42) (n := 1) (rc := 2) (a := p0) (as := []) ⟨rfl, rfl⟩ rfl rfl (Nat.le_of_ble_eq_true rfl) (Nat.le_of_ble_eq_true rfl) (Nat.le_of_ble_eq_true rfl) g7 rfl (t_42 e18) ?_
          rcases gi h with ⟨c19, h⟩ | ⟨c19, h⟩
          · refine en_if_ne_t c19 rfl ?_
            refine en_aload rfl rfl ?_
            refine ec_getI (ci := 2) (j := 10) ⟨rfl, rfl, rfl⟩ g7 rfl ?_
            refine en_istore (l' := [(3, .int (cI C17 p0 10)), (0, .ref p0), (1, .ref p1), (2, .int p2)]) rfl rfl ?_
            refine en_aload rfl rfl ?_
            obtain ⟨⟨q20, C21⟩, e22, h⟩ := gb h
            dsimp only at h
            refine ec_callV1 (k' := 23) (n := 1) (rc := 2) (a := p0) (as := []) ⟨rfl, rfl⟩ rfl rfl (Nat.le_of_ble_eq_true rfl) (Nat.le_of_ble_eq_true rfl) (Nat.le_of_ble_eq_true rfl) g7 rfl (t_23 e22) ?_
            refine en_istore (l' := [(4, .int q20), (3, .int (cI C17 p0 10)), (0, .ref p0), (1, .ref p1), (2, .int p2)]) rfl rfl ?_
            refine en_iload rfl rfl ?_
            refine ec_iconst cst_60 rfl ?_
            rcases gi h with ⟨c23, h⟩ | ⟨c23, h⟩
            · refine en_icmp_eq_t c23 rfl ?_
              refine en_aload rfl rfl ?_
              refine en_dup rfl rfl ?_
              refine ec_getI (ci := 2) (j := 4) ⟨rfl, rfl, rfl⟩ g7 rfl ?_
              refine ec_iconst cst_1 rfl ?_
              refine en_iadd rfl ?_
              refine ec_putI (ci := 2) (j := 4) ⟨rfl, rfl, rfl⟩ g7 rfl ?_
              refine en_aload rfl rfl ?_
              obtain ⟨⟨q24, C25⟩, e26, h⟩ := gb h
              dsimp only at h
              refine ec_callV1 (k' := 42) (n := 1) (rc := 2) (a := p0) (as := []) ⟨rfl, rfl⟩ rfl rfl (Nat.le_of_ble_eq_true rfl) (Nat.le_of_ble_eq_true rfl) (Nat.le_of_ble_eq_true rfl) g7 rfl (t_42 e26) ?_
              rcases gi h with ⟨c27, h⟩ | ⟨c27, h⟩
              · refine en_if_ne_t c27 rfl ?_
                refine en_aload rfl rfl ?_
                obtain ⟨r28, e29, h⟩ := gb h
                refine ec_getP (ci := 2) (j := 5) ⟨rfl, rfl, rfl⟩ g7 e29 rfl ?_
                refine en_aload rfl rfl ?_
                refine en_iload rfl rfl ?_
                refine en_iload rfl rfl ?_
                obtain ⟨g30, h⟩ := gd h
                obtain ⟨⟨q31, C32⟩, e33, h⟩ := gb h
                dsimp only at h
                refine ec_callV0 (k' := 99) (n := 4) (rc := 6) (a := r28) (as := [.ref p1, .int q20, .int (cI C17 p0 10)]) ⟨rfl, rfl⟩ rfl rfl (Nat.le_of_ble_eq_true rfl) (Nat.le_of_ble_eq_true rfl) (Nat.le_of_ble_eq_true rfl) g30 rfl (t_99 e33) ?_
                refine ec_iinc (l' := [(2, .int (p2 + (1 : Int32))), (4, .int q20), (3, .int (cI C17 p0 10)), (0, .ref p0), (1, .ref p1)]) rfl cst_1 rfl rfl ?_
                refine en_goto rfl ?_
                refine en_sub [3, 4, 0] rfl rfl ?_
                exact ih _ _ _ _ _ h o M' hk
              · refine en_if_ne_f c27 rfl ?_
                cases h
                exact en_sub [] rfl rfl hk
            · refine en_icmp_eq_f c23 rfl ?_
              refine en_iload rfl rfl ?_
              refine ec_iconst cst_61 rfl ?_
              rcases gi h with ⟨c34, h⟩ | ⟨c34, h⟩
              · refine en_icmp_eq_t c34 rfl ?_
                refine en_aload rfl rfl ?_
                refine en_dup rfl rfl ?_
                refine ec_getI (ci := 2) (j := 4) ⟨rfl, rfl, rfl⟩ g7 rfl ?_
                refine ec_iconst cst_1 rfl ?_
                refine en_iadd rfl ?_
                refine ec_putI (ci := 2) (j := 4) ⟨rfl, rfl, rfl⟩ g7 rfl ?_
                refine en_aload rfl rfl ?_
                obtain ⟨⟨q35, C36⟩, e37, h⟩ := gb h
                dsimp only at h
                refine ec_callV1 (k' := 42) (n := 1) (rc := 2) (a := p0) (as := []) ⟨rfl, rfl⟩ rfl rfl (Nat.le_of_ble_eq_true rfl) (Nat.le_of_ble_eq_true rfl) (Nat.le_of_ble_eq_true rfl) g7 rfl (t_42 e37) ?_
                rcases gi h with ⟨c38, h⟩ | ⟨c38, h⟩
                · refine en_if_ne_t c38 rfl ?_
                  refine en_aload rfl rfl ?_
                  obtain ⟨r39, e40, h⟩ := gb h
                  refine ec_getP (ci := 2) (j := 5) ⟨rfl, rfl, rfl⟩ g7 e40 rfl ?_
                  refine en_aload rfl rfl ?_
                  refine en_iload rfl rfl ?_
                  refine en_iload rfl rfl ?_
                  obtain ⟨g41, h⟩ := gd h
                  obtain ⟨⟨q42, C43⟩, e44, h⟩ := gb h
                  dsimp only at h
                  refine ec_callV0 (k' := 99) (n := 4) (rc := 6) (a := r39) (as := [.ref p1, .int q20, .int (cI C17 p0 10)]) ⟨rfl, rfl⟩ rfl rfl (Nat.le_of_ble_eq_true rfl) (Nat.le_of_ble_eq_true rfl) (Nat.le_of_ble_eq_true rfl) g41 rfl (t_99 e44) ?_
                  refine ec_iinc (l' := [(2, .int (p2 + (1 : Int32))), (4, .int q20), (3, .int (cI C17 p0 10)), (0, .ref p0), (1, .ref p1)]) rfl cst_1 rfl rfl ?_
                  refine en_goto rfl ?_
                  refine en_sub [3, 4, 0] rfl rfl ?_
                  exact ih _ _ _ _ _ h o M' hk
                · refine en_if_ne_f c38 rfl ?_
                  cases h
                  exact en_sub [] rfl rfl hk
              · refine en_icmp_eq_f c34 rfl ?_
                refine en_iload rfl rfl ?_
                refine ec_iconst cst_62 rfl ?_
                rcases gi h with ⟨c45, h⟩ | ⟨c45, h⟩
                · refine en_icmp_eq_t c45 rfl ?_
                  refine en_aload rfl rfl ?_
                  refine en_dup rfl rfl ?_
                  refine ec_getI (ci := 2) (j := 4) ⟨rfl, rfl, rfl⟩ g7 rfl ?_
                  refine ec_iconst cst_1 rfl ?_
                  refine en_iadd rfl ?_
                  refine ec_putI (ci := 2) (j := 4) ⟨rfl, rfl, rfl⟩ g7 rfl ?_
                  refine en_aload rfl rfl ?_
                  obtain ⟨⟨q46, C47⟩, e48, h⟩ := gb h
                  dsimp only at h
                  refine ec_callV1 (k' := 42) (n := 1) (rc := 2) (a := p0) (as := []) ⟨rfl, rfl⟩ rfl rfl (Nat.le_of_ble_eq_true rfl) (Nat.le_of_ble_eq_true rfl) (Nat.le_of_ble_eq_true rfl) g7 rfl (t_42 e48) ?_
                  rcases gi h with ⟨c49, h⟩ | ⟨c49, h⟩
                  · refine en_if_ne_t c49 rfl ?_
                    refine en_aload rfl rfl ?_
                    obtain ⟨r50, e51, h⟩ := gb h
                    refine ec_getP (ci := 2) (j := 5) ⟨rfl, rfl, rfl⟩ g7 e51 rfl ?_
                    refine en_aload rfl rfl ?_
                    refine en_iload rfl rfl ?_
                    refine en_iload rfl rfl ?_
                    obtain ⟨g52, h⟩ := gd h
                    obtain ⟨⟨q53, C54⟩, e55, h⟩ := gb h
                    dsimp only at h
                    refine ec_callV0 (k' := 99) (n := 4) (rc := 6) (a := r50) (as := [.ref p1, .int q20, .int (cI C17 p0 10)]) ⟨rfl, rfl⟩ rfl rfl (Nat.le_of_ble_eq_true rfl) (Nat.le_of_ble_eq_true rfl) (Nat.le_of_ble_eq_true rfl) g52 rfl (t_99 e55) ?_
                    refine ec_iinc (l' := [(2, .int (p2 + (1 : Int32))), (4, .int q20), (3, .int (cI C17 p0 10)), (0, .ref p0), (1, .ref p1)]) rfl cst_1 rfl rfl ?_
                    refine en_goto rfl ?_
                    refine en_sub [3, 4, 0] rfl rfl ?_
                    exact ih _ _ _ _ _ h o M' hk
                  · refine en_if_ne_f c49 rfl ?_
                    cases h
                    exact en_sub [] rfl rfl hk
                · refine en_icmp_eq_f c45 rfl ?_
                  cases h
                  exact en_sub [2] rfl rfl hk
          · refine en_if_ne_f c19 rfl ?_
            cases h
            exact en_sub [] rfl rfl hk
      · refine en_icmp_ne_f c11 rfl ?_
        refine en_iload rfl rfl ?_
        rcases gi h with ⟨c56, h⟩ | ⟨c56, h⟩
        · refine en_if_eq_t c56 rfl ?_
          refine en_aload rfl rfl ?_
          refine en_dup rfl rfl ?_
          refine ec_getI (ci := 2) (j := 4) ⟨rfl, rfl, rfl⟩ g7 rfl ?_
          refine ec_iconst cst_1 rfl ?_
          refine en_iadd rfl ?_
          refine ec_putI (ci := 2) (j := 4) ⟨rfl, rfl, rfl⟩ g7 rfl ?_
          refine en_aload rfl rfl ?_
          obtain ⟨⟨q57, C58⟩, e59, h⟩ := gb h
          dsimp only at h
          refine ec_callV1 (k' := 42) (n := 1) (rc := 2) (a := p0) (as := []) ⟨rfl, rfl⟩ rfl rfl (Nat.le_of_ble_eq_true rfl) (Nat.le_of_ble_eq_true rfl) (Nat.le_of_ble_eq_true rfl) g7 rfl (t_42 e59) ?_
          rcases gi h with ⟨c60, h⟩ | ⟨c60, h⟩
          · refine en_if_ne_t c60 rfl ?_
            refine en_aload rfl rfl ?_
            refine ec_getI (ci := 2) (j := 10) ⟨rfl, rfl, rfl⟩ g7 rfl ?_
            refine en_istore (l' := [(3, .int (cI C58 p0 10)), (0, .ref p0), (1, .ref p1), (2, .int p2)]) rfl rfl ?_
            refine en_aload rfl rfl ?_
            obtain ⟨⟨q61, C62⟩, e63, h⟩ := gb h
            dsimp only at h
            refine ec_callV1 (k' := 23) (n := 1) (rc := 2) (a := p0) (as := []) ⟨rfl, rfl⟩ rfl rfl (Nat.le_of_ble_eq_true rfl) (Nat.le_of_ble_eq_true rfl) (Nat.le_of_ble_eq_true rfl) g7 rfl (t_23 e63) ?_
            refine en_istore (l' := [(4, .int q61), (3, .int (cI C58 p0 10)), (0, .ref p0), (1, .ref p1), (2, .int p2)]) rfl rfl ?_
            refine en_iload rfl rfl ?_
            refine ec_iconst cst_60 rfl ?_
            rcases gi h with ⟨c64, h⟩ | ⟨c64, h⟩
            · refine en_icmp_eq_t c64 rfl ?_
              refine en_aload rfl rfl ?_
              refine en_dup rfl rfl ?_
              refine ec_getI (ci := 2) (j := 4) ⟨rfl, rfl, rfl⟩ g7 rfl ?_
              refine ec_iconst cst_1 rfl ?_
              refine en_iadd rfl ?_
              refine ec_putI (ci := 2) (j := 4) ⟨rfl, rfl, rfl⟩ g7 rfl ?_
              refine en_aload rfl rfl ?_
              obtain ⟨⟨q65, C66⟩, e67, h⟩ := gb h
              dsimp only at h
              refine ec_callV1 (k' := 42) (n := 1) (rc := 2) (a := p0) (as := []) ⟨rfl, rfl⟩ rfl rfl (Nat.le_of_ble_eq_true rfl) (Nat.le_of_ble_eq_true rfl) (Nat.le_of_ble_eq_true rfl) g7 rfl (t_42 e67) ?_
              rcases gi h with ⟨c68, h⟩ | ⟨c68, h⟩
              · refine en_if_ne_t c68 rfl ?_
                refine en_aload rfl rfl ?_
                obtain ⟨r69, e70, h⟩ := gb h
                refine ec_getP (ci := 2) (j := 5) ⟨rfl, rfl, rfl⟩ g7 e70 rfl ?_
                refine en_aload rfl rfl ?_
                refine en_iload rfl rfl ?_
                refine en_iload rfl rfl ?_
                obtain ⟨g71, h⟩ := gd h
                obtain ⟨⟨q72, C73⟩, e74, h⟩ := gb h
                dsimp only at h
                refine ec_callV0 (k' := 99) (n := 4) (rc := 6) (a := r69) (as := [.ref p1, .int q61, .int (cI C58 p0 10)]) ⟨rfl, rfl⟩ rfl rfl (Nat.le_of_ble_eq_true rfl) (Nat.le_of_ble_eq_true rfl) (Nat.le_of_ble_eq_true rfl) g71 rfl (t_99 e74) ?_
                refine ec_iinc (l' := [(2, .int (p2 + (1 : Int32))), (4, .int q61), (3, .int (cI C58 p0 10)), (0, .ref p0), (1, .ref p1)]) rfl cst_1 rfl rfl ?_
                refine en_goto rfl ?_
                refine en_sub [3, 4, 0] rfl rfl ?_
                exact ih _ _ _ _ _ h o M' hk
              · refine en_if_ne_f c68 rfl ?_
                cases h
                exact en_sub [] rfl rfl hk
            · refine en_icmp_eq_f c64 rfl ?_
              refine en_iload rfl rfl ?_
              refine ec_iconst cst_61 rfl ?_
              rcases gi h with ⟨c75, h⟩ | ⟨c75, h⟩
              · refine en_icmp_eq_t c75 rfl ?_
                refine en_aload rfl rfl ?_
                refine en_dup rfl rfl ?_
                refine ec_getI (ci := 2) (j := 4) ⟨rfl, rfl, rfl⟩ g7 rfl ?_
                refine ec_iconst cst_1 rfl ?_
                refine en_iadd rfl ?_
                refine ec_putI (ci := 2) (j := 4) ⟨rfl, rfl, rfl⟩ g7 rfl ?_
                refine en_aload rfl rfl ?_
                obtain ⟨⟨q76, C77⟩, e78, h⟩ := gb h
                dsimp only at h
                refine ec_callV1 (k' := 42) (n := 1) (rc := 2) (a := p0) (as := []) ⟨rfl, rfl⟩ rfl rfl (Nat.le_of_ble_eq_true rfl) (Nat.le_of_ble_eq_true rfl) (Nat.le_of_ble_eq_true rfl) g7 rfl (t_42 e78) ?_
                rcases gi h with ⟨c79, h⟩ | ⟨c79, h⟩
                · refine en_if_ne_t c79 rfl ?_
                  refine en_aload rfl rfl ?_
                  obtain ⟨r80, e81, h⟩ := gb h
                  refine ec_getP (ci := 2) (j := 5) ⟨rfl, rfl, rfl⟩ g7 e81 rfl ?_
                  refine en_aload rfl rfl ?_
                  refine en_iload rfl rfl ?_
                  refine en_iload rfl rfl ?_
                  obtain ⟨g82, h⟩ := gd h
                  obtain ⟨⟨q83, C84⟩, e85, h⟩ := gb h
                  dsimp only at h
                  refine ec_callV0 (k' := 99) (n := 4) (rc := 6) (a := r80) (as := [.ref p1, .int q61, .int (cI C58 p0 10)]) ⟨rfl, rfl⟩ rfl rfl (Nat.le_of_ble_eq_true rfl) (Nat.le_of_ble_eq_true rfl) (Nat.le_of_ble_eq_true rfl) g82 rfl (t_99 e85) ?_
                  refine ec_iinc (l' := [(2, .int (p2 + (1 : Int32))), (4, .int q61), (3, .int (cI C58 p0 10)), (0, .ref p0), (1, .ref p1)]) rfl cst_1 rfl rfl ?_
                  refine en_goto rfl ?_
                  refine en_sub [3, 4, 0] rfl rfl ?_
                  exact ih _ _ _ _ _ h o M' hk
                · refine en_if_ne_f c79 rfl ?_
                  cases h
                  exact en_sub [] rfl rfl hk
              · refine en_icmp_eq_f c75 rfl ?_
                refine en_iload rfl rfl ?_
                refine ec_iconst cst_62 rfl ?_
                rcases gi h with ⟨c86, h⟩ | ⟨c86, h⟩
                · refine en_icmp_eq_t c86 rfl ?_
                  refine en_aload rfl rfl ?_
                  refine en_dup rfl rfl ?_
                  refine ec_getI (ci := 2) (j := 4) ⟨rfl, rfl, rfl⟩ g7 rfl ?_
                  refine ec_iconst cst_1 rfl ?_
                  refine en_iadd rfl ?_
                  refine ec_putI (ci := 2) (j := 4) ⟨rfl, rfl, rfl⟩ g7 rfl ?_
                  refine en_aload rfl rfl ?_
                  obtain ⟨⟨q87, C88⟩, e89, h⟩ := gb h
                  dsimp only at h
                  refine ec_callV1 (k' := 42) (n := 1) (rc := 2) (a := p0) (as := []) ⟨rfl, rfl⟩ rfl rfl (Nat.le_of_ble_eq_true rfl) (Nat.le_of_ble_eq_true rfl) (Nat.le_of_ble_eq_true rfl) g7 rfl (t_42 e89) ?_
                  rcases gi h with ⟨c90, h⟩ | ⟨c90, h⟩
                  · refine en_if_ne_t c90 rfl ?_
                    refine en_aload rfl rfl ?_
                    obtain ⟨r91, e92, h⟩ := gb h
                    refine ec_getP (ci := 2) (j := 5) ⟨rfl, rfl, rfl⟩ g7 e92 rfl ?_
                    refine en_aload rfl rfl ?_
                    refine en_iload rfl rfl ?_
                    refine en_iload rfl rfl ?_
                    obtain ⟨g93, h⟩ := gd h
                    obtain ⟨⟨q94, C95⟩, e96, h⟩ := gb h
                    dsimp only at h
                    refine ec_callV0 (k' := 99) (n := 4) (rc := 6) (a := r91) (as := [.ref p1, .int q61, .int (cI C58 p0 10)]) ⟨rfl, rfl⟩ rfl rfl (Nat.le_of_ble_eq_true rfl) (Nat.le_of_ble_eq_true rfl) (Nat.le_of_ble_eq_true rfl) g93 rfl (t_99 e96) ?_
                    refine ec_iinc (l' := [(2, .int (p2 + (1 : Int32))), (4, .int q61), (3, .int (cI C58 p0 10)), (0, .ref p0), (1, .ref p1)]) rfl cst_1 rfl rfl ?_
                    refine en_goto rfl ?_
                    refine en_sub [3, 4, 0] rfl rfl ?_
                    exact ih _ _ _ _ _ h o M' hk
                  · refine en_if_ne_f c90 rfl ?_
                    cases h
                    exact en_sub [] rfl rfl hk
                · refine en_icmp_eq_f c86 rfl ?_
                  cases h
                  exact en_sub [2] rfl rfl hk
          · refine en_if_ne_f c60 rfl ?_
            cases h
            exact en_sub [] rfl rfl hk
        · refine en_if_eq_f c56 rfl ?_
          refine en_aload rfl rfl ?_
          obtain ⟨⟨q97, C98⟩, e99, h⟩ := gb h
          dsimp only at h
          refine ec_callV1 (k' := 23) (n := 1) (rc := 2) (a := p0) (as := []) ⟨rfl, rfl⟩ rfl rfl (Nat.le_of_ble_eq_true rfl) (Nat.le_of_ble_eq_true rfl) (Nat.le_of_ble_eq_true rfl) g7 rfl (t_23 e99) ?_
          refine ec_iconst cst_216 rfl ?_
          rcases gi h with ⟨c100, h⟩ | ⟨c100, h⟩
          · refine en_icmp_ne_t c100 rfl ?_
            cases h
            exact en_sub [] rfl rfl hk
          · refine en_icmp_ne_f c100 rfl ?_
            refine en_aload rfl rfl ?_
            refine en_dup rfl rfl ?_
            refine ec_getI (ci := 2) (j := 4) ⟨rfl, rfl, rfl⟩ g7 rfl ?_
            refine ec_iconst cst_1 rfl ?_
            refine en_iadd rfl ?_
            refine ec_putI (ci := 2) (j := 4) ⟨rfl, rfl, rfl⟩ g7 rfl ?_
            refine en_aload rfl rfl ?_
            obtain ⟨⟨q101, C102⟩, e103, h⟩ := gb h
            dsimp only at h
            refine ec_callV1 (k' := 42) (n := 1) (rc := 2) (a := p0) (as := []) ⟨rfl, rfl⟩ rfl rfl (Nat.le_of_ble_eq_true rfl) (Nat.le_of_ble_eq_true rfl) (Nat.le_of_ble_eq_true rfl) g7 rfl (t_42 e103) ?_
            rcases gi h with ⟨c104, h⟩ | ⟨c104, h⟩
            · refine en_if_ne_t c104 rfl ?_
              refine en_aload rfl rfl ?_
              refine ec_getI (ci := 2) (j := 10) ⟨rfl, rfl, rfl⟩ g7 rfl ?_
              refine en_istore (l' := [(3, .int (cI C102 p0 10)), (0, .ref p0), (1, .ref p1), (2, .int p2)]) rfl rfl ?_
              refine en_aload rfl rfl ?_
              obtain ⟨⟨q105, C106⟩, e107, h⟩ := gb h
              dsimp only at h
              refine ec_callV1 (k' := 23) (n := 1) (rc := 2) (a := p0) (as := []) ⟨rfl, rfl⟩ rfl rfl (Nat.le_of_ble_eq_true rfl) (Nat.le_of_ble_eq_true rfl) (Nat.le_of_ble_eq_true rfl) g7 rfl (t_23 e107) ?_
              refine en_istore (l' := [(4, .int q105), (3, .int (cI C102 p0 10)), (0, .ref p0), (1, .ref p1), (2, .int p2)]) rfl rfl ?_
              refine en_iload rfl rfl ?_
              refine ec_iconst cst_60 rfl ?_
              rcases gi h with ⟨c108, h⟩ | ⟨c108, h⟩
              · refine en_icmp_eq_t c108 rfl ?_
                refine en_aload rfl rfl ?_
                refine en_dup rfl rfl ?_
                refine ec_getI (ci := 2) (j := 4) ⟨rfl, rfl, rfl⟩ g7 rfl ?_
                refine ec_iconst cst_1 rfl ?_
                refine en_iadd rfl ?_
                refine ec_putI (ci := 2) (j := 4) ⟨rfl, rfl, rfl⟩ g7 rfl ?_
                refine en_aload rfl rfl ?_
                obtain ⟨⟨q109, C110⟩, e111, h⟩ := gb h
                dsimp only at h
                refine ec_callV1 (k' := 42) (n := 1) (rc := 2) (a := p0) (as := []) ⟨rfl, rfl⟩ rfl rfl (Nat.le_of_ble_eq_true rfl) (Nat.le_of_ble_eq_true rfl) (Nat.le_of_ble_eq_true rfl) g7 rfl (t_42 e111) ?_
                rcases gi h with ⟨c112, h⟩ | ⟨c112, h⟩
                · refine en_if_ne_t c112 rfl ?_
                  refine en_aload rfl rfl ?_
                  obtain ⟨r113, e114, h⟩ := gb h
                  refine ec_getP (ci := 2) (j := 5) ⟨rfl, rfl, rfl⟩ g7 e114 rfl ?_
                  refine en_aload rfl rfl ?_
                  refine en_iload rfl rfl ?_
                  refine en_iload rfl rfl ?_
                  obtain ⟨g115, h⟩ := gd h
                  obtain ⟨⟨q116, C117⟩, e118, h⟩ := gb h
                  dsimp only at h
                  refine ec_callV0 (k' := 99) (n := 4) (rc := 6) (a := r113) (as := [.ref p1, .int q105, .int (cI C102 p0 10)]) ⟨rfl, rfl⟩ rfl rfl (Nat.le_of_ble_eq_true rfl) (Nat.le_of_ble_eq_true rfl) (Nat.le_of_ble_eq_true rfl) g115 rfl (t_99 e118) ?_
                  refine ec_iinc (l' := [(2, .int (p2 + (1 : Int32))), (4, .int q105), (3, .int (cI C102 p0 10)), (0, .ref p0), (1, .ref p1)]) rfl cst_1 rfl rfl ?_
                  refine en_goto rfl ?_
                  refine en_sub [3, 4, 0] rfl rfl ?_
                  exact ih _ _ _ _ _ h o M' hk
                · refine en_if_ne_f c112 rfl ?_
                  cases h
                  exact en_sub [] rfl rfl hk
              · refine en_icmp_eq_f c108 rfl ?_
                refine en_iload rfl rfl ?_
                refine ec_iconst cst_61 rfl ?_
                rcases gi h with ⟨c119, h⟩ | ⟨c119, h⟩
                · refine en_icmp_eq_t c119 rfl ?_
                  refine en_aload rfl rfl ?_
                  refine en_dup rfl rfl ?_
                  refine ec_getI (ci := 2) (j := 4) ⟨rfl, rfl, rfl⟩ g7 rfl ?_
                  refine ec_iconst cst_1 rfl ?_
                  refine en_iadd rfl ?_
                  refine ec_putI (ci := 2) (j := 4) ⟨rfl, rfl, rfl⟩ g7 rfl ?_
                  refine en_aload rfl rfl ?_
                  obtain ⟨⟨q120, C121⟩, e122, h⟩ := gb h
                  dsimp only at h
                  refine ec_callV1 (k' := 42) (n := 1) (rc := 2) (a := p0) (as := []) ⟨rfl, rfl⟩ rfl rfl (Nat.le_of_ble_eq_true rfl) (Nat.le_of_ble_eq_true rfl) (Nat.le_of_ble_eq_true rfl) g7 rfl (t_42 e122) ?_
                  rcases gi h with ⟨c123, h⟩ | ⟨c123, h⟩
                  · refine en_if_ne_t c123 rfl ?_
                    refine en_aload rfl rfl ?_
                    obtain ⟨r124, e125, h⟩ := gb h
                    refine ec_getP (ci := 2) (j := 5) ⟨rfl, rfl, rfl⟩ g7 e125 rfl ?_
                    refine en_aload rfl rfl ?_
                    refine en_iload rfl rfl ?_
                    refine en_iload rfl rfl ?_
                    obtain ⟨g126, h⟩ := gd h
                    obtain ⟨⟨q127, C128⟩, e129, h⟩ := gb h
                    dsimp only at h
                    refine ec_callV0 (k' := 99) (n := 4) (rc := 6) (a := r124) (as := [.ref p1, .int q105, .int (cI C102 p0 10)]) ⟨rfl, rfl⟩ rfl rfl (Nat.le_of_ble_eq_true rfl) (Nat.le_of_ble_eq_true rfl) (Nat.le_of_ble_eq_true rfl) g126 rfl (t_99 e129) ?_
                    refine ec_iinc (l' := [(2, .int (p2 + (1 : Int32))), (4, .int q105), (3, .int (cI C102 p0 10)), (0, .ref p0), (1, .ref p1)]) rfl cst_1 rfl rfl ?_
                    refine en_goto rfl ?_
                    refine en_sub [3, 4, 0] rfl rfl ?_
                    exact ih _ _ _ _ _ h o M' hk
                  · refine en_if_ne_f c123 rfl ?_
                    cases h
                    exact en_sub [] rfl rfl hk
                · refine en_icmp_eq_f c119 rfl ?_
                  refine en_iload rfl rfl ?_
                  refine ec_iconst cst_62 rfl ?_
                  rcases gi h with ⟨c130, h⟩ | ⟨c130, h⟩
                  · refine en_icmp_eq_t c130 rfl ?_
                    refine en_aload rfl rfl ?_
                    refine en_dup rfl rfl ?_
                    refine ec_getI (ci := 2) (j := 4) ⟨rfl, rfl, rfl⟩ g7 rfl ?_
                    refine ec_iconst cst_1 rfl ?_
                    refine en_iadd rfl ?_
                    refine ec_putI (ci := 2) (j := 4) ⟨rfl, rfl, rfl⟩ g7 rfl ?_
                    refine en_aload rfl rfl ?_
                    obtain ⟨⟨q131, C132⟩, e133, h⟩ := gb h
                    dsimp only at h
                    refine ec_callV1 (k' := 42) (n := 1) (rc := 2) (a := p0) (as := []) ⟨rfl, rfl⟩ rfl rfl (Nat.le_of_ble_eq_true rfl) (Nat.le_of_ble_eq_true rfl) (Nat.le_of_ble_eq_true rfl) g7 rfl (t_42 e133) ?_
                    rcases gi h with ⟨c134, h⟩ | ⟨c134, h⟩
                    · refine en_if_ne_t c134 rfl ?_
                      refine en_aload rfl rfl ?_
                      obtain ⟨r135, e136, h⟩ := gb h
                      refine ec_getP (ci := 2) (j := 5) ⟨rfl, rfl, rfl⟩ g7 e136 rfl ?_
                      refine en_aload rfl rfl ?_
                      refine en_iload rfl rfl ?_
                      refine en_iload rfl rfl ?_
                      obtain ⟨g137, h⟩ := gd h
                      obtain ⟨⟨q138, C139⟩, e140, h⟩ := gb h
                      dsimp only at h
                      refine ec_callV0 (k' := 99) (n := 4) (rc := 6) (a := r135) (as := [.ref p1, .int q105, .int (cI C102 p0 10)]) ⟨rfl, rfl⟩ rfl rfl (Nat.le_of_ble_eq_true rfl) (Nat.le_of_ble_eq_true rfl) (Nat.le_of_ble_eq_true rfl) g137 rfl (t_99 e140) ?_
                      refine ec_iinc (l' := [(2, .int (p2 + (1 : Int32))), (4, .int q105), (3, .int (cI C102 p0 10)), (0, .ref p0), (1, .ref p1)]) rfl cst_1 rfl rfl ?_
                      refine en_goto rfl ?_
                      refine en_sub [3, 4, 0] rfl rfl ?_
                      exact ih _ _ _ _ _ h o M' hk
                    · refine en_if_ne_f c134 rfl ?_
                      cases h
                      exact en_sub [] rfl rfl hk
                  · refine en_icmp_eq_f c130 rfl ?_
                    cases h
                    exact en_sub [2] rfl rfl hk
            · refine en_if_ne_f c104 rfl ?_
              cases h
              exact en_sub [] rfl rfl hk
/-- BulkWriter$Parser.readWhere(LBulkWriter$Statement;)Z -/
def f_41 (n : Nat) (a0 : Nat) (a1 : Nat) (C : AmC) : Option (Int32 × AmC) := if isK a0 2 = true then (f_23 n a0 C).bind (fun z => match z with | (q2, C3) => (if q2 = (215 : Int32) then (lp_41_8 n a0 a1 (0 : Int32) C3).bind (fun q => match q with | ((.inl _), C143) => some ((0 : Int32), C143) | ((.inr (.inl u144)), C143) => if isK u144 2 = true then (f_25 n u144 (1 : Int32) C143).bind (fun z => match z with | (q146, C147) => if q146 = 0 ∨ q146 = 1 then some (q146, C147) else none) else none | ((.inr (.inr (.inl _))), C143) => some ((0 : Int32), C143) | ((.inr (.inr (.inr _))), C143) => some ((1 : Int32), C143)) else some ((1 : Int32), C3))) else none
set_option maxRecDepth 20000 in
set_option maxHeartbeats 4000000 in
theorem t_41 {n : Nat} {a0 : Nat} {a1 : Nat} {C : AmC} {r : Int32} {C' : AmC} (h : f_41 n a0 a1 C = some (r, C')) : En false 41 0 [(0, .ref a0), (1, .ref a1)] [] (mkM C) (.inl (some (.int r))) (mkM C') := by
  unfold f_41 at h
  refine en_aload rfl rfl ?_
  obtain ⟨g1, h⟩ := gd h
  obtain ⟨⟨q2, C3⟩, e4, h⟩ := gb h
  dsimp only at h
  refine ec_callV1 (k' := 23) (n := 1) (rc := 2) (a := a0) (as := []) ⟨rfl, rfl⟩ rfl rfl (Nat.le_of_ble_eq_true rfl) (Nat.le_of_ble_eq_true rfl) (Nat.le_of_ble_eq_true rfl) g1 rfl (t_23 e4) ?_
  refine ec_iconst cst_215 rfl ?_
  rcases gi h with ⟨c5, h⟩ | ⟨c5, h⟩
  · refine en_icmp_eq_t c5 rfl ?_
    refine ec_iconst cst_0 rfl ?_
    refine en_istore (l' := [(2, .int (0 : Int32)), (0, .ref a0), (1, .ref a1)]) rfl rfl ?_
    obtain ⟨⟨q141, C143⟩, e142, h⟩ := gb h
    refine en_sub [1, 2, 0] rfl rfl (lt_41_8 n _ _ _ _ _ e142 _ _ ?_)
    rcases q141 with ⟨⟩ | u144 | ⟨⟩ | ⟨⟩
    · dsimp only at h ⊢
      refine ec_iconst cst_0 rfl ?_
      cases h
      exact en_zret (Or.inl rfl) rfl
    · dsimp only at h ⊢
      refine en_aload rfl rfl ?_
      refine ec_iconst cst_1 rfl ?_
      obtain ⟨g145, h⟩ := gd h
      obtain ⟨⟨q146, C147⟩, e148, h⟩ := gb h
      dsimp only at h
      refine ec_callV1 (k' := 25) (n := 2) (rc := 2) (a := u144) (as := [.int (1 : Int32)]) ⟨rfl, rfl⟩ rfl rfl (Nat.le_of_ble_eq_true rfl) (Nat.le_of_ble_eq_true rfl) (Nat.le_of_ble_eq_true rfl) g145 rfl (t_25 e148) ?_
      obtain ⟨g149, h⟩ := gd h
      cases h
      exact en_zret g149 rfl
    · dsimp only at h ⊢
      refine ec_iconst cst_0 rfl ?_
      cases h
      exact en_zret (Or.inl rfl) rfl
    · dsimp only at h ⊢
      refine ec_iconst cst_1 rfl ?_
      cases h
      exact en_zret (Or.inr rfl) rfl
  · refine en_icmp_eq_f c5 rfl ?_
    refine ec_iconst cst_1 rfl ?_
    cases h
    exact en_zret (Or.inr rfl) rfl
/-- BulkWriter$Parser.readUpdate()Z -/
def f_34 (n : Nat) (a0 : Nat) (C : AmC) : Option (Int32 × AmC) := if isK a0 2 = true then (f_33 n a0 (0 : Int32) C).bind (fun z => match z with | (q2, C3) => (f_39 n a0 q2 C3).bind (fun z => match z with | (q5, C6) => (if q5 = 0 then some ((0 : Int32), C6) else (f_41 n a0 q2 C6).bind (fun z => match z with | (q9, C10) => (if q9 = 0 then some ((0 : Int32), C10) else (f_26 n a0 (59 : Int32) C10).bind (fun z => match z with | (q13, C14) => (if q13 = 0 then some ((0 : Int32), C14) else some ((1 : Int32), C14)))))))) else none
set_option maxRecDepth 20000 in
set_option maxHeartbeats 4000000 in
theorem t_34 {n : Nat} {a0 : Nat} {C : AmC} {r : Int32} {C' : AmC} (h : f_34 n a0 C = some (r, C')) : En false 34 0 [(0, .ref a0)] [] (mkM C) (.inl (some (.int r))) (mkM C') := by
  unfold f_34 at h
  refine en_aload rfl rfl ?_
  refine ec_iconst cst_0 rfl ?_
  obtain ⟨g1, h⟩ := gd h
  obtain ⟨⟨q2, C3⟩, e4, h⟩ := gb h
  dsimp only at h
  refine ec_callV1 (k' := 33) (n := 2) (rc := 2) (a := a0) (as := [.int (0 : Int32)]) ⟨rfl, rfl⟩ rfl rfl (Nat.le_of_ble_eq_true rfl) (Nat.le_of_ble_eq_true rfl) (Nat.le_of_ble_eq_true rfl) g1 rfl (t_33 e4) ?_
  refine en_astore (l' := [(1, .ref q2), (0, .ref a0)]) rfl rfl ?_
  refine en_aload rfl rfl ?_
  refine en_aload rfl rfl ?_
  obtain ⟨⟨q5, C6⟩, e7, h⟩ := gb h
  dsimp only at h
  refine ec_callV1 (k' := 39) (n := 2) (rc := 2) (a := a0) (as := [.ref q2]) ⟨rfl, rfl⟩ rfl rfl (Nat.le_of_ble_eq_true rfl) (Nat.le_of_ble_eq_true rfl) (Nat.le_of_ble_eq_true rfl) g1 rfl (t_39 e7) ?_
  rcases gi h with ⟨c8, h⟩ | ⟨c8, h⟩
  · refine en_if_eq_t c8 rfl ?_
    refine ec_iconst cst_0 rfl ?_
    cases h
    exact en_zret (Or.inl rfl) rfl
  · refine en_if_eq_f c8 rfl ?_
    refine en_aload rfl rfl ?_
    refine en_aload rfl rfl ?_
    obtain ⟨⟨q9, C10⟩, e11, h⟩ := gb h
    dsimp only at h
    refine ec_callV1 (k' := 41) (n := 2) (rc := 2) (a := a0) (as := [.ref q2]) ⟨rfl, rfl⟩ rfl rfl (Nat.le_of_ble_eq_true rfl) (Nat.le_of_ble_eq_true rfl) (Nat.le_of_ble_eq_true rfl) g1 rfl (t_41 e11) ?_
    rcases gi h with ⟨c12, h⟩ | ⟨c12, h⟩
    · refine en_if_eq_t c12 rfl ?_
      refine ec_iconst cst_0 rfl ?_
      cases h
      exact en_zret (Or.inl rfl) rfl
    · refine en_if_eq_f c12 rfl ?_
      refine en_aload rfl rfl ?_
      refine ec_iconst cst_59 rfl ?_
      obtain ⟨⟨q13, C14⟩, e15, h⟩ := gb h
      dsimp only at h
      refine ec_callV1 (k' := 26) (n := 2) (rc := 2) (a := a0) (as := [.int (59 : Int32)]) ⟨rfl, rfl⟩ rfl rfl (Nat.le_of_ble_eq_true rfl) (Nat.le_of_ble_eq_true rfl) (Nat.le_of_ble_eq_true rfl) g1 rfl (t_26 e15) ?_
      rcases gi h with ⟨c16, h⟩ | ⟨c16, h⟩
      · refine en_if_eq_t c16 rfl ?_
        refine ec_iconst cst_0 rfl ?_
        cases h
        exact en_zret (Or.inl rfl) rfl
      · refine en_if_eq_f c16 rfl ?_
        refine ec_iconst cst_1 rfl ?_
        refine en_goto rfl ?_
        cases h
        exact en_zret (Or.inr rfl) rfl
/-- BulkWriter$Parser.readDelete()Z -/
def f_35 (n : Nat) (a0 : Nat) (C : AmC) : Option (Int32 × AmC) := if isK a0 2 = true then (f_33 n a0 (1 : Int32) C).bind (fun z => match z with | (q2, C3) => (f_41 n a0 q2 C3).bind (fun z => match z with | (q5, C6) => (if q5 = 0 then some ((0 : Int32), C6) else (f_26 n a0 (59 : Int32) C6).bind (fun z => match z with | (q9, C10) => (if q9 = 0 then some ((0 : Int32), C10) else some ((1 : Int32), C10)))))) else none
set_option maxRecDepth 20000 in
set_option maxHeartbeats 4000000 in
theorem t_35 {n : Nat} {a0 : Nat} {C : AmC} {r : Int32} {C' : AmC} (h : f_35 n a0 C = some (r, C')) : En false 35 0 [(0, .ref a0)] [] (mkM C) (.inl (some (.int r))) (mkM C') := by
  unfold f_35 at h
  refine en_aload rfl rfl ?_
  refine en_aload rfl rfl ?_
  refine ec_iconst cst_1 rfl ?_
  obtain ⟨g1, h⟩ := gd h
  obtain ⟨⟨q2, C3⟩, e4, h⟩ := gb h
  dsimp only at h
  refine ec_callV1 (k' := 33) (n := 2) (rc := 2) (a := a0) (as := [.int (1 : Int32)]) ⟨rfl, rfl⟩ rfl rfl (Nat.le_of_ble_eq_true rfl) (Nat.le_of_ble_eq_true rfl) (Nat.le_of_ble_eq_true rfl) g1 rfl (t_33 e4) ?_
  obtain ⟨⟨q5, C6⟩, e7, h⟩ := gb h
  dsimp only at h
  refine ec_callV1 (k' := 41) (n := 2) (rc := 2) (a := a0) (as := [.ref q2]) ⟨rfl, rfl⟩ rfl rfl (Nat.le_of_ble_eq_true rfl) (Nat.le_of_ble_eq_true rfl) (Nat.le_of_ble_eq_true rfl) g1 rfl (t_41 e7) ?_
  rcases gi h with ⟨c8, h⟩ | ⟨c8, h⟩
  · refine en_if_eq_t c8 rfl ?_
    refine ec_iconst cst_0 rfl ?_
    cases h
    exact en_zret (Or.inl rfl) rfl
  · refine en_if_eq_f c8 rfl ?_
    refine en_aload rfl rfl ?_
    refine ec_iconst cst_59 rfl ?_
    obtain ⟨⟨q9, C10⟩, e11, h⟩ := gb h
    dsimp only at h
    refine ec_callV1 (k' := 26) (n := 2) (rc := 2) (a := a0) (as := [.int (59 : Int32)]) ⟨rfl, rfl⟩ rfl rfl (Nat.le_of_ble_eq_true rfl) (Nat.le_of_ble_eq_true rfl) (Nat.le_of_ble_eq_true rfl) g1 rfl (t_26 e11) ?_
    rcases gi h with ⟨c12, h⟩ | ⟨c12, h⟩
    · refine en_if_eq_t c12 rfl ?_
      refine ec_iconst cst_0 rfl ?_
      cases h
      exact en_zret (Or.inl rfl) rfl
    · refine en_if_eq_f c12 rfl ?_
      refine ec_iconst cst_1 rfl ?_
      refine en_goto rfl ?_
      cases h
      exact en_zret (Or.inr rfl) rfl
def lp_40_2 : Nat → Nat → Nat → Int32 → AmC → Option (((Unit) ⊕ (Unit) ⊕ (Unit)) × AmC)
  | 0, _, _, _, _ => none
  | n + 1, p0, p1, p2, C => if isK p0 2 = true then (cP C p0 5).bind (fun r2 => if isK r2 6 = true then (if (cI C r2 0) ≤ p2 then some ((.inr (.inr ())), C) else (if (4 : Int32) ≤ p2 then some ((.inr (.inr ())), C) else (if p2 ≤ 0 then (f_42 n p0 C).bind (fun z => match z with | (q8, C9) => (if ¬ q8 = 0 then if isK p1 8 = true then (cP C9 p1 6).bind (fun r13 => if isK r13 12 = true then if amIn p2 (aLen r13) = true then lp_40_2 n p0 p1 (p2 + (1 : Int32)) (uI C9 r13 (Int32.toNatClampNeg p2) (cI C9 p0 10)) else none else none) else none else some ((.inr (.inl ())), C9))) else (f_26 n p0 (44 : Int32) C).bind (fun z => match z with | (q17, C18) => (if ¬ q17 = 0 then (f_42 n p0 C18).bind (fun z => match z with | (q21, C22) => (if ¬ q21 = 0 then if isK p1 8 = true then (cP C22 p1 6).bind (fun r26 => if isK r26 12 = true then if amIn p2 (aLen r26) = true then lp_40_2 n p0 p1 (p2 + (1 : Int32)) (uI C22 r26 (Int32.toNatClampNeg p2) (cI C22 p0 10)) else none else none) else none else some ((.inr (.inl ())), C22))) else some ((.inl ()), C18)))))) else none) else none
set_option maxRecDepth 20000 in
set_option maxHeartbeats 4000000 in
theorem lt_40_2 : ∀ (n : Nat) (p0 : Nat) (p1 : Nat) (p2 : Int32) (C : AmC) (r : ((Unit) ⊕ (Unit) ⊕ (Unit)) × AmC), lp_40_2 n p0 p1 p2 C = some r → ∀ (o : AmO) (M' : AmM), (match r with
        | ((.inl _), C') => En false 40 16 [] [] (mkM C') o M'
        | ((.inr (.inl _)), C') => En false 40 21 [] [] (mkM C') o M'
        | ((.inr (.inr _)), C') => En false 40 31 [] [] (mkM C') o M') → En false 40 2 [(0, .ref p0), (1, .ref p1), (2, .int p2)] [] (mkM C) o M' := by
  intro n
  induction n with
  | zero => intro p0 p1 p2 C r h; cases h
  | succ n ih =>
    intro p0 p1 p2 C r h o M' hk
    unfold lp_40_2 at h
    refine en_iload rfl rfl ?_
    refine en_aload rfl rfl ?_
    obtain ⟨g1, h⟩ := gd h
    obtain ⟨r2, e3, h⟩ := gb h
    refine ec_getP (ci := 2) (j := 5) ⟨rfl, rfl, rfl⟩ g1 e3 rfl ?_
    obtain ⟨g4, h⟩ := gd h
    refine ec_getI (ci := 6) (j := 0) ⟨rfl, rfl, rfl⟩ g4 rfl ?_
    rcases gi h with ⟨c5, h⟩ | ⟨c5, h⟩
    · refine en_icmp_ge_t c5 rfl ?_
      cases h
      exact en_sub [] rfl rfl hk
    · refine en_icmp_ge_f c5 rfl ?_
      refine en_iload rfl rfl ?_
      refine ec_iconst cst_4 rfl ?_
      rcases gi h with ⟨c6, h⟩ | ⟨c6, h⟩
      · refine en_icmp_ge_t c6 rfl ?_
        cases h
        exact en_sub [] rfl rfl hk
      · refine en_icmp_ge_f c6 rfl ?_
        refine en_iload rfl rfl ?_
        rcases gi h with ⟨c7, h⟩ | ⟨c7, h⟩
        · refine en_if_le_t c7 rfl ?_
          refine en_aload rfl rfl ?_
          obtain ⟨⟨q8, C9⟩, e10, h⟩ := gb h
          dsimp only at h
          refine ec_callV1 (k' := 42) (n := 1) (rc := 2) (a := p0) (as := []) ⟨rfl, rfl⟩ rfl rfl (Nat.le_of_ble_eq_true rfl) (Nat.le_of_ble_eq_true rfl) (Nat.le_of_ble_eq_true rfl) g1 rfl (t_42 e10) ?_
          rcases gi h with ⟨c11, h⟩ | ⟨c11, h⟩
          · refine en_if_ne_t c11 rfl ?_
            refine en_aload rfl rfl ?_
            obtain ⟨g12, h⟩ := gd h
            obtain ⟨r13, e14, h⟩ := gb h
            refine ec_getP (ci := 8) (j := 6) ⟨rfl, rfl, rfl⟩ g12 e14 rfl ?_
            refine en_iload rfl rfl ?_
            refine en_aload rfl rfl ?_
            refine ec_getI (ci := 2) (j := 10) ⟨rfl, rfl, rfl⟩ g1 rfl ?_
            obtain ⟨g15, h⟩ := gd h
            obtain ⟨g16, h⟩ := gd h
            refine ec_iastore g15 g16 rfl ?_
            refine ec_iinc (l' := [(2, .int (p2 + (1 : Int32))), (0, .ref p0), (1, .ref p1)]) rfl cst_1 rfl rfl ?_
            refine en_goto rfl ?_
            refine en_sub [1, 2, 0] rfl rfl ?_
            exact ih _ _ _ _ _ h o M' hk
          · refine en_if_ne_f c11 rfl ?_
            cases h
            exact en_sub [] rfl rfl hk
        · refine en_if_le_f c7 rfl ?_
          refine en_aload rfl rfl ?_
          refine ec_iconst cst_44 rfl ?_
          obtain ⟨⟨q17, C18⟩, e19, h⟩ := gb h
          dsimp only at h
          refine ec_callV1 (k' := 26) (n := 2) (rc := 2) (a := p0) (as := [.int (44 : Int32)]) ⟨rfl, rfl⟩ rfl rfl (Nat.le_of_ble_eq_true rfl) (Nat.le_of_ble_eq_true rfl) (Nat.le_of_ble_eq_true rfl) g1 rfl (t_26 e19) ?_
          rcases gi h with ⟨c20, h⟩ | ⟨c20, h⟩
          · refine en_if_ne_t c20 rfl ?_
            refine en_aload rfl rfl ?_
            obtain ⟨⟨q21, C22⟩, e23, h⟩ := gb h
            dsimp only at h
            refine ec_callV1 (k' := 42) (n := 1) (rc := 2) (a := p0) (as := []) ⟨rfl, rfl⟩ rfl rfl (Nat.le_of_ble_eq_true rfl) (Nat.le_of_ble_eq_true rfl) (Nat.le_of_ble_eq_true rfl) g1 rfl (t_42 e23) ?_
            rcases gi h with ⟨c24, h⟩ | ⟨c24, h⟩
            · refine en_if_ne_t c24 rfl ?_
              refine en_aload rfl rfl ?_
              obtain ⟨g25, h⟩ := gd h
              obtain ⟨r26, e27, h⟩ := gb h
              refine ec_getP (ci := 8) (j := 6) ⟨rfl, rfl, rfl⟩ g25 e27 rfl ?_
              refine en_iload rfl rfl ?_
              refine en_aload rfl rfl ?_
              refine ec_getI (ci := 2) (j := 10) ⟨rfl, rfl, rfl⟩ g1 rfl ?_
              obtain ⟨g28, h⟩ := gd h
              obtain ⟨g29, h⟩ := gd h
              refine ec_iastore g28 g29 rfl ?_
              refine ec_iinc (l' := [(2, .int (p2 + (1 : Int32))), (0, .ref p0), (1, .ref p1)]) rfl cst_1 rfl rfl ?_
              refine en_goto rfl ?_
              refine en_sub [1, 2, 0] rfl rfl ?_
              exact ih _ _ _ _ _ h o M' hk
            · refine en_if_ne_f c24 rfl ?_
              cases h
              exact en_sub [] rfl rfl hk
          · refine en_if_ne_f c20 rfl ?_
            cases h
            exact en_sub [] rfl rfl hk
/-- BulkWriter$Parser.readValues(LBulkWriter$Statement;)Z -/
def f_40 (n : Nat) (a0 : Nat) (a1 : Nat) (C : AmC) : Option (Int32 × AmC) := (lp_40_2 n a0 a1 (0 : Int32) C).bind (fun q => match q with | ((.inl _), C32) => some ((0 : Int32), C32) | ((.inr (.inl _)), C32) => some ((0 : Int32), C32) | ((.inr (.inr _)), C32) => some ((1 : Int32), C32))
set_option maxRecDepth 20000 in
set_option maxHeartbeats 4000000 in
theorem t_40 {n : Nat} {a0 : Nat} {a1 : Nat} {C : AmC} {r : Int32} {C' : AmC} (h : f_40 n a0 a1 C = some (r, C')) : En false 40 0 [(0, .ref a0), (1, .ref a1)] [] (mkM C) (.inl (some (.int r))) (mkM C') := by
  unfold f_40 at h
  refine ec_iconst cst_0 rfl ?_
  refine en_istore (l' := [(2, .int (0 : Int32)), (0, .ref a0), (1, .ref a1)]) rfl rfl ?_
  obtain ⟨⟨q30, C32⟩, e31, h⟩ := gb h
  refine en_sub [1, 2, 0] rfl rfl (lt_40_2 n _ _ _ _ _ e31 _ _ ?_)
  rcases q30 with ⟨⟩ | ⟨⟩ | ⟨⟩
  · dsimp only at h ⊢
    refine ec_iconst cst_0 rfl ?_
    cases h
    exact en_zret (Or.inl rfl) rfl
  · dsimp only at h ⊢
    refine ec_iconst cst_0 rfl ?_
    cases h
    exact en_zret (Or.inl rfl) rfl
  · dsimp only at h ⊢
    refine ec_iconst cst_1 rfl ?_
    cases h
    exact en_zret (Or.inr rfl) rfl
/-- BulkWriter$Parser.readInsert()Z -/
def f_36 (n : Nat) (a0 : Nat) (C : AmC) : Option (Int32 × AmC) := if isK a0 2 = true then (f_33 n a0 (3 : Int32) C).bind (fun z => match z with | (q2, C3) => if isK q2 8 = true then (f_40 n a0 q2 (uI C3 q2 1 (1 : Int32))).bind (fun z => match z with | (q6, C7) => (if q6 = 0 then some ((0 : Int32), C7) else (f_41 n a0 q2 C7).bind (fun z => match z with | (q10, C11) => (if q10 = 0 then some ((0 : Int32), C11) else (f_26 n a0 (59 : Int32) C11).bind (fun z => match z with | (q14, C15) => (if q14 = 0 then some ((0 : Int32), C15) else some ((1 : Int32), C15))))))) else none) else none
set_option maxRecDepth 20000 in
set_option maxHeartbeats 4000000 in
theorem t_36 {n : Nat} {a0 : Nat} {C : AmC} {r : Int32} {C' : AmC} (h : f_36 n a0 C = some (r, C')) : En false 36 0 [(0, .ref a0)] [] (mkM C) (.inl (some (.int r))) (mkM C') := by
  unfold f_36 at h
  refine en_aload rfl rfl ?_
  refine ec_iconst cst_3 rfl ?_
  obtain ⟨g1, h⟩ := gd h
  obtain ⟨⟨q2, C3⟩, e4, h⟩ := gb h
  dsimp only at h
  refine ec_callV1 (k' := 33) (n := 2) (rc := 2) (a := a0) (as := [.int (3 : Int32)]) ⟨rfl, rfl⟩ rfl rfl (Nat.le_of_ble_eq_true rfl) (Nat.le_of_ble_eq_true rfl) (Nat.le_of_ble_eq_true rfl) g1 rfl (t_33 e4) ?_
  refine en_astore (l' := [(1, .ref q2), (0, .ref a0)]) rfl rfl ?_
  refine en_aload rfl rfl ?_
  refine ec_iconst cst_1 rfl ?_
  obtain ⟨g5, h⟩ := gd h
  refine ec_putZ (ci := 8) (j := 1) ⟨rfl, rfl, rfl⟩ g5 (Or.inr rfl) rfl ?_
  refine en_aload rfl rfl ?_
  refine en_aload rfl rfl ?_
  obtain ⟨⟨q6, C7⟩, e8, h⟩ := gb h
  dsimp only at h
  refine ec_callV1 (k' := 40) (n := 2) (rc := 2) (a := a0) (as := [.ref q2]) ⟨rfl, rfl⟩ rfl rfl (Nat.le_of_ble_eq_true rfl) (Nat.le_of_ble_eq_true rfl) (Nat.le_of_ble_eq_true rfl) g1 rfl (t_40 e8) ?_
  rcases gi h with ⟨c9, h⟩ | ⟨c9, h⟩
  · refine en_if_eq_t c9 rfl ?_
    refine ec_iconst cst_0 rfl ?_
    cases h
    exact en_zret (Or.inl rfl) rfl
  · refine en_if_eq_f c9 rfl ?_
    refine en_aload rfl rfl ?_
    refine en_aload rfl rfl ?_
    obtain ⟨⟨q10, C11⟩, e12, h⟩ := gb h
    dsimp only at h
    refine ec_callV1 (k' := 41) (n := 2) (rc := 2) (a := a0) (as := [.ref q2]) ⟨rfl, rfl⟩ rfl rfl (Nat.le_of_ble_eq_true rfl) (Nat.le_of_ble_eq_true rfl) (Nat.le_of_ble_eq_true rfl) g1 rfl (t_41 e12) ?_
    rcases gi h with ⟨c13, h⟩ | ⟨c13, h⟩
    · refine en_if_eq_t c13 rfl ?_
      refine ec_iconst cst_0 rfl ?_
      cases h
      exact en_zret (Or.inl rfl) rfl
    · refine en_if_eq_f c13 rfl ?_
      refine en_aload rfl rfl ?_
      refine ec_iconst cst_59 rfl ?_
      obtain ⟨⟨q14, C15⟩, e16, h⟩ := gb h
      dsimp only at h
      refine ec_callV1 (k' := 26) (n := 2) (rc := 2) (a := a0) (as := [.int (59 : Int32)]) ⟨rfl, rfl⟩ rfl rfl (Nat.le_of_ble_eq_true rfl) (Nat.le_of_ble_eq_true rfl) (Nat.le_of_ble_eq_true rfl) g1 rfl (t_26 e16) ?_
      rcases gi h with ⟨c17, h⟩ | ⟨c17, h⟩
      · refine en_if_eq_t c17 rfl ?_
        refine ec_iconst cst_0 rfl ?_
        cases h
        exact en_zret (Or.inl rfl) rfl
      · refine en_if_eq_f c17 rfl ?_
        refine ec_iconst cst_1 rfl ?_
        refine en_goto rfl ?_
        cases h
        exact en_zret (Or.inr rfl) rfl
