/-- BulkWriterModel.see(III)I -/
def f_277 (n : Nat) (a0 : Nat) (a1 : Int32) (a2 : Int32) (a3 : Int32) (C : AmC) : Option (Int32 × AmC) := if isK a0 10 = true then (if (cI (uI C a0 5 (0 : Int32)) a0 8) = (8 : Int32) then (cP (uI C a0 5 (0 : Int32)) a0 4).bind (fun r3 => if isK r3 12 = true then if amIn (2 : Int32) (aLen r3) = true then if amIn (2 : Int32) (aLen r3) = true then some ((-1 : Int32), uI (uI C a0 5 (0 : Int32)) r3 (Int32.toNatClampNeg (2 : Int32)) ((cI (uI C a0 5 (0 : Int32)) r3 (Int32.toNatClampNeg (2 : Int32))) + (1 : Int32))) else none else none else none) else (f_163 n a1 (0 : Int32) (29 : Int32) (uI C a0 5 (0 : Int32))).bind (fun z => match z with | (q8, C9) => (if q8 = 0 then (cP C9 a0 4).bind (fun r12 => if isK r12 12 = true then if amIn (2 : Int32) (aLen r12) = true then if amIn (2 : Int32) (aLen r12) = true then some ((-1 : Int32), uI C9 r12 (Int32.toNatClampNeg (2 : Int32)) ((cI C9 r12 (Int32.toNatClampNeg (2 : Int32))) + (1 : Int32))) else none else none else none) else (cP C9 a0 21).bind (fun r17 => if isK r17 12 = true then if amIn (cI C9 a0 40) (aLen r17) = true then (f_163 n a2 (0 : Int32) ((cI C9 r17 (Int32.toNatClampNeg (cI C9 a0 40))) - (1 : Int32)) C9).bind (fun z => match z with | (q21, C22) => (if q21 = 0 then (cP C22 a0 4).bind (fun r25 => if isK r25 12 = true then if amIn (2 : Int32) (aLen r25) = true then if amIn (2 : Int32) (aLen r25) = true then some ((-1 : Int32), uI C22 r25 (Int32.toNatClampNeg (2 : Int32)) ((cI C22 r25 (Int32.toNatClampNeg (2 : Int32))) + (1 : Int32))) else none else none else none) else (if a3 = (-100000 : Int32) then (cP C22 a0 1).bind (fun r31 => if isK r31 12 = true then if amIn (cI C22 a0 8) (aLen r31) = true then (cP (uI C22 r31 (Int32.toNatClampNeg (cI C22 a0 8)) a1) a0 2).bind (fun r35 => if isK r35 12 = true then if amIn (cI (uI C22 r31 (Int32.toNatClampNeg (cI C22 a0 8)) a1) a0 8) (aLen r35) = true then (cP (uI (uI C22 r31 (Int32.toNatClampNeg (cI C22 a0 8)) a1) r35 (Int32.toNatClampNeg (cI (uI C22 r31 (Int32.toNatClampNeg (cI C22 a0 8)) a1) a0 8)) a2) a0 3).bind (fun r39 => if isK r39 12 = true then if amIn (cI (uI (uI C22 r31 (Int32.toNatClampNeg (cI C22 a0 8)) a1) r35 (Int32.toNatClampNeg (cI (uI C22 r31 (Int32.toNatClampNeg (cI C22 a0 8)) a1) a0 8)) a2) a0 8) (aLen r39) = true then some ((cI (uI (uI (uI (uI C22 r31 (Int32.toNatClampNeg (cI C22 a0 8)) a1) r35 (Int32.toNatClampNeg (cI (uI C22 r31 (Int32.toNatClampNeg (cI C22 a0 8)) a1) a0 8)) a2) r39 (Int32.toNatClampNeg (cI (uI (uI C22 r31 (Int32.toNatClampNeg (cI C22 a0 8)) a1) r35 (Int32.toNatClampNeg (cI (uI C22 r31 (Int32.toNatClampNeg (cI C22 a0 8)) a1) a0 8)) a2) a0 8)) a3) a0 8 ((cI (uI (uI (uI C22 r31 (Int32.toNatClampNeg (cI C22 a0 8)) a1) r35 (Int32.toNatClampNeg (cI (uI C22 r31 (Int32.toNatClampNeg (cI C22 a0 8)) a1) a0 8)) a2) r39 (Int32.toNatClampNeg (cI (uI (uI C22 r31 (Int32.toNatClampNeg (cI C22 a0 8)) a1) r35 (Int32.toNatClampNeg (cI (uI C22 r31 (Int32.toNatClampNeg (cI C22 a0 8)) a1) a0 8)) a2) a0 8)) a3) a0 8) + (1 : Int32))) a0 8), uI (uI (uI (uI C22 r31 (Int32.toNatClampNeg (cI C22 a0 8)) a1) r35 (Int32.toNatClampNeg (cI (uI C22 r31 (Int32.toNatClampNeg (cI C22 a0 8)) a1) a0 8)) a2) r39 (Int32.toNatClampNeg (cI (uI (uI C22 r31 (Int32.toNatClampNeg (cI C22 a0 8)) a1) r35 (Int32.toNatClampNeg (cI (uI C22 r31 (Int32.toNatClampNeg (cI C22 a0 8)) a1) a0 8)) a2) a0 8)) a3) a0 8 ((cI (uI (uI (uI C22 r31 (Int32.toNatClampNeg (cI C22 a0 8)) a1) r35 (Int32.toNatClampNeg (cI (uI C22 r31 (Int32.toNatClampNeg (cI C22 a0 8)) a1) a0 8)) a2) r39 (Int32.toNatClampNeg (cI (uI (uI C22 r31 (Int32.toNatClampNeg (cI C22 a0 8)) a1) r35 (Int32.toNatClampNeg (cI (uI C22 r31 (Int32.toNatClampNeg (cI C22 a0 8)) a1) a0 8)) a2) a0 8)) a3) a0 8) + (1 : Int32))) else none else none) else none else none) else none else none) else (f_163 n a3 (-9999 : Int32) (9999 : Int32) C22).bind (fun z => match z with | (q43, C44) => (if ¬ q43 = 0 then (cP C44 a0 1).bind (fun r47 => if isK r47 12 = true then if amIn (cI C44 a0 8) (aLen r47) = true then (cP (uI C44 r47 (Int32.toNatClampNeg (cI C44 a0 8)) a1) a0 2).bind (fun r51 => if isK r51 12 = true then if amIn (cI (uI C44 r47 (Int32.toNatClampNeg (cI C44 a0 8)) a1) a0 8) (aLen r51) = true then (cP (uI (uI C44 r47 (Int32.toNatClampNeg (cI C44 a0 8)) a1) r51 (Int32.toNatClampNeg (cI (uI C44 r47 (Int32.toNatClampNeg (cI C44 a0 8)) a1) a0 8)) a2) a0 3).bind (fun r55 => if isK r55 12 = true then if amIn (cI (uI (uI C44 r47 (Int32.toNatClampNeg (cI C44 a0 8)) a1) r51 (Int32.toNatClampNeg (cI (uI C44 r47 (Int32.toNatClampNeg (cI C44 a0 8)) a1) a0 8)) a2) a0 8) (aLen r55) = true then some ((cI (uI (uI (uI (uI C44 r47 (Int32.toNatClampNeg (cI C44 a0 8)) a1) r51 (Int32.toNatClampNeg (cI (uI C44 r47 (Int32.toNatClampNeg (cI C44 a0 8)) a1) a0 8)) a2) r55 (Int32.toNatClampNeg (cI (uI (uI C44 r47 (Int32.toNatClampNeg (cI C44 a0 8)) a1) r51 (Int32.toNatClampNeg (cI (uI C44 r47 (Int32.toNatClampNeg (cI C44 a0 8)) a1) a0 8)) a2) a0 8)) a3) a0 8 ((cI (uI (uI (uI C44 r47 (Int32.toNatClampNeg (cI C44 a0 8)) a1) r51 (Int32.toNatClampNeg (cI (uI C44 r47 (Int32.toNatClampNeg (cI C44 a0 8)) a1) a0 8)) a2) r55 (Int32.toNatClampNeg (cI (uI (uI C44 r47 (Int32.toNatClampNeg (cI C44 a0 8)) a1) r51 (Int32.toNatClampNeg (cI (uI C44 r47 (Int32.toNatClampNeg (cI C44 a0 8)) a1) a0 8)) a2) a0 8)) a3) a0 8) + (1 : Int32))) a0 8), uI (uI (uI (uI C44 r47 (Int32.toNatClampNeg (cI C44 a0 8)) a1) r51 (Int32.toNatClampNeg (cI (uI C44 r47 (Int32.toNatClampNeg (cI C44 a0 8)) a1) a0 8)) a2) r55 (Int32.toNatClampNeg (cI (uI (uI C44 r47 (Int32.toNatClampNeg (cI C44 a0 8)) a1) r51 (Int32.toNatClampNeg (cI (uI C44 r47 (Int32.toNatClampNeg (cI C44 a0 8)) a1) a0 8)) a2) a0 8)) a3) a0 8 ((cI (uI (uI (uI C44 r47 (Int32.toNatClampNeg (cI C44 a0 8)) a1) r51 (Int32.toNatClampNeg (cI (uI C44 r47 (Int32.toNatClampNeg (cI C44 a0 8)) a1) a0 8)) a2) r55 (Int32.toNatClampNeg (cI (uI (uI C44 r47 (Int32.toNatClampNeg (cI C44 a0 8)) a1) r51 (Int32.toNatClampNeg (cI (uI C44 r47 (Int32.toNatClampNeg (cI C44 a0 8)) a1) a0 8)) a2) a0 8)) a3) a0 8) + (1 : Int32))) else none else none) else none else none) else none else none) else (cP C44 a0 4).bind (fun r59 => if isK r59 12 = true then if amIn (2 : Int32) (aLen r59) = true then if amIn (2 : Int32) (aLen r59) = true then some ((-1 : Int32), uI C44 r59 (Int32.toNatClampNeg (2 : Int32)) ((cI C44 r59 (Int32.toNatClampNeg (2 : Int32))) + (1 : Int32))) else none else none else none)))))) else none else none)))) else none
set_option maxRecDepth 20000 in
set_option maxHeartbeats 4000000 in
theorem t_277 {n : Nat} {a0 : Nat} {a1 : Int32} {a2 : Int32} {a3 : Int32} {C : AmC} {r : Int32} {C' : AmC} (h : f_277 n a0 a1 a2 a3 C = some (r, C')) : En false 277 0 [(0, .ref a0), (1, .int a1), (2, .int a2), (3, .int a3)] [] (mkM C) (.inl (some (.int r))) (mkM C') := by
  unfold f_277 at h
  refine en_aload rfl rfl ?_
  refine ec_iconst cst_0 rfl ?_
  obtain ⟨g1, h⟩ := gd h
  refine ec_putI (ci := 10) (j := 5) ⟨rfl, rfl, rfl⟩ g1 rfl ?_
  refine en_aload rfl rfl ?_
  refine ec_getI (ci := 10) (j := 8) ⟨rfl, rfl, rfl⟩ g1 rfl ?_
  refine ec_iconst cst_8 rfl ?_
  rcases gi h with ⟨c2, h⟩ | ⟨c2, h⟩
  · refine en_icmp_eq_t c2 rfl ?_
    refine en_aload rfl rfl ?_
    obtain ⟨r3, e4, h⟩ := gb h
    refine ec_getP (ci := 10) (j := 4) ⟨rfl, rfl, rfl⟩ g1 e4 rfl ?_
    refine ec_iconst cst_2 rfl ?_
    refine en_dup2 ⟨rfl, rfl⟩ rfl ?_
    obtain ⟨g5, h⟩ := gd h
    obtain ⟨g6, h⟩ := gd h
    refine ec_iaload g5 g6 rfl ?_
    refine ec_iconst cst_1 rfl ?_
    refine en_iadd rfl ?_
    obtain ⟨g7, h⟩ := gd h
    refine ec_iastore g5 g7 rfl ?_
    refine ec_iconst cst_m1 rfl ?_
    cases h
    exact en_iret rfl
  · refine en_icmp_eq_f c2 rfl ?_
    refine en_iload rfl rfl ?_
    refine ec_iconst cst_0 rfl ?_
    refine ec_iconst cst_29 rfl ?_
    obtain ⟨⟨q8, C9⟩, e10, h⟩ := gb h
    dsimp only at h
    refine ec_callS1 (k' := 163) (n := 3) (as := [.int a1, .int (0 : Int32), .int (29 : Int32)]) rfl rfl rfl (Nat.le_of_ble_eq_true rfl) (Nat.le_of_ble_eq_true rfl) (Nat.le_of_ble_eq_true rfl) rfl (t_163 e10) ?_
    rcases gi h with ⟨c11, h⟩ | ⟨c11, h⟩
    · refine en_if_eq_t c11 rfl ?_
      refine en_aload rfl rfl ?_
      obtain ⟨r12, e13, h⟩ := gb h
      refine ec_getP (ci := 10) (j := 4) ⟨rfl, rfl, rfl⟩ g1 e13 rfl ?_
      refine ec_iconst cst_2 rfl ?_
      refine en_dup2 ⟨rfl, rfl⟩ rfl ?_
      obtain ⟨g14, h⟩ := gd h
      obtain ⟨g15, h⟩ := gd h
      refine ec_iaload g14 g15 rfl ?_
      refine ec_iconst cst_1 rfl ?_
      refine en_iadd rfl ?_
      obtain ⟨g16, h⟩ := gd h
      refine ec_iastore g14 g16 rfl ?_
      refine ec_iconst cst_m1 rfl ?_
      cases h
      exact en_iret rfl
    · refine en_if_eq_f c11 rfl ?_
      refine en_iload rfl rfl ?_
      refine ec_iconst cst_0 rfl ?_
      refine en_aload rfl rfl ?_
      obtain ⟨r17, e18, h⟩ := gb h
      refine ec_getP (ci := 10) (j := 21) ⟨rfl, rfl, rfl⟩ g1 e18 rfl ?_
      refine en_aload rfl rfl ?_
      refine ec_getI (ci := 10) (j := 40) ⟨rfl, rfl, rfl⟩ g1 rfl ?_
      obtain ⟨g19, h⟩ := gd h
      obtain ⟨g20, h⟩ := gd h
      refine ec_iaload g19 g20 rfl ?_
      refine ec_iconst cst_1 rfl ?_
      refine en_isub rfl ?_
      obtain ⟨⟨q21, C22⟩, e23, h⟩ := gb h
      dsimp only at h
      refine ec_callS1 (k' := 163) (n := 3) (as := [.int a2, .int (0 : Int32), .int ((cI C9 r17 (Int32.toNatClampNeg (cI C9 a0 40))) - (1 : Int32))]) rfl rfl rfl (Nat.le_of_ble_eq_true rfl) (Nat.le_of_ble_eq_true rfl) (Nat.le_of_ble_eq_true rfl) rfl (t_163 e23) ?_
      rcases gi h with ⟨c24, h⟩ | ⟨c24, h⟩
      · refine en_if_eq_t c24 rfl ?_
        refine en_aload rfl rfl ?_
        obtain ⟨r25, e26, h⟩ := gb h
        refine ec_getP (ci := 10) (j := 4) ⟨rfl, rfl, rfl⟩ g1 e26 rfl ?_
        refine ec_iconst cst_2 rfl ?_
        refine en_dup2 ⟨rfl, rfl⟩ rfl ?_
        obtain ⟨g27, h⟩ := gd h
        obtain ⟨g28, h⟩ := gd h
        refine ec_iaload g27 g28 rfl ?_
        refine ec_iconst cst_1 rfl ?_
        refine en_iadd rfl ?_
        obtain ⟨g29, h⟩ := gd h
        refine ec_iastore g27 g29 rfl ?_
        refine ec_iconst cst_m1 rfl ?_
        cases h
        exact en_iret rfl
      · refine en_if_eq_f c24 rfl ?_
        refine en_iload rfl rfl ?_
        refine ec_iconst cst_m100000 rfl ?_
        rcases gi h with ⟨c30, h⟩ | ⟨c30, h⟩
        · refine en_icmp_eq_t c30 rfl ?_
          refine en_aload rfl rfl ?_
          obtain ⟨r31, e32, h⟩ := gb h
          refine ec_getP (ci := 10) (j := 1) ⟨rfl, rfl, rfl⟩ g1 e32 rfl ?_
          refine en_aload rfl rfl ?_
          refine ec_getI (ci := 10) (j := 8) ⟨rfl, rfl, rfl⟩ g1 rfl ?_
          refine en_iload rfl rfl ?_
          obtain ⟨g33, h⟩ := gd h
          obtain ⟨g34, h⟩ := gd h
          refine ec_iastore g33 g34 rfl ?_
          refine en_aload rfl rfl ?_
          obtain ⟨r35, e36, h⟩ := gb h
          refine ec_getP (ci := 10) (j := 2) ⟨rfl, rfl, rfl⟩ g1 e36 rfl ?_
          refine en_aload rfl rfl ?_
          refine ec_getI (ci := 10) (j := 8) ⟨rfl, rfl, rfl⟩ g1 rfl ?_
          refine en_iload rfl rfl ?_
          obtain ⟨g37, h⟩ := gd h
          obtain ⟨g38, h⟩ := gd h
          refine ec_iastore g37 g38 rfl ?_
          refine en_aload rfl rfl ?_
          obtain ⟨r39, e40, h⟩ := gb h
          refine ec_getP (ci := 10) (j := 3) ⟨rfl, rfl, rfl⟩ g1 e40 rfl ?_
          refine en_aload rfl rfl ?_
          refine ec_getI (ci := 10) (j := 8) ⟨rfl, rfl, rfl⟩ g1 rfl ?_
          refine en_iload rfl rfl ?_
          obtain ⟨g41, h⟩ := gd h
          obtain ⟨g42, h⟩ := gd h
          refine ec_iastore g41 g42 rfl ?_
          refine en_aload rfl rfl ?_
          refine en_dup rfl rfl ?_
          refine ec_getI (ci := 10) (j := 8) ⟨rfl, rfl, rfl⟩ g1 rfl ?_
          refine ec_iconst cst_1 rfl ?_
          refine en_iadd rfl ?_
          refine ec_putI (ci := 10) (j := 8) ⟨rfl, rfl, rfl⟩ g1 rfl ?_
          refine en_aload rfl rfl ?_
          refine ec_getI (ci := 10) (j := 8) ⟨rfl, rfl, rfl⟩ g1 rfl ?_
          cases h
          exact en_iret rfl
        · refine en_icmp_eq_f c30 rfl ?_
          refine en_iload rfl rfl ?_
          refine ec_iconst cst_m9999 rfl ?_
          refine ec_iconst cst_9999 rfl ?_
          obtain ⟨⟨q43, C44⟩, e45, h⟩ := gb h
          dsimp only at h
          refine ec_callS1 (k' := 163) (n := 3) (as := [.int a3, .int (-9999 : Int32), .int (9999 : Int32)]) rfl rfl rfl (Nat.le_of_ble_eq_true rfl) (Nat.le_of_ble_eq_true rfl) (Nat.le_of_ble_eq_true rfl) rfl (t_163 e45) ?_
          rcases gi h with ⟨c46, h⟩ | ⟨c46, h⟩
          · refine en_if_ne_t c46 rfl ?_
            refine en_aload rfl rfl ?_
            obtain ⟨r47, e48, h⟩ := gb h
            refine ec_getP (ci := 10) (j := 1) ⟨rfl, rfl, rfl⟩ g1 e48 rfl ?_
            refine en_aload rfl rfl ?_
            refine ec_getI (ci := 10) (j := 8) ⟨rfl, rfl, rfl⟩ g1 rfl ?_
            refine en_iload rfl rfl ?_
            obtain ⟨g49, h⟩ := gd h
            obtain ⟨g50, h⟩ := gd h
            refine ec_iastore g49 g50 rfl ?_
            refine en_aload rfl rfl ?_
            obtain ⟨r51, e52, h⟩ := gb h
            refine ec_getP (ci := 10) (j := 2) ⟨rfl, rfl, rfl⟩ g1 e52 rfl ?_
            refine en_aload rfl rfl ?_
            refine ec_getI (ci := 10) (j := 8) ⟨rfl, rfl, rfl⟩ g1 rfl ?_
            refine en_iload rfl rfl ?_
            obtain ⟨g53, h⟩ := gd h
            obtain ⟨g54, h⟩ := gd h
            refine ec_iastore g53 g54 rfl ?_
            refine en_aload rfl rfl ?_
            obtain ⟨r55, e56, h⟩ := gb h
            refine ec_getP (ci := 10) (j := 3) ⟨rfl, rfl, rfl⟩ g1 e56 rfl ?_
            refine en_aload rfl rfl ?_
            refine ec_getI (ci := 10) (j := 8) ⟨rfl, rfl, rfl⟩ g1 rfl ?_
            refine en_iload rfl rfl ?_
            obtain ⟨g57, h⟩ := gd h
            obtain ⟨g58, h⟩ := gd h
            refine ec_iastore g57 g58 rfl ?_
            refine en_aload rfl rfl ?_
            refine en_dup rfl rfl ?_
            refine ec_getI (ci := 10) (j := 8) ⟨rfl, rfl, rfl⟩ g1 rfl ?_
            refine ec_iconst cst_1 rfl ?_
            refine en_iadd rfl ?_
            refine ec_putI (ci := 10) (j := 8) ⟨rfl, rfl, rfl⟩ g1 rfl ?_
            refine en_aload rfl rfl ?_
            refine ec_getI (ci := 10) (j := 8) ⟨rfl, rfl, rfl⟩ g1 rfl ?_
            cases h
            exact en_iret rfl
          · refine en_if_ne_f c46 rfl ?_
            refine en_aload rfl rfl ?_
            obtain ⟨r59, e60, h⟩ := gb h
            refine ec_getP (ci := 10) (j := 4) ⟨rfl, rfl, rfl⟩ g1 e60 rfl ?_
            refine ec_iconst cst_2 rfl ?_
            refine en_dup2 ⟨rfl, rfl⟩ rfl ?_
            obtain ⟨g61, h⟩ := gd h
            obtain ⟨g62, h⟩ := gd h
            refine ec_iaload g61 g62 rfl ?_
            refine ec_iconst cst_1 rfl ?_
            refine en_iadd rfl ?_
            obtain ⟨g63, h⟩ := gd h
            refine ec_iastore g61 g63 rfl ?_
            refine ec_iconst cst_m1 rfl ?_
            cases h
            exact en_iret rfl
/-- BulkWriterModel.thought(I)V -/
def f_278 (n : Nat) (a0 : Nat) (a1 : Int32) (C : AmC) : Option (Unit × AmC) := if isK a0 10 = true then (f_226 n a0 (((8 : Int32) * (cI C a0 40)) + a1) (0 : Int32) C).bind (fun z => match z with | (_, C3) => (if (cI C3 a0 66) = 0 then some ((), C3) else (f_225 n a0 (0 : Int32) C3).bind (fun z => match z with | (_, C7) => some ((), C7)))) else none
set_option maxRecDepth 20000 in
set_option maxHeartbeats 4000000 in
theorem t_278 {n : Nat} {a0 : Nat} {a1 : Int32} {C : AmC} {r : Unit} {C' : AmC} (h : f_278 n a0 a1 C = some (r, C')) : En false 278 0 [(0, .ref a0), (1, .int a1)] [] (mkM C) (.inl none) (mkM C') := by
  unfold f_278 at h
  refine en_aload rfl rfl ?_
  refine ec_iconst cst_8 rfl ?_
  refine en_aload rfl rfl ?_
  obtain ⟨g1, h⟩ := gd h
  refine ec_getI (ci := 10) (j := 40) ⟨rfl, rfl, rfl⟩ g1 rfl ?_
  refine en_imul rfl ?_
  refine en_iload rfl rfl ?_
  refine en_iadd rfl ?_
  refine ec_iconst cst_0 rfl ?_
  obtain ⟨⟨q2, C3⟩, e4, h⟩ := gb h
  dsimp only at h
  refine ec_callV0 (k' := 226) (n := 3) (rc := 10) (a := a0) (as := [.int (((8 : Int32) * (cI C a0 40)) + a1), .int (0 : Int32)]) ⟨rfl, rfl⟩ rfl rfl (Nat.le_of_ble_eq_true rfl) (Nat.le_of_ble_eq_true rfl) (Nat.le_of_ble_eq_true rfl) g1 rfl (t_226 e4) ?_
  refine en_aload rfl rfl ?_
  refine ec_getI (ci := 10) (j := 66) ⟨rfl, rfl, rfl⟩ g1 rfl ?_
  rcases gi h with ⟨c5, h⟩ | ⟨c5, h⟩
  · refine en_if_eq_t c5 rfl ?_
    cases h
    exact en_vret rfl
  · refine en_if_eq_f c5 rfl ?_
    refine en_aload rfl rfl ?_
    refine ec_iconst cst_0 rfl ?_
    obtain ⟨⟨q6, C7⟩, e8, h⟩ := gb h
    dsimp only at h
    refine ec_callV0 (k' := 225) (n := 2) (rc := 10) (a := a0) (as := [.int (0 : Int32)]) ⟨rfl, rfl⟩ rfl rfl (Nat.le_of_ble_eq_true rfl) (Nat.le_of_ble_eq_true rfl) (Nat.le_of_ble_eq_true rfl) g1 rfl (t_225 e8) ?_
    cases h
    exact en_vret rfl
/-- BulkWriterModel.workAt(II)I -/
def f_279 (n : Nat) (a0 : Nat) (a1 : Int32) (a2 : Int32) (C : AmC) : Option (Int32 × AmC) := if isK a0 10 = true then (cP C a0 57).bind (fun r2 => if isK r2 12 = true then if amIn a1 (aLen r2) = true then (if ¬ (cI C r2 (Int32.toNatClampNeg a1)) = 0 then (f_193 n a0 a1 a2 C).bind (fun z => match z with | (q7, C8) => some (q7, C8)) else some ((-100000 : Int32), C)) else none else none) else none
set_option maxRecDepth 20000 in
set_option maxHeartbeats 4000000 in
theorem t_279 {n : Nat} {a0 : Nat} {a1 : Int32} {a2 : Int32} {C : AmC} {r : Int32} {C' : AmC} (h : f_279 n a0 a1 a2 C = some (r, C')) : En false 279 0 [(0, .ref a0), (1, .int a1), (2, .int a2)] [] (mkM C) (.inl (some (.int r))) (mkM C') := by
  unfold f_279 at h
  refine en_aload rfl rfl ?_
  obtain ⟨g1, h⟩ := gd h
  obtain ⟨r2, e3, h⟩ := gb h
  refine ec_getP (ci := 10) (j := 57) ⟨rfl, rfl, rfl⟩ g1 e3 rfl ?_
  refine en_iload rfl rfl ?_
  obtain ⟨g4, h⟩ := gd h
  obtain ⟨g5, h⟩ := gd h
  refine ec_iaload g4 g5 rfl ?_
  rcases gi h with ⟨c6, h⟩ | ⟨c6, h⟩
  · refine en_if_ne_t c6 rfl ?_
    refine en_aload rfl rfl ?_
    refine en_iload rfl rfl ?_
    refine en_iload rfl rfl ?_
    obtain ⟨⟨q7, C8⟩, e9, h⟩ := gb h
    dsimp only at h
    refine ec_callV1 (k' := 193) (n := 3) (rc := 10) (a := a0) (as := [.int a1, .int a2]) ⟨rfl, rfl⟩ rfl rfl (Nat.le_of_ble_eq_true rfl) (Nat.le_of_ble_eq_true rfl) (Nat.le_of_ble_eq_true rfl) g1 rfl (t_193 e9) ?_
    cases h
    exact en_iret rfl
  · refine en_if_ne_f c6 rfl ?_
    refine ec_iconst cst_m100000 rfl ?_
    refine en_goto rfl ?_
    cases h
    exact en_iret rfl
def lp_280_21 : Nat → Nat → Int32 → Int32 → Int32 → Int32 → AmC → Option (((Nat × Int32 × Int32 × Int32)) × AmC)
  | 0, _, _, _, _, _, _ => none
  | n + 1, p0, p1, p2, p3, p4, C => if isK p0 10 = true then (if (cI C p0 8) ≤ p4 then some ((p0, p1, p2, p3), C) else (if p3 = 0 then lp_280_21 n p0 p1 p2 (0 : Int32) (p4 + (1 : Int32)) C else (cP C p0 1).bind (fun r14 => if isK r14 12 = true then if amIn p4 (aLen r14) = true then (cP C p0 2).bind (fun r18 => if isK r18 12 = true then if amIn p4 (aLen r18) = true then (f_279 n p0 (cI C r14 (Int32.toNatClampNeg p4)) (cI C r18 (Int32.toNatClampNeg p4)) C).bind (fun z => match z with | (q22, C23) => (cP C23 p0 3).bind (fun r25 => if isK r25 12 = true then if amIn p4 (aLen r25) = true then (if ¬ q22 = (cI C23 r25 (Int32.toNatClampNeg p4)) then lp_280_21 n p0 p1 p2 (0 : Int32) (p4 + (1 : Int32)) C23 else lp_280_21 n p0 p1 p2 (1 : Int32) (p4 + (1 : Int32)) C23) else none else none)) else none else none) else none else none))) else none
set_option maxRecDepth 20000 in
set_option maxHeartbeats 4000000 in
theorem lt_280_21 : ∀ (n : Nat) (p0 : Nat) (p1 : Int32) (p2 : Int32) (p3 : Int32) (p4 : Int32) (C : AmC) (r : ((Nat × Int32 × Int32 × Int32)) × AmC), lp_280_21 n p0 p1 p2 p3 p4 C = some r → ∀ (o : AmO) (M' : AmM), (match r with
        | ((w0, w1, w2, w3), C') => En false 280 48 [(0, .ref w0), (1, .int w1), (2, .int w2), (3, .int w3)] [] (mkM C') o M') → En false 280 21 [(0, .ref p0), (1, .int p1), (2, .int p2), (3, .int p3), (4, .int p4)] [] (mkM C) o M' := by
  intro n
  induction n with
  | zero => intro p0 p1 p2 p3 p4 C r h; cases h
  | succ n ih =>
    intro p0 p1 p2 p3 p4 C r h o M' hk
    unfold lp_280_21 at h
    refine en_iload rfl rfl ?_
    refine en_aload rfl rfl ?_
    obtain ⟨g11, h⟩ := gd h
    refine ec_getI (ci := 10) (j := 8) ⟨rfl, rfl, rfl⟩ g11 rfl ?_
    rcases gi h with ⟨c12, h⟩ | ⟨c12, h⟩
    · refine en_icmp_ge_t c12 rfl ?_
      cases h
      exact en_sub [0, 1, 2, 3] rfl rfl hk
    · refine en_icmp_ge_f c12 rfl ?_
      refine en_iload rfl rfl ?_
      rcases gi h with ⟨c13, h⟩ | ⟨c13, h⟩
      · refine en_if_eq_t c13 rfl ?_
        refine ec_iconst cst_0 rfl ?_
        refine en_istore (l' := [(3, .int (0 : Int32)), (0, .ref p0), (1, .int p1), (2, .int p2), (4, .int p4)]) rfl rfl ?_
        refine ec_iinc (l' := [(4, .int (p4 + (1 : Int32))), (3, .int (0 : Int32)), (0, .ref p0), (1, .int p1), (2, .int p2)]) rfl cst_1 rfl rfl ?_
        refine en_goto rfl ?_
        refine en_sub [2, 3, 4, 1, 0] rfl rfl ?_
        exact ih _ _ _ _ _ _ _ h o M' hk
      · refine en_if_eq_f c13 rfl ?_
        refine en_aload rfl rfl ?_
        refine en_aload rfl rfl ?_
        obtain ⟨r14, e15, h⟩ := gb h
        refine ec_getP (ci := 10) (j := 1) ⟨rfl, rfl, rfl⟩ g11 e15 rfl ?_
        refine en_iload rfl rfl ?_
        obtain ⟨g16, h⟩ := gd h
        obtain ⟨g17, h⟩ := gd h
        refine ec_iaload g16 g17 rfl ?_
        refine en_aload rfl rfl ?_
        obtain ⟨r18, e19, h⟩ := gb h
        refine ec_getP (ci := 10) (j := 2) ⟨rfl, rfl, rfl⟩ g11 e19 rfl ?_
        refine en_iload rfl rfl ?_
        obtain ⟨g20, h⟩ := gd h
        obtain ⟨g21, h⟩ := gd h
        refine ec_iaload g20 g21 rfl ?_
        obtain ⟨⟨q22, C23⟩, e24, h⟩ := gb h
        dsimp only at h
        refine ec_callV1 (k' := 279) (n := 3) (rc := 10) (a := p0) (as := [.int (cI C r14 (Int32.toNatClampNeg p4)), .int (cI C r18 (Int32.toNatClampNeg p4))]) ⟨rfl, rfl⟩ rfl rfl (Nat.le_of_ble_eq_true rfl) (Nat.le_of_ble_eq_true rfl) (Nat.le_of_ble_eq_true rfl) g11 rfl (t_279 e24) ?_
        refine en_aload rfl rfl ?_
        obtain ⟨r25, e26, h⟩ := gb h
        refine ec_getP (ci := 10) (j := 3) ⟨rfl, rfl, rfl⟩ g11 e26 rfl ?_
        refine en_iload rfl rfl ?_
        obtain ⟨g27, h⟩ := gd h
        obtain ⟨g28, h⟩ := gd h
        refine ec_iaload g27 g28 rfl ?_
        rcases gi h with ⟨c29, h⟩ | ⟨c29, h⟩
        · refine en_icmp_ne_t c29 rfl ?_
          refine ec_iconst cst_0 rfl ?_
          refine en_istore (l' := [(3, .int (0 : Int32)), (0, .ref p0), (1, .int p1), (2, .int p2), (4, .int p4)]) rfl rfl ?_
          refine ec_iinc (l' := [(4, .int (p4 + (1 : Int32))), (3, .int (0 : Int32)), (0, .ref p0), (1, .int p1), (2, .int p2)]) rfl cst_1 rfl rfl ?_
          refine en_goto rfl ?_
          refine en_sub [2, 3, 4, 1, 0] rfl rfl ?_
          exact ih _ _ _ _ _ _ _ h o M' hk
        · refine en_icmp_ne_f c29 rfl ?_
          refine ec_iconst cst_1 rfl ?_
          refine en_goto rfl ?_
          refine en_istore (l' := [(3, .int (1 : Int32)), (0, .ref p0), (1, .int p1), (2, .int p2), (4, .int p4)]) rfl rfl ?_
          refine ec_iinc (l' := [(4, .int (p4 + (1 : Int32))), (3, .int (1 : Int32)), (0, .ref p0), (1, .int p1), (2, .int p2)]) rfl cst_1 rfl rfl ?_
          refine en_goto rfl ?_
          refine en_sub [2, 3, 4, 1, 0] rfl rfl ?_
          exact ih _ _ _ _ _ _ _ h o M' hk
def lp_280_7 : Nat → Nat → Int32 → Int32 → AmC → Option (((Int32)) × AmC)
  | 0, _, _, _, _ => none
  | n + 1, p0, p1, p2, C => if isK p0 10 = true then (cP C p0 25).bind (fun r3 => if isK r3 12 = true then if amIn (cI C p0 40) (aLen r3) = true then (if (cI C r3 (Int32.toNatClampNeg (cI C p0 40))) ≤ p2 then some (p1, C) else (f_278 n p0 p2 C).bind (fun z => match z with | (_, C9) => (lp_280_21 n p0 p1 p2 (1 : Int32) (0 : Int32) C9).bind (fun q => match q with | ((u33, u34, u35, u36), C32) => (if u36 = 0 then lp_280_7 n u33 u34 (u35 + (1 : Int32)) C32 else lp_280_7 n u33 (u34 ||| ((1 : Int32) <<< (u35 &&& 31))) (u35 + (1 : Int32)) C32)))) else none else none) else none
set_option maxRecDepth 20000 in
set_option maxHeartbeats 4000000 in
theorem lt_280_7 : ∀ (n : Nat) (p0 : Nat) (p1 : Int32) (p2 : Int32) (C : AmC) (r : ((Int32)) × AmC), lp_280_7 n p0 p1 p2 C = some r → ∀ (o : AmO) (M' : AmM), (match r with
        | (w1, C') => En false 280 58 [(1, .int w1)] [] (mkM C') o M') → En false 280 7 [(0, .ref p0), (1, .int p1), (2, .int p2)] [] (mkM C) o M' := by
  intro n
  induction n with
  | zero => intro p0 p1 p2 C r h; cases h
  | succ n ih =>
    intro p0 p1 p2 C r h o M' hk
    unfold lp_280_7 at h
    refine en_iload rfl rfl ?_
    refine en_aload rfl rfl ?_
    obtain ⟨g2, h⟩ := gd h
    obtain ⟨r3, e4, h⟩ := gb h
    refine ec_getP (ci := 10) (j := 25) ⟨rfl, rfl, rfl⟩ g2 e4 rfl ?_
    refine en_aload rfl rfl ?_
    refine ec_getI (ci := 10) (j := 40) ⟨rfl, rfl, rfl⟩ g2 rfl ?_
    obtain ⟨g5, h⟩ := gd h
    obtain ⟨g6, h⟩ := gd h
    refine ec_iaload g5 g6 rfl ?_
    rcases gi h with ⟨c7, h⟩ | ⟨c7, h⟩
    · refine en_icmp_ge_t c7 rfl ?_
      cases h
      exact en_sub [1] rfl rfl hk
    · refine en_icmp_ge_f c7 rfl ?_
      refine en_aload rfl rfl ?_
      refine en_iload rfl rfl ?_
      obtain ⟨⟨q8, C9⟩, e10, h⟩ := gb h
      dsimp only at h
      refine ec_callV0 (k' := 278) (n := 2) (rc := 10) (a := p0) (as := [.int p2]) ⟨rfl, rfl⟩ rfl rfl (Nat.le_of_ble_eq_true rfl) (Nat.le_of_ble_eq_true rfl) (Nat.le_of_ble_eq_true rfl) g2 rfl (t_278 e10) ?_
      refine ec_iconst cst_1 rfl ?_
      refine en_istore (l' := [(3, .int (1 : Int32)), (0, .ref p0), (1, .int p1), (2, .int p2)]) rfl rfl ?_
      refine ec_iconst cst_0 rfl ?_
      refine en_istore (l' := [(4, .int (0 : Int32)), (3, .int (1 : Int32)), (0, .ref p0), (1, .int p1), (2, .int p2)]) rfl rfl ?_
      obtain ⟨⟨q30, C32⟩, e31, h⟩ := gb h
      refine en_sub [2, 3, 4, 1, 0] rfl rfl (lt_280_21 n _ _ _ _ _ _ _ e31 o M' ?_)
      obtain ⟨u33, u34, u35, u36⟩ := q30
      dsimp only at h ⊢
      refine en_iload rfl rfl ?_
      rcases gi h with ⟨c37, h⟩ | ⟨c37, h⟩
      · refine en_if_eq_t c37 rfl ?_
        refine ec_iinc (l' := [(2, .int (u35 + (1 : Int32))), (0, .ref u33), (1, .int u34), (3, .int u36)]) rfl cst_1 rfl rfl ?_
        refine en_goto rfl ?_
        refine en_sub [1, 2, 0] rfl rfl ?_
        exact ih _ _ _ _ _ h o M' hk
      · refine en_if_eq_f c37 rfl ?_
        refine en_iload rfl rfl ?_
        refine ec_iconst cst_1 rfl ?_
        refine en_iload rfl rfl ?_
        refine en_ishl rfl ?_
        refine en_ior rfl ?_
        refine en_istore (l' := [(1, .int (u34 ||| ((1 : Int32) <<< (u35 &&& 31)))), (0, .ref u33), (2, .int u35), (3, .int u36)]) rfl rfl ?_
        refine ec_iinc (l' := [(2, .int (u35 + (1 : Int32))), (1, .int (u34 ||| ((1 : Int32) <<< (u35 &&& 31)))), (0, .ref u33), (3, .int u36)]) rfl cst_1 rfl rfl ?_
        refine en_goto rfl ?_
        refine en_sub [2, 1, 0] rfl rfl ?_
        exact ih _ _ _ _ _ h o M' hk
/-- BulkWriterModel.fits()I -/
def f_280 (n : Nat) (a0 : Nat) (C : AmC) : Option (Int32 × AmC) := if isK a0 10 = true then (lp_280_7 n a0 (0 : Int32) (0 : Int32) (uI C a0 5 (0 : Int32))).bind (fun q => match q with | (u41, C40) => some (u41, C40)) else none
set_option maxRecDepth 20000 in
set_option maxHeartbeats 4000000 in
theorem t_280 {n : Nat} {a0 : Nat} {C : AmC} {r : Int32} {C' : AmC} (h : f_280 n a0 C = some (r, C')) : En false 280 0 [(0, .ref a0)] [] (mkM C) (.inl (some (.int r))) (mkM C') := by
  unfold f_280 at h
  refine en_aload rfl rfl ?_
  refine ec_iconst cst_0 rfl ?_
  obtain ⟨g1, h⟩ := gd h
  refine ec_putI (ci := 10) (j := 5) ⟨rfl, rfl, rfl⟩ g1 rfl ?_
  refine ec_iconst cst_0 rfl ?_
  refine en_istore (l' := [(1, .int (0 : Int32)), (0, .ref a0)]) rfl rfl ?_
  refine ec_iconst cst_0 rfl ?_
  refine en_istore (l' := [(2, .int (0 : Int32)), (1, .int (0 : Int32)), (0, .ref a0)]) rfl rfl ?_
  obtain ⟨⟨q38, C40⟩, e39, h⟩ := gb h
  refine en_sub [2, 1, 0] rfl rfl (lt_280_7 n _ _ _ _ _ e39 _ _ ?_)
  revert h e39; revert q38; intro u41 e39 h
  dsimp only at h ⊢
  refine en_iload rfl rfl ?_
  cases h
  exact en_iret rfl
def lp_282_20 : Nat → Nat → Int32 → Int32 → Int32 → Int32 → Int32 → Int32 → AmC → Option (((Nat × Int32 × Int32 × Int32 × Int32 × Int32)) × AmC)
  | 0, _, _, _, _, _, _, _, _ => none
  | n + 1, p0, p1, p2, p3, p4, p5, p6, C => (if p4 ≤ p6 then some ((p0, p1, p2, p3, p4, p5), C) else (if p5 = 0 then some ((p0, p1, p2, p3, p4, p5), C) else (if ((p1 >>> (p6 &&& 31)) &&& (1 : Int32)) = 0 then lp_282_20 n p0 p1 p2 p3 p4 (1 : Int32) (p6 + (1 : Int32)) C else if isK p0 10 = true then (cP C p0 88).bind (fun r7 => if isK r7 12 = true then if amIn (((120 : Int32) * p6) + p2) (aLen r7) = true then (cP C p0 88).bind (fun r11 => if isK r11 12 = true then if amIn (((120 : Int32) * p4) + p2) (aLen r11) = true then (if (cI C r7 (Int32.toNatClampNeg (((120 : Int32) * p6) + p2))) = (cI C r11 (Int32.toNatClampNeg (((120 : Int32) * p4) + p2))) then lp_282_20 n p0 p1 p2 p3 p4 (0 : Int32) (p6 + (1 : Int32)) C else lp_282_20 n p0 p1 p2 p3 p4 (1 : Int32) (p6 + (1 : Int32)) C) else none else none) else none else none) else none)))
set_option maxRecDepth 20000 in
set_option maxHeartbeats 4000000 in
theorem lt_282_20 : ∀ (n : Nat) (p0 : Nat) (p1 : Int32) (p2 : Int32) (p3 : Int32) (p4 : Int32) (p5 : Int32) (p6 : Int32) (C : AmC) (r : ((Nat × Int32 × Int32 × Int32 × Int32 × Int32)) × AmC), lp_282_20 n p0 p1 p2 p3 p4 p5 p6 C = some r → ∀ (o : AmO) (M' : AmM), (match r with
        | ((w0, w1, w2, w3, w4, w5), C') => En false 282 54 [(0, .ref w0), (1, .int w1), (2, .int w2), (3, .int w3), (4, .int w4), (5, .int w5)] [] (mkM C') o M') → En false 282 20 [(0, .ref p0), (1, .int p1), (2, .int p2), (3, .int p3), (4, .int p4), (5, .int p5), (6, .int p6)] [] (mkM C) o M' := by
  intro n
  induction n with
  | zero => intro p0 p1 p2 p3 p4 p5 p6 C r h; cases h
  | succ n ih =>
    intro p0 p1 p2 p3 p4 p5 p6 C r h o M' hk
    unfold lp_282_20 at h
    refine en_iload rfl rfl ?_
    refine en_iload rfl rfl ?_
    rcases gi h with ⟨c3, h⟩ | ⟨c3, h⟩
    · refine en_icmp_ge_t c3 rfl ?_
      cases h
      exact en_sub [0, 1, 2, 3, 4, 5] rfl rfl hk
    · refine en_icmp_ge_f c3 rfl ?_
      refine en_iload rfl rfl ?_
      rcases gi h with ⟨c4, h⟩ | ⟨c4, h⟩
      · refine en_if_eq_t c4 rfl ?_
        cases h
        exact en_sub [0, 1, 2, 3, 4, 5] rfl rfl hk
      · refine en_if_eq_f c4 rfl ?_
        refine en_iload rfl rfl ?_
        refine en_iload rfl rfl ?_
        refine en_ishr rfl ?_
        refine ec_iconst cst_1 rfl ?_
        refine en_iand rfl ?_
        rcases gi h with ⟨c5, h⟩ | ⟨c5, h⟩
        · refine en_if_eq_t c5 rfl ?_
          refine ec_iconst cst_1 rfl ?_
          refine en_goto rfl ?_
          refine en_istore (l' := [(5, .int (1 : Int32)), (0, .ref p0), (1, .int p1), (2, .int p2), (3, .int p3), (4, .int p4), (6, .int p6)]) rfl rfl ?_
          refine ec_iinc (l' := [(6, .int (p6 + (1 : Int32))), (5, .int (1 : Int32)), (0, .ref p0), (1, .int p1), (2, .int p2), (3, .int p3), (4, .int p4)]) rfl cst_1 rfl rfl ?_
          refine en_goto rfl ?_
          refine en_sub [2, 3, 4, 5, 6, 1, 0] rfl rfl ?_
          exact ih _ _ _ _ _ _ _ _ _ h o M' hk
        · refine en_if_eq_f c5 rfl ?_
          refine en_aload rfl rfl ?_
          obtain ⟨g6, h⟩ := gd h
          obtain ⟨r7, e8, h⟩ := gb h
          refine ec_getP (ci := 10) (j := 88) ⟨rfl, rfl, rfl⟩ g6 e8 rfl ?_
          refine ec_iconst cst_120 rfl ?_
          refine en_iload rfl rfl ?_
          refine en_imul rfl ?_
          refine en_iload rfl rfl ?_
          refine en_iadd rfl ?_
          obtain ⟨g9, h⟩ := gd h
          obtain ⟨g10, h⟩ := gd h
          refine ec_iaload g9 g10 rfl ?_
          refine en_aload rfl rfl ?_
          obtain ⟨r11, e12, h⟩ := gb h
          refine ec_getP (ci := 10) (j := 88) ⟨rfl, rfl, rfl⟩ g6 e12 rfl ?_
          refine ec_iconst cst_120 rfl ?_
          refine en_iload rfl rfl ?_
          refine en_imul rfl ?_
          refine en_iload rfl rfl ?_
          refine en_iadd rfl ?_
          obtain ⟨g13, h⟩ := gd h
          obtain ⟨g14, h⟩ := gd h
          refine ec_iaload g13 g14 rfl ?_
          rcases gi h with ⟨c15, h⟩ | ⟨c15, h⟩
          · refine en_icmp_eq_t c15 rfl ?_
            refine ec_iconst cst_0 rfl ?_
            refine en_istore (l' := [(5, .int (0 : Int32)), (0, .ref p0), (1, .int p1), (2, .int p2), (3, .int p3), (4, .int p4), (6, .int p6)]) rfl rfl ?_
            refine ec_iinc (l' := [(6, .int (p6 + (1 : Int32))), (5, .int (0 : Int32)), (0, .ref p0), (1, .int p1), (2, .int p2), (3, .int p3), (4, .int p4)]) rfl cst_1 rfl rfl ?_
            refine en_goto rfl ?_
            refine en_sub [2, 3, 4, 5, 6, 1, 0] rfl rfl ?_
            exact ih _ _ _ _ _ _ _ _ _ h o M' hk
          · refine en_icmp_eq_f c15 rfl ?_
            refine ec_iconst cst_1 rfl ?_
            refine en_goto rfl ?_
            refine en_istore (l' := [(5, .int (1 : Int32)), (0, .ref p0), (1, .int p1), (2, .int p2), (3, .int p3), (4, .int p4), (6, .int p6)]) rfl rfl ?_
            refine ec_iinc (l' := [(6, .int (p6 + (1 : Int32))), (5, .int (1 : Int32)), (0, .ref p0), (1, .int p1), (2, .int p2), (3, .int p3), (4, .int p4)]) rfl cst_1 rfl rfl ?_
            refine en_goto rfl ?_
            refine en_sub [2, 3, 4, 5, 6, 1, 0] rfl rfl ?_
            exact ih _ _ _ _ _ _ _ _ _ h o M' hk
def lp_282_4 : Nat → Nat → Int32 → Int32 → Int32 → Int32 → AmC → Option (((Int32)) × AmC)
  | 0, _, _, _, _, _, _ => none
  | n + 1, p0, p1, p2, p3, p4, C => (if (8 : Int32) ≤ p4 then some (p3, C) else (if ¬ ((p1 >>> (p4 &&& 31)) &&& (1 : Int32)) = (1 : Int32) then (lp_282_20 n p0 p1 p2 p3 p4 (0 : Int32) (0 : Int32) C).bind (fun q => match q with | ((u19, u20, u21, u22, u23, u24), C18) => (if u24 = 0 then lp_282_4 n u19 u20 u21 (u22 + (0 : Int32)) (u23 + (1 : Int32)) C18 else lp_282_4 n u19 u20 u21 (u22 + (1 : Int32)) (u23 + (1 : Int32)) C18)) else (lp_282_20 n p0 p1 p2 p3 p4 (1 : Int32) (0 : Int32) C).bind (fun q => match q with | ((u29, u30, u31, u32, u33, u34), C28) => (if u34 = 0 then lp_282_4 n u29 u30 u31 (u32 + (0 : Int32)) (u33 + (1 : Int32)) C28 else lp_282_4 n u29 u30 u31 (u32 + (1 : Int32)) (u33 + (1 : Int32)) C28))))
set_option maxRecDepth 20000 in
set_option maxHeartbeats 4000000 in
theorem lt_282_4 : ∀ (n : Nat) (p0 : Nat) (p1 : Int32) (p2 : Int32) (p3 : Int32) (p4 : Int32) (C : AmC) (r : ((Int32)) × AmC), lp_282_4 n p0 p1 p2 p3 p4 C = some r → ∀ (o : AmO) (M' : AmM), (match r with
        | (w3, C') => En false 282 64 [(3, .int w3)] [] (mkM C') o M') → En false 282 4 [(0, .ref p0), (1, .int p1), (2, .int p2), (3, .int p3), (4, .int p4)] [] (mkM C) o M' := by
  intro n
  induction n with
  | zero => intro p0 p1 p2 p3 p4 C r h; cases h
  | succ n ih =>
    intro p0 p1 p2 p3 p4 C r h o M' hk
    unfold lp_282_4 at h
    refine en_iload rfl rfl ?_
    refine ec_iconst cst_8 rfl ?_
    rcases gi h with ⟨c1, h⟩ | ⟨c1, h⟩
    · refine en_icmp_ge_t c1 rfl ?_
      cases h
      exact en_sub [3] rfl rfl hk
    · refine en_icmp_ge_f c1 rfl ?_
      refine en_iload rfl rfl ?_
      refine en_iload rfl rfl ?_
      refine en_ishr rfl ?_
      refine ec_iconst cst_1 rfl ?_
      refine en_iand rfl ?_
      refine ec_iconst cst_1 rfl ?_
      rcases gi h with ⟨c2, h⟩ | ⟨c2, h⟩
      · refine en_icmp_ne_t c2 rfl ?_
        refine ec_iconst cst_0 rfl ?_
        refine en_istore (l' := [(5, .int (0 : Int32)), (0, .ref p0), (1, .int p1), (2, .int p2), (3, .int p3), (4, .int p4)]) rfl rfl ?_
        refine ec_iconst cst_0 rfl ?_
        refine en_istore (l' := [(6, .int (0 : Int32)), (5, .int (0 : Int32)), (0, .ref p0), (1, .int p1), (2, .int p2), (3, .int p3), (4, .int p4)]) rfl rfl ?_
        obtain ⟨⟨q16, C18⟩, e17, h⟩ := gb h
        refine en_sub [2, 3, 4, 5, 6, 1, 0] rfl rfl (lt_282_20 n _ _ _ _ _ _ _ _ _ e17 o M' ?_)
        obtain ⟨u19, u20, u21, u22, u23, u24⟩ := q16
        dsimp only at h ⊢
        refine en_iload rfl rfl ?_
        refine en_iload rfl rfl ?_
        rcases gi h with ⟨c25, h⟩ | ⟨c25, h⟩
        · refine en_if_eq_t c25 rfl ?_
          refine ec_iconst cst_0 rfl ?_
          refine en_iadd rfl ?_
          refine en_istore (l' := [(3, .int (u22 + (0 : Int32))), (0, .ref u19), (1, .int u20), (2, .int u21), (4, .int u23), (5, .int u24)]) rfl rfl ?_
          refine ec_iinc (l' := [(4, .int (u23 + (1 : Int32))), (3, .int (u22 + (0 : Int32))), (0, .ref u19), (1, .int u20), (2, .int u21), (5, .int u24)]) rfl cst_1 rfl rfl ?_
          refine en_goto rfl ?_
          refine en_sub [2, 3, 4, 1, 0] rfl rfl ?_
          exact ih _ _ _ _ _ _ _ h o M' hk
        · refine en_if_eq_f c25 rfl ?_
          refine ec_iconst cst_1 rfl ?_
          refine en_goto rfl ?_
          refine en_iadd rfl ?_
          refine en_istore (l' := [(3, .int (u22 + (1 : Int32))), (0, .ref u19), (1, .int u20), (2, .int u21), (4, .int u23), (5, .int u24)]) rfl rfl ?_
          refine ec_iinc (l' := [(4, .int (u23 + (1 : Int32))), (3, .int (u22 + (1 : Int32))), (0, .ref u19), (1, .int u20), (2, .int u21), (5, .int u24)]) rfl cst_1 rfl rfl ?_
          refine en_goto rfl ?_
          refine en_sub [2, 3, 4, 1, 0] rfl rfl ?_
          exact ih _ _ _ _ _ _ _ h o M' hk
      · refine en_icmp_ne_f c2 rfl ?_
        refine ec_iconst cst_1 rfl ?_
        refine en_goto rfl ?_
        refine en_istore (l' := [(5, .int (1 : Int32)), (0, .ref p0), (1, .int p1), (2, .int p2), (3, .int p3), (4, .int p4)]) rfl rfl ?_
        refine ec_iconst cst_0 rfl ?_
        refine en_istore (l' := [(6, .int (0 : Int32)), (5, .int (1 : Int32)), (0, .ref p0), (1, .int p1), (2, .int p2), (3, .int p3), (4, .int p4)]) rfl rfl ?_
        obtain ⟨⟨q26, C28⟩, e27, h⟩ := gb h
        refine en_sub [2, 3, 4, 5, 6, 1, 0] rfl rfl (lt_282_20 n _ _ _ _ _ _ _ _ _ e27 o M' ?_)
        obtain ⟨u29, u30, u31, u32, u33, u34⟩ := q26
        dsimp only at h ⊢
        refine en_iload rfl rfl ?_
        refine en_iload rfl rfl ?_
        rcases gi h with ⟨c35, h⟩ | ⟨c35, h⟩
        · refine en_if_eq_t c35 rfl ?_
          refine ec_iconst cst_0 rfl ?_
          refine en_iadd rfl ?_
          refine en_istore (l' := [(3, .int (u32 + (0 : Int32))), (0, .ref u29), (1, .int u30), (2, .int u31), (4, .int u33), (5, .int u34)]) rfl rfl ?_
          refine ec_iinc (l' := [(4, .int (u33 + (1 : Int32))), (3, .int (u32 + (0 : Int32))), (0, .ref u29), (1, .int u30), (2, .int u31), (5, .int u34)]) rfl cst_1 rfl rfl ?_
          refine en_goto rfl ?_
          refine en_sub [2, 3, 4, 1, 0] rfl rfl ?_
          exact ih _ _ _ _ _ _ _ h o M' hk
        · refine en_if_eq_f c35 rfl ?_
          refine ec_iconst cst_1 rfl ?_
          refine en_goto rfl ?_
          refine en_iadd rfl ?_
          refine en_istore (l' := [(3, .int (u32 + (1 : Int32))), (0, .ref u29), (1, .int u30), (2, .int u31), (4, .int u33), (5, .int u34)]) rfl rfl ?_
          refine ec_iinc (l' := [(4, .int (u33 + (1 : Int32))), (3, .int (u32 + (1 : Int32))), (0, .ref u29), (1, .int u30), (2, .int u31), (5, .int u34)]) rfl cst_1 rfl rfl ?_
          refine en_goto rfl ?_
          refine en_sub [2, 3, 4, 1, 0] rfl rfl ?_
          exact ih _ _ _ _ _ _ _ h o M' hk
/-- BulkWriterModel.unlike(II)I -/
def f_282 (n : Nat) (a0 : Nat) (a1 : Int32) (a2 : Int32) (C : AmC) : Option (Int32 × AmC) := (lp_282_4 n a0 a1 a2 (0 : Int32) (0 : Int32) C).bind (fun q => match q with | (u39, C38) => some (u39, C38))
set_option maxRecDepth 20000 in
set_option maxHeartbeats 4000000 in
theorem t_282 {n : Nat} {a0 : Nat} {a1 : Int32} {a2 : Int32} {C : AmC} {r : Int32} {C' : AmC} (h : f_282 n a0 a1 a2 C = some (r, C')) : En false 282 0 [(0, .ref a0), (1, .int a1), (2, .int a2)] [] (mkM C) (.inl (some (.int r))) (mkM C') := by
  unfold f_282 at h
  refine ec_iconst cst_0 rfl ?_
  refine en_istore (l' := [(3, .int (0 : Int32)), (0, .ref a0), (1, .int a1), (2, .int a2)]) rfl rfl ?_
  refine ec_iconst cst_0 rfl ?_
  refine en_istore (l' := [(4, .int (0 : Int32)), (3, .int (0 : Int32)), (0, .ref a0), (1, .int a1), (2, .int a2)]) rfl rfl ?_
  obtain ⟨⟨q36, C38⟩, e37, h⟩ := gb h
  refine en_sub [2, 3, 4, 1, 0] rfl rfl (lt_282_4 n _ _ _ _ _ _ _ e37 _ _ ?_)
  revert h e37; revert q36; intro u39 e37 h
  dsimp only at h ⊢
  refine en_iload rfl rfl ?_
  cases h
  exact en_iret rfl
def lp_281_38 : Nat → Nat → Int32 → Int32 → Int32 → Int32 → Int32 → AmC → Option (((Nat × Int32 × Int32 × Int32 × Int32)) × AmC)
  | 0, _, _, _, _, _, _, _ => none
  | n + 1, p0, p1, p2, p3, p4, p5, C => if isK p0 10 = true then (cP C p0 21).bind (fun r20 => if isK r20 12 = true then if amIn (cI C p0 40) (aLen r20) = true then (if (cI C r20 (Int32.toNatClampNeg (cI C p0 40))) ≤ p5 then some ((p0, p1, p2, p3, p4), C) else (cP C p0 88).bind (fun r25 => (f_279 n p0 p4 p5 C).bind (fun z => match z with | (q27, C28) => if isK r25 12 = true then if amIn ((((120 : Int32) * p3) + ((4 : Int32) * p4)) + p5) (aLen r25) = true then lp_281_38 n p0 p1 p2 p3 p4 (p5 + (1 : Int32)) (uI C28 r25 (Int32.toNatClampNeg ((((120 : Int32) * p3) + ((4 : Int32) * p4)) + p5)) q27) else none else none))) else none else none) else none
set_option maxRecDepth 20000 in
set_option maxHeartbeats 4000000 in
theorem lt_281_38 : ∀ (n : Nat) (p0 : Nat) (p1 : Int32) (p2 : Int32) (p3 : Int32) (p4 : Int32) (p5 : Int32) (C : AmC) (r : ((Nat × Int32 × Int32 × Int32 × Int32)) × AmC), lp_281_38 n p0 p1 p2 p3 p4 p5 C = some r → ∀ (o : AmO) (M' : AmM), (match r with
        | ((w0, w1, w2, w3, w4), C') => En false 281 63 [(0, .ref w0), (1, .int w1), (2, .int w2), (3, .int w3), (4, .int w4)] [] (mkM C') o M') → En false 281 38 [(0, .ref p0), (1, .int p1), (2, .int p2), (3, .int p3), (4, .int p4), (5, .int p5)] [] (mkM C) o M' := by
  intro n
  induction n with
  | zero => intro p0 p1 p2 p3 p4 p5 C r h; cases h
  | succ n ih =>
    intro p0 p1 p2 p3 p4 p5 C r h o M' hk
    unfold lp_281_38 at h
    refine en_iload rfl rfl ?_
    refine en_aload rfl rfl ?_
    obtain ⟨g19, h⟩ := gd h
    obtain ⟨r20, e21, h⟩ := gb h
    refine ec_getP (ci := 10) (j := 21) ⟨rfl, rfl, rfl⟩ g19 e21 rfl ?_
    refine en_aload rfl rfl ?_
    refine ec_getI (ci := 10) (j := 40) ⟨rfl, rfl, rfl⟩ g19 rfl ?_
    obtain ⟨g22, h⟩ := gd h
    obtain ⟨g23, h⟩ := gd h
    refine ec_iaload g22 g23 rfl ?_
    rcases gi h with ⟨c24, h⟩ | ⟨c24, h⟩
    · refine en_icmp_ge_t c24 rfl ?_
      cases h
      exact en_sub [0, 1, 2, 3, 4] rfl rfl hk
    · refine en_icmp_ge_f c24 rfl ?_
      refine en_aload rfl rfl ?_
      obtain ⟨r25, e26, h⟩ := gb h
      refine ec_getP (ci := 10) (j := 88) ⟨rfl, rfl, rfl⟩ g19 e26 rfl ?_
      refine ec_iconst cst_120 rfl ?_
      refine en_iload rfl rfl ?_
      refine en_imul rfl ?_
      refine ec_iconst cst_4 rfl ?_
      refine en_iload rfl rfl ?_
      refine en_imul rfl ?_
      refine en_iadd rfl ?_
      refine en_iload rfl rfl ?_
      refine en_iadd rfl ?_
      refine en_aload rfl rfl ?_
      refine en_iload rfl rfl ?_
      refine en_iload rfl rfl ?_
      obtain ⟨⟨q27, C28⟩, e29, h⟩ := gb h
      dsimp only at h
      refine ec_callV1 (k' := 279) (n := 3) (rc := 10) (a := p0) (as := [.int p4, .int p5]) ⟨rfl, rfl⟩ rfl rfl (Nat.le_of_ble_eq_true rfl) (Nat.le_of_ble_eq_true rfl) (Nat.le_of_ble_eq_true rfl) g19 rfl (t_279 e29) ?_
      obtain ⟨g30, h⟩ := gd h
      obtain ⟨g31, h⟩ := gd h
      refine ec_iastore g30 g31 rfl ?_
      refine ec_iinc (l' := [(5, .int (p5 + (1 : Int32))), (0, .ref p0), (1, .int p1), (2, .int p2), (3, .int p3), (4, .int p4)]) rfl cst_1 rfl rfl ?_
      refine en_goto rfl ?_
      refine en_sub [1, 2, 3, 4, 5, 0] rfl rfl ?_
      exact ih _ _ _ _ _ _ _ _ h o M' hk
def lp_281_33 : Nat → Nat → Int32 → Int32 → Int32 → Int32 → AmC → Option (((Nat × Int32 × Int32 × Int32)) × AmC)
  | 0, _, _, _, _, _, _ => none
  | n + 1, p0, p1, p2, p3, p4, C => (if (30 : Int32) ≤ p4 then some ((p0, p1, p2, p3), C) else (lp_281_38 n p0 p1 p2 p3 p4 (0 : Int32) C).bind (fun q => match q with | ((u35, u36, u37, u38, u39), C34) => lp_281_33 n u35 u36 u37 u38 (u39 + (1 : Int32)) C34))
set_option maxRecDepth 20000 in
set_option maxHeartbeats 4000000 in
theorem lt_281_33 : ∀ (n : Nat) (p0 : Nat) (p1 : Int32) (p2 : Int32) (p3 : Int32) (p4 : Int32) (C : AmC) (r : ((Nat × Int32 × Int32 × Int32)) × AmC), lp_281_33 n p0 p1 p2 p3 p4 C = some r → ∀ (o : AmO) (M' : AmM), (match r with
        | ((w0, w1, w2, w3), C') => En false 281 65 [(0, .ref w0), (1, .int w1), (2, .int w2), (3, .int w3)] [] (mkM C') o M') → En false 281 33 [(0, .ref p0), (1, .int p1), (2, .int p2), (3, .int p3), (4, .int p4)] [] (mkM C) o M' := by
  intro n
  induction n with
  | zero => intro p0 p1 p2 p3 p4 C r h; cases h
  | succ n ih =>
    intro p0 p1 p2 p3 p4 C r h o M' hk
    unfold lp_281_33 at h
    refine en_iload rfl rfl ?_
    refine ec_iconst cst_30 rfl ?_
    rcases gi h with ⟨c18, h⟩ | ⟨c18, h⟩
    · refine en_icmp_ge_t c18 rfl ?_
      cases h
      exact en_sub [0, 1, 2, 3] rfl rfl hk
    · refine en_icmp_ge_f c18 rfl ?_
      refine ec_iconst cst_0 rfl ?_
      refine en_istore (l' := [(5, .int (0 : Int32)), (0, .ref p0), (1, .int p1), (2, .int p2), (3, .int p3), (4, .int p4)]) rfl rfl ?_
      obtain ⟨⟨q32, C34⟩, e33, h⟩ := gb h
      refine en_sub [1, 2, 3, 4, 5, 0] rfl rfl (lt_281_38 n _ _ _ _ _ _ _ _ e33 o M' ?_)
      obtain ⟨u35, u36, u37, u38, u39⟩ := q32
      dsimp only at h ⊢
      refine ec_iinc (l' := [(4, .int (u39 + (1 : Int32))), (0, .ref u35), (1, .int u36), (2, .int u37), (3, .int u38)]) rfl cst_1 rfl rfl ?_
      refine en_goto rfl ?_
      refine en_sub [1, 2, 3, 4, 0] rfl rfl ?_
      exact ih _ _ _ _ _ _ _ h o M' hk
def lp_281_18 : Nat → Nat → Int32 → Int32 → Int32 → AmC → Option (((Nat × Int32 × Int32)) × AmC)
  | 0, _, _, _, _, _ => none
  | n + 1, p0, p1, p2, p3, C => (if (8 : Int32) ≤ p3 then some ((p0, p1, p2), C) else (if ¬ ((p2 >>> (p3 &&& 31)) &&& (1 : Int32)) = 0 then if isK p0 10 = true then (f_278 n p0 p3 C).bind (fun z => match z with | (_, C16) => (lp_281_33 n p0 p1 p2 p3 (0 : Int32) C16).bind (fun q => match q with | ((u43, u44, u45, u46), C42) => lp_281_18 n u43 u44 u45 (u46 + (1 : Int32)) C42)) else none else lp_281_18 n p0 p1 p2 (p3 + (1 : Int32)) C))
set_option maxRecDepth 20000 in
set_option maxHeartbeats 4000000 in
theorem lt_281_18 : ∀ (n : Nat) (p0 : Nat) (p1 : Int32) (p2 : Int32) (p3 : Int32) (C : AmC) (r : ((Nat × Int32 × Int32)) × AmC), lp_281_18 n p0 p1 p2 p3 C = some r → ∀ (o : AmO) (M' : AmM), (match r with
        | ((w0, w1, w2), C') => En false 281 67 [(0, .ref w0), (1, .int w1), (2, .int w2)] [] (mkM C') o M') → En false 281 18 [(0, .ref p0), (1, .int p1), (2, .int p2), (3, .int p3)] [] (mkM C) o M' := by
  intro n
  induction n with
  | zero => intro p0 p1 p2 p3 C r h; cases h
  | succ n ih =>
    intro p0 p1 p2 p3 C r h o M' hk
    unfold lp_281_18 at h
    refine en_iload rfl rfl ?_
    refine ec_iconst cst_8 rfl ?_
    rcases gi h with ⟨c12, h⟩ | ⟨c12, h⟩
    · refine en_icmp_ge_t c12 rfl ?_
      cases h
      exact en_sub [0, 1, 2] rfl rfl hk
    · refine en_icmp_ge_f c12 rfl ?_
      refine en_iload rfl rfl ?_
      refine en_iload rfl rfl ?_
      refine en_ishr rfl ?_
      refine ec_iconst cst_1 rfl ?_
      refine en_iand rfl ?_
      rcases gi h with ⟨c13, h⟩ | ⟨c13, h⟩
      · refine en_if_ne_t c13 rfl ?_
        refine en_aload rfl rfl ?_
        refine en_iload rfl rfl ?_
        obtain ⟨g14, h⟩ := gd h
        obtain ⟨⟨q15, C16⟩, e17, h⟩ := gb h
        dsimp only at h
        refine ec_callV0 (k' := 278) (n := 2) (rc := 10) (a := p0) (as := [.int p3]) ⟨rfl, rfl⟩ rfl rfl (Nat.le_of_ble_eq_true rfl) (Nat.le_of_ble_eq_true rfl) (Nat.le_of_ble_eq_true rfl) g14 rfl (t_278 e17) ?_
        refine ec_iconst cst_0 rfl ?_
        refine en_istore (l' := [(4, .int (0 : Int32)), (0, .ref p0), (1, .int p1), (2, .int p2), (3, .int p3)]) rfl rfl ?_
        obtain ⟨⟨q40, C42⟩, e41, h⟩ := gb h
        refine en_sub [1, 2, 3, 4, 0] rfl rfl (lt_281_33 n _ _ _ _ _ _ _ e41 o M' ?_)
        obtain ⟨u43, u44, u45, u46⟩ := q40
        dsimp only at h ⊢
        refine ec_iinc (l' := [(3, .int (u46 + (1 : Int32))), (0, .ref u43), (1, .int u44), (2, .int u45)]) rfl cst_1 rfl rfl ?_
        refine en_goto rfl ?_
        refine en_sub [1, 2, 3, 0] rfl rfl ?_
        exact ih _ _ _ _ _ _ h o M' hk
      · refine en_if_ne_f c13 rfl ?_
        refine en_goto rfl ?_
        refine ec_iinc (l' := [(3, .int (p3 + (1 : Int32))), (0, .ref p0), (1, .int p1), (2, .int p2)]) rfl cst_1 rfl rfl ?_
        refine en_goto rfl ?_
        refine en_sub [1, 2, 3, 0] rfl rfl ?_
        exact ih _ _ _ _ _ _ h o M' hk
def lp_281_78 : Nat → Nat → Int32 → Int32 → Int32 → Int32 → Int32 → Int32 → AmC → Option (((Nat × Int32 × Int32 × Int32 × Int32 × Int32)) × AmC)
  | 0, _, _, _, _, _, _, _, _ => none
  | n + 1, p0, p1, p2, p3, p4, p5, p6, C => if isK p0 10 = true then (cP C p0 21).bind (fun r55 => if isK r55 12 = true then if amIn (cI C p0 40) (aLen r55) = true then (if (cI C r55 (Int32.toNatClampNeg (cI C p0 40))) ≤ p6 then some ((p0, p1, p2, p3, p4, p5), C) else (f_282 n p0 p2 (((4 : Int32) * p5) + p6) C).bind (fun z => match z with | (q60, C61) => (if p4 < q60 then lp_281_78 n p0 p1 p2 (((10 : Int32) * p5) + p6) q60 p5 (p6 + (1 : Int32)) C61 else lp_281_78 n p0 p1 p2 p3 p4 p5 (p6 + (1 : Int32)) C61))) else none else none) else none
set_option maxRecDepth 20000 in
set_option maxHeartbeats 4000000 in
theorem lt_281_78 : ∀ (n : Nat) (p0 : Nat) (p1 : Int32) (p2 : Int32) (p3 : Int32) (p4 : Int32) (p5 : Int32) (p6 : Int32) (C : AmC) (r : ((Nat × Int32 × Int32 × Int32 × Int32 × Int32)) × AmC), lp_281_78 n p0 p1 p2 p3 p4 p5 p6 C = some r → ∀ (o : AmO) (M' : AmM), (match r with
        | ((w0, w1, w2, w3, w4, w5), C') => En false 281 108 [(0, .ref w0), (1, .int w1), (2, .int w2), (3, .int w3), (4, .int w4), (5, .int w5)] [] (mkM C') o M') → En false 281 78 [(0, .ref p0), (1, .int p1), (2, .int p2), (3, .int p3), (4, .int p4), (5, .int p5), (6, .int p6)] [] (mkM C) o M' := by
  intro n
  induction n with
  | zero => intro p0 p1 p2 p3 p4 p5 p6 C r h; cases h
  | succ n ih =>
    intro p0 p1 p2 p3 p4 p5 p6 C r h o M' hk
    unfold lp_281_78 at h
    refine en_iload rfl rfl ?_
    refine en_aload rfl rfl ?_
    obtain ⟨g54, h⟩ := gd h
    obtain ⟨r55, e56, h⟩ := gb h
    refine ec_getP (ci := 10) (j := 21) ⟨rfl, rfl, rfl⟩ g54 e56 rfl ?_
    refine en_aload rfl rfl ?_
    refine ec_getI (ci := 10) (j := 40) ⟨rfl, rfl, rfl⟩ g54 rfl ?_
    obtain ⟨g57, h⟩ := gd h
    obtain ⟨g58, h⟩ := gd h
    refine ec_iaload g57 g58 rfl ?_
    rcases gi h with ⟨c59, h⟩ | ⟨c59, h⟩
    · refine en_icmp_ge_t c59 rfl ?_
      cases h
      exact en_sub [0, 1, 2, 3, 4, 5] rfl rfl hk
    · refine en_icmp_ge_f c59 rfl ?_
      refine en_aload rfl rfl ?_
      refine en_iload rfl rfl ?_
      refine ec_iconst cst_4 rfl ?_
      refine en_iload rfl rfl ?_
      refine en_imul rfl ?_
      refine en_iload rfl rfl ?_
      refine en_iadd rfl ?_
      obtain ⟨⟨q60, C61⟩, e62, h⟩ := gb h
      dsimp only at h
      refine ec_callV1 (k' := 282) (n := 3) (rc := 10) (a := p0) (as := [.int p2, .int (((4 : Int32) * p5) + p6)]) ⟨rfl, rfl⟩ rfl rfl (Nat.le_of_ble_eq_true rfl) (Nat.le_of_ble_eq_true rfl) (Nat.le_of_ble_eq_true rfl) g54 rfl (t_282 e62) ?_
      refine en_istore (l' := [(7, .int q60), (0, .ref p0), (1, .int p1), (2, .int p2), (3, .int p3), (4, .int p4), (5, .int p5), (6, .int p6)]) rfl rfl ?_
      refine en_iload rfl rfl ?_
      refine en_iload rfl rfl ?_
      rcases gi h with ⟨c63, h⟩ | ⟨c63, h⟩
      · refine en_icmp_gt_t c63 rfl ?_
        refine ec_iconst cst_10 rfl ?_
        refine en_iload rfl rfl ?_
        refine en_imul rfl ?_
        refine en_iload rfl rfl ?_
        refine en_iadd rfl ?_
        refine en_istore (l' := [(3, .int (((10 : Int32) * p5) + p6)), (7, .int q60), (0, .ref p0), (1, .int p1), (2, .int p2), (4, .int p4), (5, .int p5), (6, .int p6)]) rfl rfl ?_
        refine en_iload rfl rfl ?_
        refine en_istore (l' := [(4, .int q60), (3, .int (((10 : Int32) * p5) + p6)), (7, .int q60), (0, .ref p0), (1, .int p1), (2, .int p2), (5, .int p5), (6, .int p6)]) rfl rfl ?_
        refine ec_iinc (l' := [(6, .int (p6 + (1 : Int32))), (4, .int q60), (3, .int (((10 : Int32) * p5) + p6)), (7, .int q60), (0, .ref p0), (1, .int p1), (2, .int p2), (5, .int p5)]) rfl cst_1 rfl rfl ?_
        refine en_goto rfl ?_
        refine en_sub [4, 5, 6, 2, 1, 7, 0] rfl rfl ?_
        exact ih _ _ _ _ _ _ _ _ _ h o M' hk
      · refine en_icmp_gt_f c63 rfl ?_
        refine en_goto rfl ?_
        refine ec_iinc (l' := [(6, .int (p6 + (1 : Int32))), (7, .int q60), (0, .ref p0), (1, .int p1), (2, .int p2), (3, .int p3), (4, .int p4), (5, .int p5)]) rfl cst_1 rfl rfl ?_
        refine en_goto rfl ?_
        refine en_sub [2, 3, 4, 5, 6, 7, 0] rfl rfl ?_
        exact ih _ _ _ _ _ _ _ _ _ h o M' hk
def lp_281_73 : Nat → Nat → Int32 → Int32 → Int32 → Int32 → Int32 → AmC → Option (((Int32 × Int32 × Int32)) × AmC)
  | 0, _, _, _, _, _, _, _ => none
  | n + 1, p0, p1, p2, p3, p4, p5, C => (if (30 : Int32) ≤ p5 then some ((p1, p3, p4), C) else (lp_281_78 n p0 p1 p2 p3 p4 p5 (0 : Int32) C).bind (fun q => match q with | ((u67, u68, u69, u70, u71, u72), C66) => lp_281_73 n u67 u68 u69 u70 u71 (u72 + (1 : Int32)) C66))
set_option maxRecDepth 20000 in
set_option maxHeartbeats 4000000 in
theorem lt_281_73 : ∀ (n : Nat) (p0 : Nat) (p1 : Int32) (p2 : Int32) (p3 : Int32) (p4 : Int32) (p5 : Int32) (C : AmC) (r : ((Int32 × Int32 × Int32)) × AmC), lp_281_73 n p0 p1 p2 p3 p4 p5 C = some r → ∀ (o : AmO) (M' : AmM), (match r with
        | ((w1, w3, w4), C') => En false 281 110 [(1, .int w1), (3, .int w3), (4, .int w4)] [] (mkM C') o M') → En false 281 73 [(0, .ref p0), (1, .int p1), (2, .int p2), (3, .int p3), (4, .int p4), (5, .int p5)] [] (mkM C) o M' := by
  intro n
  induction n with
  | zero => intro p0 p1 p2 p3 p4 p5 C r h; cases h
  | succ n ih =>
    intro p0 p1 p2 p3 p4 p5 C r h o M' hk
    unfold lp_281_73 at h
    refine en_iload rfl rfl ?_
    refine ec_iconst cst_30 rfl ?_
    rcases gi h with ⟨c53, h⟩ | ⟨c53, h⟩
    · refine en_icmp_ge_t c53 rfl ?_
      cases h
      exact en_sub [1, 3, 4] rfl rfl hk
    · refine en_icmp_ge_f c53 rfl ?_
      refine ec_iconst cst_0 rfl ?_
      refine en_istore (l' := [(6, .int (0 : Int32)), (0, .ref p0), (1, .int p1), (2, .int p2), (3, .int p3), (4, .int p4), (5, .int p5)]) rfl rfl ?_
      obtain ⟨⟨q64, C66⟩, e65, h⟩ := gb h
      refine en_sub [1, 2, 3, 4, 5, 6, 0] rfl rfl (lt_281_78 n _ _ _ _ _ _ _ _ _ e65 o M' ?_)
      obtain ⟨u67, u68, u69, u70, u71, u72⟩ := q64
      dsimp only at h ⊢
      refine ec_iinc (l' := [(5, .int (u72 + (1 : Int32))), (0, .ref u67), (1, .int u68), (2, .int u69), (3, .int u70), (4, .int u71)]) rfl cst_1 rfl rfl ?_
      refine en_goto rfl ?_
      refine en_sub [1, 2, 3, 4, 5, 0] rfl rfl ?_
      exact ih _ _ _ _ _ _ _ _ h o M' hk
/-- BulkWriterModel.look(I)I -/
def f_281 (n : Nat) (a0 : Nat) (a1 : Int32) (C : AmC) : Option (Int32 × AmC) := if isK a0 10 = true then (f_163 n a1 (0 : Int32) (1 : Int32) (uI C a0 5 (0 : Int32))).bind (fun z => match z with | (q2, C3) => (f_162 n a0 q2 (1 : Int32) C3).bind (fun z => match z with | (q5, C6) => (if ¬ q5 = 0 then (f_280 n a0 C6).bind (fun z => match z with | (q9, C10) => (lp_281_18 n a0 a1 q9 (0 : Int32) C10).bind (fun q => match q with | ((u50, u51, u52), C49) => (lp_281_73 n u50 u51 u52 (-1 : Int32) (0 : Int32) (0 : Int32) C49).bind (fun q => match q with | ((u76, u77, u78), C75) => (if ¬ u76 = 0 then some (u78, C75) else some (u77, C75))))) else some ((0 : Int32), C6)))) else none
set_option maxRecDepth 20000 in
set_option maxHeartbeats 4000000 in
theorem t_281 {n : Nat} {a0 : Nat} {a1 : Int32} {C : AmC} {r : Int32} {C' : AmC} (h : f_281 n a0 a1 C = some (r, C')) : En false 281 0 [(0, .ref a0), (1, .int a1)] [] (mkM C) (.inl (some (.int r))) (mkM C') := by
  unfold f_281 at h
  refine en_aload rfl rfl ?_
  refine ec_iconst cst_0 rfl ?_
  obtain ⟨g1, h⟩ := gd h
  refine ec_putI (ci := 10) (j := 5) ⟨rfl, rfl, rfl⟩ g1 rfl ?_
  refine en_aload rfl rfl ?_
  refine en_iload rfl rfl ?_
  refine ec_iconst cst_0 rfl ?_
  refine ec_iconst cst_1 rfl ?_
  obtain ⟨⟨q2, C3⟩, e4, h⟩ := gb h
  dsimp only at h
  refine ec_callS1 (k' := 163) (n := 3) (as := [.int a1, .int (0 : Int32), .int (1 : Int32)]) rfl rfl rfl (Nat.le_of_ble_eq_true rfl) (Nat.le_of_ble_eq_true rfl) (Nat.le_of_ble_eq_true rfl) rfl (t_163 e4) ?_
  refine ec_iconst cst_1 rfl ?_
  obtain ⟨⟨q5, C6⟩, e7, h⟩ := gb h
  dsimp only at h
  refine ec_callV1 (k' := 162) (n := 3) (rc := 10) (a := a0) (as := [.int q2, .int (1 : Int32)]) ⟨rfl, rfl⟩ rfl rfl (Nat.le_of_ble_eq_true rfl) (Nat.le_of_ble_eq_true rfl) (Nat.le_of_ble_eq_true rfl) g1 rfl (t_162 e7) ?_
  rcases gi h with ⟨c8, h⟩ | ⟨c8, h⟩
  · refine en_if_ne_t c8 rfl ?_
    refine en_aload rfl rfl ?_
    obtain ⟨⟨q9, C10⟩, e11, h⟩ := gb h
    dsimp only at h
    refine ec_callV1 (k' := 280) (n := 1) (rc := 10) (a := a0) (as := []) ⟨rfl, rfl⟩ rfl rfl (Nat.le_of_ble_eq_true rfl) (Nat.le_of_ble_eq_true rfl) (Nat.le_of_ble_eq_true rfl) g1 rfl (t_280 e11) ?_
    refine en_istore (l' := [(2, .int q9), (0, .ref a0), (1, .int a1)]) rfl rfl ?_
    refine ec_iconst cst_0 rfl ?_
    refine en_istore (l' := [(3, .int (0 : Int32)), (2, .int q9), (0, .ref a0), (1, .int a1)]) rfl rfl ?_
    obtain ⟨⟨q47, C49⟩, e48, h⟩ := gb h
    refine en_sub [2, 3, 1, 0] rfl rfl (lt_281_18 n _ _ _ _ _ _ e48 _ _ ?_)
    obtain ⟨u50, u51, u52⟩ := q47
    dsimp only at h ⊢
    refine ec_iconst cst_m1 rfl ?_
    refine en_istore (l' := [(3, .int (-1 : Int32)), (0, .ref u50), (1, .int u51), (2, .int u52)]) rfl rfl ?_
    refine ec_iconst cst_0 rfl ?_
    refine en_istore (l' := [(4, .int (0 : Int32)), (3, .int (-1 : Int32)), (0, .ref u50), (1, .int u51), (2, .int u52)]) rfl rfl ?_
    refine ec_iconst cst_0 rfl ?_
    refine en_istore (l' := [(5, .int (0 : Int32)), (4, .int (0 : Int32)), (3, .int (-1 : Int32)), (0, .ref u50), (1, .int u51), (2, .int u52)]) rfl rfl ?_
    obtain ⟨⟨q73, C75⟩, e74, h⟩ := gb h
    refine en_sub [3, 4, 5, 2, 1, 0] rfl rfl (lt_281_73 n _ _ _ _ _ _ _ _ e74 _ _ ?_)
    obtain ⟨u76, u77, u78⟩ := q73
    dsimp only at h ⊢
    refine en_iload rfl rfl ?_
    rcases gi h with ⟨c79, h⟩ | ⟨c79, h⟩
    · refine en_if_ne_t c79 rfl ?_
      refine en_iload rfl rfl ?_
      cases h
      exact en_iret rfl
    · refine en_if_ne_f c79 rfl ?_
      refine en_iload rfl rfl ?_
      refine en_goto rfl ?_
      cases h
      exact en_iret rfl
  · refine en_if_ne_f c8 rfl ?_
    refine ec_iconst cst_0 rfl ?_
    cases h
    exact en_iret rfl
/-- BulkWriterModel.forget()V -/
def f_283 (n : Nat) (a0 : Nat) (C : AmC) : Option (Unit × AmC) := if isK a0 10 = true then some ((), uI (uI C a0 5 (0 : Int32)) a0 8 (0 : Int32)) else none
set_option maxRecDepth 20000 in
set_option maxHeartbeats 4000000 in
theorem t_283 {n : Nat} {a0 : Nat} {C : AmC} {r : Unit} {C' : AmC} (h : f_283 n a0 C = some (r, C')) : En false 283 0 [(0, .ref a0)] [] (mkM C) (.inl none) (mkM C') := by
  unfold f_283 at h
  refine en_aload rfl rfl ?_
  refine ec_iconst cst_0 rfl ?_
  obtain ⟨g1, h⟩ := gd h
  refine ec_putI (ci := 10) (j := 5) ⟨rfl, rfl, rfl⟩ g1 rfl ?_
  refine en_aload rfl rfl ?_
  refine ec_iconst cst_0 rfl ?_
  refine ec_putI (ci := 10) (j := 8) ⟨rfl, rfl, rfl⟩ g1 rfl ?_
  cases h
  exact en_vret rfl
/-- BulkWriterModel.draw(I)I -/
def f_284 (n : Nat) (a0 : Nat) (a1 : Int32) (C : AmC) : Option (Int32 × AmC) := if isK a0 10 = true then if ¬ a1 = 0 then some (((((cI (uI C a0 89 (((cI C a0 89) * (1103515245 : Int32)) + (12345 : Int32))) a0 89) >>> ((16 : Int32) &&& 31)) &&& (32767 : Int32)) - (((cI (uI C a0 89 (((cI C a0 89) * (1103515245 : Int32)) + (12345 : Int32))) a0 89) >>> ((16 : Int32) &&& 31)) &&& (32767 : Int32)) / a1 * a1), uI C a0 89 (((cI C a0 89) * (1103515245 : Int32)) + (12345 : Int32))) else none else none
set_option maxRecDepth 20000 in
set_option maxHeartbeats 4000000 in
theorem t_284 {n : Nat} {a0 : Nat} {a1 : Int32} {C : AmC} {r : Int32} {C' : AmC} (h : f_284 n a0 a1 C = some (r, C')) : En false 284 0 [(0, .ref a0), (1, .int a1)] [] (mkM C) (.inl (some (.int r))) (mkM C') := by
  unfold f_284 at h
  refine en_aload rfl rfl ?_
  refine en_aload rfl rfl ?_
  obtain ⟨g1, h⟩ := gd h
  refine ec_getI (ci := 10) (j := 89) ⟨rfl, rfl, rfl⟩ g1 rfl ?_
  refine ec_iconst cst_1103515245 rfl ?_
  refine en_imul rfl ?_
  refine ec_iconst cst_12345 rfl ?_
  refine en_iadd rfl ?_
  refine ec_putI (ci := 10) (j := 89) ⟨rfl, rfl, rfl⟩ g1 rfl ?_
  refine en_aload rfl rfl ?_
  refine ec_getI (ci := 10) (j := 89) ⟨rfl, rfl, rfl⟩ g1 rfl ?_
  refine ec_iconst cst_16 rfl ?_
  refine en_ishr rfl ?_
  refine ec_iconst cst_32767 rfl ?_
  refine en_iand rfl ?_
  refine en_iload rfl rfl ?_
  obtain ⟨g2, h⟩ := gd h
  refine en_irem g2 rfl ?_
  cases h
  exact en_iret rfl
def lp_285_35 : Nat → Nat → Int32 → Int32 → Int32 → Int32 → Int32 → AmC → Option (((Nat × Int32 × Int32 × Int32)) × AmC)
  | 0, _, _, _, _, _, _, _ => none
  | n + 1, p0, p2, p3, p4, p5, p6, C => (if p2 ≤ p6 then some ((p0, p3, p4, p5), C) else if isK p0 10 = true then (f_284 n p0 (3 : Int32) C).bind (fun z => match z with | (q21, C22) => (if ¬ q21 = (2 : Int32) then (cP C22 p0 25).bind (fun r25 => if isK r25 12 = true then if amIn (cI C22 p0 40) (aLen r25) = true then (if (cI C22 r25 (Int32.toNatClampNeg (cI C22 p0 40))) ≤ 0 then lp_285_35 n p0 p2 p3 p4 p5 (p6 + (1 : Int32)) C22 else (cP C22 p0 25).bind (fun r30 => if isK r30 12 = true then if amIn (cI C22 p0 40) (aLen r30) = true then (f_284 n p0 (cI C22 r30 (Int32.toNatClampNeg (cI C22 p0 40))) C22).bind (fun z => match z with | (q34, C35) => (f_226 n p0 (((8 : Int32) * (cI C22 p0 40)) + q34) (150 : Int32) C35).bind (fun z => match z with | (_, C38) => (if ¬ (cI C38 p0 66) = 0 then (if ¬ (cI C38 p0 66) = 0 then (if ¬ (cI C38 p0 66) = 0 then lp_285_35 n p0 p2 p3 (p4 + (0 : Int32)) (p5 + (1 : Int32)) (p6 + (1 : Int32)) C38 else lp_285_35 n p0 p2 p3 (p4 + (0 : Int32)) (p5 + (0 : Int32)) (p6 + (1 : Int32)) C38) else (if ¬ (cI C38 p0 66) = 0 then lp_285_35 n p0 p2 p3 (p4 + (cI C38 p0 65)) (p5 + (1 : Int32)) (p6 + (1 : Int32)) C38 else lp_285_35 n p0 p2 p3 (p4 + (cI C38 p0 65)) (p5 + (0 : Int32)) (p6 + (1 : Int32)) C38)) else (f_271 n p0 (150 : Int32) C38).bind (fun z => match z with | (_, C45) => (if ¬ (cI C45 p0 66) = 0 then (if ¬ (cI C45 p0 66) = 0 then lp_285_35 n p0 p2 p3 (p4 + (0 : Int32)) (p5 + (1 : Int32)) (p6 + (1 : Int32)) C45 else lp_285_35 n p0 p2 p3 (p4 + (0 : Int32)) (p5 + (0 : Int32)) (p6 + (1 : Int32)) C45) else (if ¬ (cI C45 p0 66) = 0 then lp_285_35 n p0 p2 p3 (p4 + (cI C45 p0 65)) (p5 + (1 : Int32)) (p6 + (1 : Int32)) C45 else lp_285_35 n p0 p2 p3 (p4 + (cI C45 p0 65)) (p5 + (0 : Int32)) (p6 + (1 : Int32)) C45)))))) else none else none)) else none else none) else (f_284 n p0 (30 : Int32) C22).bind (fun z => match z with | (q50, C51) => (cP C51 p0 21).bind (fun r53 => if isK r53 12 = true then if amIn (cI C51 p0 40) (aLen r53) = true then (f_284 n p0 (cI C51 r53 (Int32.toNatClampNeg (cI C51 p0 40))) C51).bind (fun z => match z with | (q57, C58) => (f_284 n p0 (10 : Int32) C58).bind (fun z => match z with | (q60, C61) => (f_273 n p0 (150 : Int32) q50 q57 q60 C61).bind (fun z => match z with | (q63, C64) => lp_285_35 n p0 p2 p3 p4 p5 (p6 + (1 : Int32)) C64))) else none else none)))) else none)
set_option maxRecDepth 20000 in
set_option maxHeartbeats 4000000 in
theorem lt_285_35 : ∀ (n : Nat) (p0 : Nat) (p2 : Int32) (p3 : Int32) (p4 : Int32) (p5 : Int32) (p6 : Int32) (C : AmC) (r : ((Nat × Int32 × Int32 × Int32)) × AmC), lp_285_35 n p0 p2 p3 p4 p5 p6 C = some r → ∀ (o : AmO) (M' : AmM), (match r with
        | ((w0, w3, w4, w5), C') => En false 285 113 [(0, .ref w0), (3, .int w3), (4, .int w4), (5, .int w5)] [] (mkM C') o M') → En false 285 35 [(0, .ref p0), (2, .int p2), (3, .int p3), (4, .int p4), (5, .int p5), (6, .int p6)] [] (mkM C) o M' := by
  intro n
  induction n with
  | zero => intro p0 p2 p3 p4 p5 p6 C r h; cases h
  | succ n ih =>
    intro p0 p2 p3 p4 p5 p6 C r h o M' hk
    unfold lp_285_35 at h
    refine en_iload rfl rfl ?_
    refine en_iload rfl rfl ?_
    rcases gi h with ⟨c19, h⟩ | ⟨c19, h⟩
    · refine en_icmp_ge_t c19 rfl ?_
      cases h
      exact en_sub [0, 2, 3, 4] rfl rfl hk
    · refine en_icmp_ge_f c19 rfl ?_
      refine en_aload rfl rfl ?_
      refine ec_iconst cst_3 rfl ?_
      obtain ⟨g20, h⟩ := gd h
      obtain ⟨⟨q21, C22⟩, e23, h⟩ := gb h
      dsimp only at h
      refine ec_callV1 (k' := 284) (n := 2) (rc := 10) (a := p0) (as := [.int (3 : Int32)]) ⟨rfl, rfl⟩ rfl rfl (Nat.le_of_ble_eq_true rfl) (Nat.le_of_ble_eq_true rfl) (Nat.le_of_ble_eq_true rfl) g20 rfl (t_284 e23) ?_
      refine ec_iconst cst_2 rfl ?_
      rcases gi h with ⟨c24, h⟩ | ⟨c24, h⟩
      · refine en_icmp_ne_t c24 rfl ?_
        refine en_aload rfl rfl ?_
        obtain ⟨r25, e26, h⟩ := gb h
        refine ec_getP (ci := 10) (j := 25) ⟨rfl, rfl, rfl⟩ g20 e26 rfl ?_
        refine en_aload rfl rfl ?_
        refine ec_getI (ci := 10) (j := 40) ⟨rfl, rfl, rfl⟩ g20 rfl ?_
        obtain ⟨g27, h⟩ := gd h
        obtain ⟨g28, h⟩ := gd h
        refine ec_iaload g27 g28 rfl ?_
        rcases gi h with ⟨c29, h⟩ | ⟨c29, h⟩
        · refine en_if_le_t c29 rfl ?_
          refine ec_iinc (l' := [(6, .int (p6 + (1 : Int32))), (0, .ref p0), (2, .int p2), (3, .int p3), (4, .int p4), (5, .int p5)]) rfl cst_1 rfl rfl ?_
          refine en_goto rfl ?_
          refine en_sub [1, 2, 3, 4, 5, 0] rfl rfl ?_
          exact ih _ _ _ _ _ _ _ _ h o M' hk
        · refine en_if_le_f c29 rfl ?_
          refine en_aload rfl rfl ?_
          refine ec_iconst cst_8 rfl ?_
          refine en_aload rfl rfl ?_
          refine ec_getI (ci := 10) (j := 40) ⟨rfl, rfl, rfl⟩ g20 rfl ?_
          refine en_imul rfl ?_
          refine en_aload rfl rfl ?_
          refine en_aload rfl rfl ?_
          obtain ⟨r30, e31, h⟩ := gb h
          refine ec_getP (ci := 10) (j := 25) ⟨rfl, rfl, rfl⟩ g20 e31 rfl ?_
          refine en_aload rfl rfl ?_
          refine ec_getI (ci := 10) (j := 40) ⟨rfl, rfl, rfl⟩ g20 rfl ?_
          obtain ⟨g32, h⟩ := gd h
          obtain ⟨g33, h⟩ := gd h
          refine ec_iaload g32 g33 rfl ?_
          obtain ⟨⟨q34, C35⟩, e36, h⟩ := gb h
          dsimp only at h
          refine ec_callV1 (k' := 284) (n := 2) (rc := 10) (a := p0) (as := [.int (cI C22 r30 (Int32.toNatClampNeg (cI C22 p0 40)))]) ⟨rfl, rfl⟩ rfl rfl (Nat.le_of_ble_eq_true rfl) (Nat.le_of_ble_eq_true rfl) (Nat.le_of_ble_eq_true rfl) g20 rfl (t_284 e36) ?_
          refine en_iadd rfl ?_
          refine ec_iconst cst_150 rfl ?_
          obtain ⟨⟨q37, C38⟩, e39, h⟩ := gb h
          dsimp only at h
          refine ec_callV0 (k' := 226) (n := 3) (rc := 10) (a := p0) (as := [.int (((8 : Int32) * (cI C22 p0 40)) + q34), .int (150 : Int32)]) ⟨rfl, rfl⟩ rfl rfl (Nat.le_of_ble_eq_true rfl) (Nat.le_of_ble_eq_true rfl) (Nat.le_of_ble_eq_true rfl) g20 rfl (t_226 e39) ?_
          refine en_aload rfl rfl ?_
          refine ec_getI (ci := 10) (j := 66) ⟨rfl, rfl, rfl⟩ g20 rfl ?_
          rcases gi h with ⟨c40, h⟩ | ⟨c40, h⟩
          · refine en_if_ne_t c40 rfl ?_
            refine en_iload rfl rfl ?_
            refine en_aload rfl rfl ?_
            refine ec_getI (ci := 10) (j := 66) ⟨rfl, rfl, rfl⟩ g20 rfl ?_
            rcases gi h with ⟨c41, h⟩ | ⟨c41, h⟩
            · refine en_if_ne_t c41 rfl ?_
              refine ec_iconst cst_0 rfl ?_
              refine en_iadd rfl ?_
              refine en_istore (l' := [(4, .int (p4 + (0 : Int32))), (0, .ref p0), (2, .int p2), (3, .int p3), (5, .int p5), (6, .int p6)]) rfl rfl ?_
              refine en_iload rfl rfl ?_
              refine en_aload rfl rfl ?_
              refine ec_getI (ci := 10) (j := 66) ⟨rfl, rfl, rfl⟩ g20 rfl ?_
              rcases gi h with ⟨c42, h⟩ | ⟨c42, h⟩
              · refine en_if_ne_t c42 rfl ?_
                refine ec_iconst cst_1 rfl ?_
                refine en_iadd rfl ?_
                refine en_istore (l' := [(5, .int (p5 + (1 : Int32))), (4, .int (p4 + (0 : Int32))), (0, .ref p0), (2, .int p2), (3, .int p3), (6, .int p6)]) rfl rfl ?_
                refine ec_iinc (l' := [(6, .int (p6 + (1 : Int32))), (5, .int (p5 + (1 : Int32))), (4, .int (p4 + (0 : Int32))), (0, .ref p0), (2, .int p2), (3, .int p3)]) rfl cst_1 rfl rfl ?_
                refine en_goto rfl ?_
                refine en_sub [3, 4, 5, 2, 1, 0] rfl rfl ?_
                exact ih _ _ _ _ _ _ _ _ h o M' hk
              · refine en_if_ne_f c42 rfl ?_
                refine ec_iconst cst_0 rfl ?_
                refine en_goto rfl ?_
                refine en_iadd rfl ?_
                refine en_istore (l' := [(5, .int (p5 + (0 : Int32))), (4, .int (p4 + (0 : Int32))), (0, .ref p0), (2, .int p2), (3, .int p3), (6, .int p6)]) rfl rfl ?_
                refine ec_iinc (l' := [(6, .int (p6 + (1 : Int32))), (5, .int (p5 + (0 : Int32))), (4, .int (p4 + (0 : Int32))), (0, .ref p0), (2, .int p2), (3, .int p3)]) rfl cst_1 rfl rfl ?_
                refine en_goto rfl ?_
                refine en_sub [3, 4, 5, 2, 1, 0] rfl rfl ?_
                exact ih _ _ _ _ _ _ _ _ h o M' hk
            · refine en_if_ne_f c41 rfl ?_
              refine en_aload rfl rfl ?_
              refine ec_getI (ci := 10) (j := 65) ⟨rfl, rfl, rfl⟩ g20 rfl ?_
              refine en_goto rfl ?_
              refine en_iadd rfl ?_
              refine en_istore (l' := [(4, .int (p4 + (cI C38 p0 65))), (0, .ref p0), (2, .int p2), (3, .int p3), (5, .int p5), (6, .int p6)]) rfl rfl ?_
              refine en_iload rfl rfl ?_
              refine en_aload rfl rfl ?_
              refine ec_getI (ci := 10) (j := 66) ⟨rfl, rfl, rfl⟩ g20 rfl ?_
              rcases gi h with ⟨c43, h⟩ | ⟨c43, h⟩
              · refine en_if_ne_t c43 rfl ?_
                refine ec_iconst cst_1 rfl ?_
                refine en_iadd rfl ?_
                refine en_istore (l' := [(5, .int (p5 + (1 : Int32))), (4, .int (p4 + (cI C38 p0 65))), (0, .ref p0), (2, .int p2), (3, .int p3), (6, .int p6)]) rfl rfl ?_
                refine ec_iinc (l' := [(6, .int (p6 + (1 : Int32))), (5, .int (p5 + (1 : Int32))), (4, .int (p4 + (cI C38 p0 65))), (0, .ref p0), (2, .int p2), (3, .int p3)]) rfl cst_1 rfl rfl ?_
                refine en_goto rfl ?_
                refine en_sub [3, 4, 5, 2, 1, 0] rfl rfl ?_
                exact ih _ _ _ _ _ _ _ _ h o M' hk
              · refine en_if_ne_f c43 rfl ?_
                refine ec_iconst cst_0 rfl ?_
                refine en_goto rfl ?_
                refine en_iadd rfl ?_
                refine en_istore (l' := [(5, .int (p5 + (0 : Int32))), (4, .int (p4 + (cI C38 p0 65))), (0, .ref p0), (2, .int p2), (3, .int p3), (6, .int p6)]) rfl rfl ?_
                refine ec_iinc (l' := [(6, .int (p6 + (1 : Int32))), (5, .int (p5 + (0 : Int32))), (4, .int (p4 + (cI C38 p0 65))), (0, .ref p0), (2, .int p2), (3, .int p3)]) rfl cst_1 rfl rfl ?_
                refine en_goto rfl ?_
                refine en_sub [3, 4, 5, 2, 1, 0] rfl rfl ?_
                exact ih _ _ _ _ _ _ _ _ h o M' hk
          · refine en_if_ne_f c40 rfl ?_
            refine en_aload rfl rfl ?_
            refine ec_iconst cst_150 rfl ?_
            obtain ⟨⟨q44, C45⟩, e46, h⟩ := gb h
            dsimp only at h
            refine ec_callV0 (k' := 271) (n := 2) (rc := 10) (a := p0) (as := [.int (150 : Int32)]) ⟨rfl, rfl⟩ rfl rfl (Nat.le_of_ble_eq_true rfl) (Nat.le_of_ble_eq_true rfl) (Nat.le_of_ble_eq_true rfl) g20 rfl (t_271 e46) ?_
            refine en_iload rfl rfl ?_
            refine en_aload rfl rfl ?_
            refine ec_getI (ci := 10) (j := 66) ⟨rfl, rfl, rfl⟩ g20 rfl ?_
            rcases gi h with ⟨c47, h⟩ | ⟨c47, h⟩
            · refine en_if_ne_t c47 rfl ?_
              refine ec_iconst cst_0 rfl ?_
              refine en_iadd rfl ?_
              refine en_istore (l' := [(4, .int (p4 + (0 : Int32))), (0, .ref p0), (2, .int p2), (3, .int p3), (5, .int p5), (6, .int p6)]) rfl rfl ?_
              refine en_iload rfl rfl ?_
              refine en_aload rfl rfl ?_
              refine ec_getI (ci := 10) (j := 66) ⟨rfl, rfl, rfl⟩ g20 rfl ?_
              rcases gi h with ⟨c48, h⟩ | ⟨c48, h⟩
              · refine en_if_ne_t c48 rfl ?_
                refine ec_iconst cst_1 rfl ?_
                refine en_iadd rfl ?_
                refine en_istore (l' := [(5, .int (p5 + (1 : Int32))), (4, .int (p4 + (0 : Int32))), (0, .ref p0), (2, .int p2), (3, .int p3), (6, .int p6)]) rfl rfl ?_
                refine ec_iinc (l' := [(6, .int (p6 + (1 : Int32))), (5, .int (p5 + (1 : Int32))), (4, .int (p4 + (0 : Int32))), (0, .ref p0), (2, .int p2), (3, .int p3)]) rfl cst_1 rfl rfl ?_
                refine en_goto rfl ?_
                refine en_sub [3, 4, 5, 2, 1, 0] rfl rfl ?_
                exact ih _ _ _ _ _ _ _ _ h o M' hk
              · refine en_if_ne_f c48 rfl ?_
                refine ec_iconst cst_0 rfl ?_
                refine en_goto rfl ?_
                refine en_iadd rfl ?_
                refine en_istore (l' := [(5, .int (p5 + (0 : Int32))), (4, .int (p4 + (0 : Int32))), (0, .ref p0), (2, .int p2), (3, .int p3), (6, .int p6)]) rfl rfl ?_
                refine ec_iinc (l' := [(6, .int (p6 + (1 : Int32))), (5, .int (p5 + (0 : Int32))), (4, .int (p4 + (0 : Int32))), (0, .ref p0), (2, .int p2), (3, .int p3)]) rfl cst_1 rfl rfl ?_
                refine en_goto rfl ?_
                refine en_sub [3, 4, 5, 2, 1, 0] rfl rfl ?_
                exact ih _ _ _ _ _ _ _ _ h o M' hk
            · refine en_if_ne_f c47 rfl ?_
              refine en_aload rfl rfl ?_
              refine ec_getI (ci := 10) (j := 65) ⟨rfl, rfl, rfl⟩ g20 rfl ?_
              refine en_goto rfl ?_
              refine en_iadd rfl ?_
              refine en_istore (l' := [(4, .int (p4 + (cI C45 p0 65))), (0, .ref p0), (2, .int p2), (3, .int p3), (5, .int p5), (6, .int p6)]) rfl rfl ?_
              refine en_iload rfl rfl ?_
              refine en_aload rfl rfl ?_
              refine ec_getI (ci := 10) (j := 66) ⟨rfl, rfl, rfl⟩ g20 rfl ?_
              rcases gi h with ⟨c49, h⟩ | ⟨c49, h⟩
              · refine en_if_ne_t c49 rfl ?_
                refine ec_iconst cst_1 rfl ?_
                refine en_iadd rfl ?_
                refine en_istore (l' := [(5, .int (p5 + (1 : Int32))), (4, .int (p4 + (cI C45 p0 65))), (0, .ref p0), (2, .int p2), (3, .int p3), (6, .int p6)]) rfl rfl ?_
                refine ec_iinc (l' := [(6, .int (p6 + (1 : Int32))), (5, .int (p5 + (1 : Int32))), (4, .int (p4 + (cI C45 p0 65))), (0, .ref p0), (2, .int p2), (3, .int p3)]) rfl cst_1 rfl rfl ?_
                refine en_goto rfl ?_
                refine en_sub [3, 4, 5, 2, 1, 0] rfl rfl ?_
                exact ih _ _ _ _ _ _ _ _ h o M' hk
              · refine en_if_ne_f c49 rfl ?_
                refine ec_iconst cst_0 rfl ?_
                refine en_goto rfl ?_
                refine en_iadd rfl ?_
                refine en_istore (l' := [(5, .int (p5 + (0 : Int32))), (4, .int (p4 + (cI C45 p0 65))), (0, .ref p0), (2, .int p2), (3, .int p3), (6, .int p6)]) rfl rfl ?_
                refine ec_iinc (l' := [(6, .int (p6 + (1 : Int32))), (5, .int (p5 + (0 : Int32))), (4, .int (p4 + (cI C45 p0 65))), (0, .ref p0), (2, .int p2), (3, .int p3)]) rfl cst_1 rfl rfl ?_
                refine en_goto rfl ?_
                refine en_sub [3, 4, 5, 2, 1, 0] rfl rfl ?_
                exact ih _ _ _ _ _ _ _ _ h o M' hk
      · refine en_icmp_ne_f c24 rfl ?_
        refine en_aload rfl rfl ?_
        refine ec_iconst cst_30 rfl ?_
        obtain ⟨⟨q50, C51⟩, e52, h⟩ := gb h
        dsimp only at h
        refine ec_callV1 (k' := 284) (n := 2) (rc := 10) (a := p0) (as := [.int (30 : Int32)]) ⟨rfl, rfl⟩ rfl rfl (Nat.le_of_ble_eq_true rfl) (Nat.le_of_ble_eq_true rfl) (Nat.le_of_ble_eq_true rfl) g20 rfl (t_284 e52) ?_
        refine en_istore (l' := [(7, .int q50), (0, .ref p0), (2, .int p2), (3, .int p3), (4, .int p4), (5, .int p5), (6, .int p6)]) rfl rfl ?_
        refine en_aload rfl rfl ?_
        refine en_aload rfl rfl ?_
        obtain ⟨r53, e54, h⟩ := gb h
        refine ec_getP (ci := 10) (j := 21) ⟨rfl, rfl, rfl⟩ g20 e54 rfl ?_
        refine en_aload rfl rfl ?_
        refine ec_getI (ci := 10) (j := 40) ⟨rfl, rfl, rfl⟩ g20 rfl ?_
        obtain ⟨g55, h⟩ := gd h
        obtain ⟨g56, h⟩ := gd h
        refine ec_iaload g55 g56 rfl ?_
        obtain ⟨⟨q57, C58⟩, e59, h⟩ := gb h
        dsimp only at h
        refine ec_callV1 (k' := 284) (n := 2) (rc := 10) (a := p0) (as := [.int (cI C51 r53 (Int32.toNatClampNeg (cI C51 p0 40)))]) ⟨rfl, rfl⟩ rfl rfl (Nat.le_of_ble_eq_true rfl) (Nat.le_of_ble_eq_true rfl) (Nat.le_of_ble_eq_true rfl) g20 rfl (t_284 e59) ?_
        refine en_istore (l' := [(8, .int q57), (7, .int q50), (0, .ref p0), (2, .int p2), (3, .int p3), (4, .int p4), (5, .int p5), (6, .int p6)]) rfl rfl ?_
        refine en_aload rfl rfl ?_
        refine ec_iconst cst_150 rfl ?_
        refine en_iload rfl rfl ?_
        refine en_iload rfl rfl ?_
        refine en_aload rfl rfl ?_
        refine ec_iconst cst_10 rfl ?_
        obtain ⟨⟨q60, C61⟩, e62, h⟩ := gb h
        dsimp only at h
        refine ec_callV1 (k' := 284) (n := 2) (rc := 10) (a := p0) (as := [.int (10 : Int32)]) ⟨rfl, rfl⟩ rfl rfl (Nat.le_of_ble_eq_true rfl) (Nat.le_of_ble_eq_true rfl) (Nat.le_of_ble_eq_true rfl) g20 rfl (t_284 e62) ?_
        obtain ⟨⟨q63, C64⟩, e65, h⟩ := gb h
        dsimp only at h
        refine ec_callV1 (k' := 273) (n := 5) (rc := 10) (a := p0) (as := [.int (150 : Int32), .int q50, .int q57, .int q60]) ⟨rfl, rfl⟩ rfl rfl (Nat.le_of_ble_eq_true rfl) (Nat.le_of_ble_eq_true rfl) (Nat.le_of_ble_eq_true rfl) g20 rfl (t_273 e65) ?_
        refine en_istore (l' := [(9, .int q63), (8, .int q57), (7, .int q50), (0, .ref p0), (2, .int p2), (3, .int p3), (4, .int p4), (5, .int p5), (6, .int p6)]) rfl rfl ?_
        refine en_goto rfl ?_
        refine ec_iinc (l' := [(6, .int (p6 + (1 : Int32))), (9, .int q63), (8, .int q57), (7, .int q50), (0, .ref p0), (2, .int p2), (3, .int p3), (4, .int p4), (5, .int p5)]) rfl cst_1 rfl rfl ?_
        refine en_goto rfl ?_
        refine en_sub [4, 5, 6, 7, 8, 0] rfl rfl ?_
        exact ih _ _ _ _ _ _ _ _ h o M' hk
/-- BulkWriterModel.years(III)I -/
def f_285 (n : Nat) (a0 : Nat) (a1 : Int32) (a2 : Int32) (a3 : Int32) (C : AmC) : Option (Int32 × AmC) := if isK a0 10 = true then (f_163 n a3 (0 : Int32) (2 : Int32) (uI C a0 5 (0 : Int32))).bind (fun z => match z with | (q2, C3) => (f_162 n a0 q2 (1 : Int32) C3).bind (fun z => match z with | (q5, C6) => (if q5 = 0 then some ((0 : Int32), C6) else (f_163 n a2 (0 : Int32) (20 : Int32) C6).bind (fun z => match z with | (q9, C10) => (f_162 n a0 q9 (2 : Int32) C10).bind (fun z => match z with | (q12, C13) => (if ¬ q12 = 0 then (f_164 n a0 (0 : Int32) (150 : Int32) (150 : Int32) C13).bind (fun z => match z with | (_, C17) => (lp_285_35 n a0 a2 a3 (0 : Int32) (0 : Int32) (0 : Int32) (uI C17 a0 89 a1)).bind (fun q => match q with | ((u69, u70, u71, u72), C68) => (if ¬ u70 = 0 then (if ¬ u70 = (1 : Int32) then if isK u69 10 = true then (f_244 n u69 (150 : Int32) C68).bind (fun z => match z with | (q76, C77) => some (q76, C77)) else none else some (u72, C68)) else some (u71, C68)))) else some ((0 : Int32), C13))))))) else none
set_option maxRecDepth 20000 in
set_option maxHeartbeats 4000000 in
theorem t_285 {n : Nat} {a0 : Nat} {a1 : Int32} {a2 : Int32} {a3 : Int32} {C : AmC} {r : Int32} {C' : AmC} (h : f_285 n a0 a1 a2 a3 C = some (r, C')) : En false 285 0 [(0, .ref a0), (1, .int a1), (2, .int a2), (3, .int a3)] [] (mkM C) (.inl (some (.int r))) (mkM C') := by
  unfold f_285 at h
  refine en_aload rfl rfl ?_
  refine ec_iconst cst_0 rfl ?_
  obtain ⟨g1, h⟩ := gd h
  refine ec_putI (ci := 10) (j := 5) ⟨rfl, rfl, rfl⟩ g1 rfl ?_
  refine en_aload rfl rfl ?_
  refine en_iload rfl rfl ?_
  refine ec_iconst cst_0 rfl ?_
  refine ec_iconst cst_2 rfl ?_
  obtain ⟨⟨q2, C3⟩, e4, h⟩ := gb h
  dsimp only at h
  refine ec_callS1 (k' := 163) (n := 3) (as := [.int a3, .int (0 : Int32), .int (2 : Int32)]) rfl rfl rfl (Nat.le_of_ble_eq_true rfl) (Nat.le_of_ble_eq_true rfl) (Nat.le_of_ble_eq_true rfl) rfl (t_163 e4) ?_
  refine ec_iconst cst_1 rfl ?_
  obtain ⟨⟨q5, C6⟩, e7, h⟩ := gb h
  dsimp only at h
  refine ec_callV1 (k' := 162) (n := 3) (rc := 10) (a := a0) (as := [.int q2, .int (1 : Int32)]) ⟨rfl, rfl⟩ rfl rfl (Nat.le_of_ble_eq_true rfl) (Nat.le_of_ble_eq_true rfl) (Nat.le_of_ble_eq_true rfl) g1 rfl (t_162 e7) ?_
  rcases gi h with ⟨c8, h⟩ | ⟨c8, h⟩
  · refine en_if_eq_t c8 rfl ?_
    refine ec_iconst cst_0 rfl ?_
    cases h
    exact en_iret rfl
  · refine en_if_eq_f c8 rfl ?_
    refine en_aload rfl rfl ?_
    refine en_iload rfl rfl ?_
    refine ec_iconst cst_0 rfl ?_
    refine ec_iconst cst_20 rfl ?_
    obtain ⟨⟨q9, C10⟩, e11, h⟩ := gb h
    dsimp only at h
    refine ec_callS1 (k' := 163) (n := 3) (as := [.int a2, .int (0 : Int32), .int (20 : Int32)]) rfl rfl rfl (Nat.le_of_ble_eq_true rfl) (Nat.le_of_ble_eq_true rfl) (Nat.le_of_ble_eq_true rfl) rfl (t_163 e11) ?_
    refine ec_iconst cst_2 rfl ?_
    obtain ⟨⟨q12, C13⟩, e14, h⟩ := gb h
    dsimp only at h
    refine ec_callV1 (k' := 162) (n := 3) (rc := 10) (a := a0) (as := [.int q9, .int (2 : Int32)]) ⟨rfl, rfl⟩ rfl rfl (Nat.le_of_ble_eq_true rfl) (Nat.le_of_ble_eq_true rfl) (Nat.le_of_ble_eq_true rfl) g1 rfl (t_162 e14) ?_
    rcases gi h with ⟨c15, h⟩ | ⟨c15, h⟩
    · refine en_if_ne_t c15 rfl ?_
      refine en_aload rfl rfl ?_
      refine ec_iconst cst_0 rfl ?_
      refine ec_iconst cst_150 rfl ?_
      refine ec_iconst cst_150 rfl ?_
      obtain ⟨⟨q16, C17⟩, e18, h⟩ := gb h
      dsimp only at h
      refine ec_callV0 (k' := 164) (n := 4) (rc := 10) (a := a0) (as := [.int (0 : Int32), .int (150 : Int32), .int (150 : Int32)]) ⟨rfl, rfl⟩ rfl rfl (Nat.le_of_ble_eq_true rfl) (Nat.le_of_ble_eq_true rfl) (Nat.le_of_ble_eq_true rfl) g1 rfl (t_164 e18) ?_
      refine en_aload rfl rfl ?_
      refine en_iload rfl rfl ?_
      refine ec_putI (ci := 10) (j := 89) ⟨rfl, rfl, rfl⟩ g1 rfl ?_
      refine ec_iconst cst_0 rfl ?_
      refine en_istore (l' := [(4, .int (0 : Int32)), (0, .ref a0), (1, .int a1), (2, .int a2), (3, .int a3)]) rfl rfl ?_
      refine ec_iconst cst_0 rfl ?_
      refine en_istore (l' := [(5, .int (0 : Int32)), (4, .int (0 : Int32)), (0, .ref a0), (1, .int a1), (2, .int a2), (3, .int a3)]) rfl rfl ?_
      refine ec_iconst cst_0 rfl ?_
      refine en_istore (l' := [(6, .int (0 : Int32)), (5, .int (0 : Int32)), (4, .int (0 : Int32)), (0, .ref a0), (1, .int a1), (2, .int a2), (3, .int a3)]) rfl rfl ?_
      obtain ⟨⟨q66, C68⟩, e67, h⟩ := gb h
      refine en_sub [3, 5, 6, 2, 1, 0] rfl rfl (lt_285_35 n _ _ _ _ _ _ _ _ e67 _ _ ?_)
      obtain ⟨u69, u70, u71, u72⟩ := q66
      dsimp only at h ⊢
      refine en_iload rfl rfl ?_
      rcases gi h with ⟨c73, h⟩ | ⟨c73, h⟩
      · refine en_if_ne_t c73 rfl ?_
        refine en_iload rfl rfl ?_
        refine ec_iconst cst_1 rfl ?_
        rcases gi h with ⟨c74, h⟩ | ⟨c74, h⟩
        · refine en_icmp_ne_t c74 rfl ?_
          refine en_aload rfl rfl ?_
          refine ec_iconst cst_150 rfl ?_
          obtain ⟨g75, h⟩ := gd h
          obtain ⟨⟨q76, C77⟩, e78, h⟩ := gb h
          dsimp only at h
          refine ec_callV1 (k' := 244) (n := 2) (rc := 10) (a := u69) (as := [.int (150 : Int32)]) ⟨rfl, rfl⟩ rfl rfl (Nat.le_of_ble_eq_true rfl) (Nat.le_of_ble_eq_true rfl) (Nat.le_of_ble_eq_true rfl) g75 rfl (t_244 e78) ?_
          cases h
          exact en_iret rfl
        · refine en_icmp_ne_f c74 rfl ?_
          refine en_iload rfl rfl ?_
          refine en_goto rfl ?_
          cases h
          exact en_iret rfl
      · refine en_if_ne_f c73 rfl ?_
        refine en_iload rfl rfl ?_
        refine en_goto rfl ?_
        cases h
        exact en_iret rfl
    · refine en_if_ne_f c15 rfl ?_
      refine ec_iconst cst_0 rfl ?_
      cases h
      exact en_iret rfl
def lp_286_27 : Nat → Nat → Int32 → AmC → Option (((Nat)) × AmC)
  | 0, _, _, _ => none
  | n + 1, p0, p1, C => (if (8 : Int32) ≤ p1 then some (p0, C) else if isK p0 10 = true then (cP C p0 1).bind (fun r10 => (cP C p0 1).bind (fun r12 => if isK r12 12 = true then if amIn p1 (aLen r12) = true then if isK r10 12 = true then if amIn ((8 : Int32) + p1) (aLen r10) = true then (cP (uI C r10 (Int32.toNatClampNeg ((8 : Int32) + p1)) (cI C r12 (Int32.toNatClampNeg p1))) p0 2).bind (fun r18 => (cP (uI C r10 (Int32.toNatClampNeg ((8 : Int32) + p1)) (cI C r12 (Int32.toNatClampNeg p1))) p0 2).bind (fun r20 => if isK r20 12 = true then if amIn p1 (aLen r20) = true then if isK r18 12 = true then if amIn ((8 : Int32) + p1) (aLen r18) = true then (cP (uI (uI C r10 (Int32.toNatClampNeg ((8 : Int32) + p1)) (cI C r12 (Int32.toNatClampNeg p1))) r18 (Int32.toNatClampNeg ((8 : Int32) + p1)) (cI (uI C r10 (Int32.toNatClampNeg ((8 : Int32) + p1)) (cI C r12 (Int32.toNatClampNeg p1))) r20 (Int32.toNatClampNeg p1))) p0 3).bind (fun r26 => (cP (uI (uI C r10 (Int32.toNatClampNeg ((8 : Int32) + p1)) (cI C r12 (Int32.toNatClampNeg p1))) r18 (Int32.toNatClampNeg ((8 : Int32) + p1)) (cI (uI C r10 (Int32.toNatClampNeg ((8 : Int32) + p1)) (cI C r12 (Int32.toNatClampNeg p1))) r20 (Int32.toNatClampNeg p1))) p0 3).bind (fun r28 => if isK r28 12 = true then if amIn p1 (aLen r28) = true then if isK r26 12 = true then if amIn ((8 : Int32) + p1) (aLen r26) = true then lp_286_27 n p0 (p1 + (1 : Int32)) (uI (uI (uI C r10 (Int32.toNatClampNeg ((8 : Int32) + p1)) (cI C r12 (Int32.toNatClampNeg p1))) r18 (Int32.toNatClampNeg ((8 : Int32) + p1)) (cI (uI C r10 (Int32.toNatClampNeg ((8 : Int32) + p1)) (cI C r12 (Int32.toNatClampNeg p1))) r20 (Int32.toNatClampNeg p1))) r26 (Int32.toNatClampNeg ((8 : Int32) + p1)) (cI (uI (uI C r10 (Int32.toNatClampNeg ((8 : Int32) + p1)) (cI C r12 (Int32.toNatClampNeg p1))) r18 (Int32.toNatClampNeg ((8 : Int32) + p1)) (cI (uI C r10 (Int32.toNatClampNeg ((8 : Int32) + p1)) (cI C r12 (Int32.toNatClampNeg p1))) r20 (Int32.toNatClampNeg p1))) r28 (Int32.toNatClampNeg p1))) else none else none else none else none)) else none else none else none else none)) else none else none else none else none)) else none)
set_option maxRecDepth 20000 in
set_option maxHeartbeats 4000000 in
theorem lt_286_27 : ∀ (n : Nat) (p0 : Nat) (p1 : Int32) (C : AmC) (r : ((Nat)) × AmC), lp_286_27 n p0 p1 C = some r → ∀ (o : AmO) (M' : AmM), (match r with
        | (w0, C') => En false 286 62 [(0, .ref w0)] [] (mkM C') o M') → En false 286 27 [(0, .ref p0), (1, .int p1)] [] (mkM C) o M' := by
  intro n
  induction n with
  | zero => intro p0 p1 C r h; cases h
  | succ n ih =>
    intro p0 p1 C r h o M' hk
    unfold lp_286_27 at h
    refine en_iload rfl rfl ?_
    refine ec_iconst cst_8 rfl ?_
    rcases gi h with ⟨c8, h⟩ | ⟨c8, h⟩
    · refine en_icmp_ge_t c8 rfl ?_
      cases h
      exact en_sub [0] rfl rfl hk
    · refine en_icmp_ge_f c8 rfl ?_
      refine en_aload rfl rfl ?_
      obtain ⟨g9, h⟩ := gd h
      obtain ⟨r10, e11, h⟩ := gb h
      refine ec_getP (ci := 10) (j := 1) ⟨rfl, rfl, rfl⟩ g9 e11 rfl ?_
      refine ec_iconst cst_8 rfl ?_
      refine en_iload rfl rfl ?_
      refine en_iadd rfl ?_
      refine en_aload rfl rfl ?_
      obtain ⟨r12, e13, h⟩ := gb h
      refine ec_getP (ci := 10) (j := 1) ⟨rfl, rfl, rfl⟩ g9 e13 rfl ?_
      refine en_iload rfl rfl ?_
      obtain ⟨g14, h⟩ := gd h
      obtain ⟨g15, h⟩ := gd h
      refine ec_iaload g14 g15 rfl ?_
      obtain ⟨g16, h⟩ := gd h
      obtain ⟨g17, h⟩ := gd h
      refine ec_iastore g16 g17 rfl ?_
      refine en_aload rfl rfl ?_
      obtain ⟨r18, e19, h⟩ := gb h
      refine ec_getP (ci := 10) (j := 2) ⟨rfl, rfl, rfl⟩ g9 e19 rfl ?_
      refine ec_iconst cst_8 rfl ?_
      refine en_iload rfl rfl ?_
      refine en_iadd rfl ?_
      refine en_aload rfl rfl ?_
      obtain ⟨r20, e21, h⟩ := gb h
      refine ec_getP (ci := 10) (j := 2) ⟨rfl, rfl, rfl⟩ g9 e21 rfl ?_
      refine en_iload rfl rfl ?_
      obtain ⟨g22, h⟩ := gd h
      obtain ⟨g23, h⟩ := gd h
      refine ec_iaload g22 g23 rfl ?_
      obtain ⟨g24, h⟩ := gd h
      obtain ⟨g25, h⟩ := gd h
      refine ec_iastore g24 g25 rfl ?_
      refine en_aload rfl rfl ?_
      obtain ⟨r26, e27, h⟩ := gb h
      refine ec_getP (ci := 10) (j := 3) ⟨rfl, rfl, rfl⟩ g9 e27 rfl ?_
      refine ec_iconst cst_8 rfl ?_
      refine en_iload rfl rfl ?_
      refine en_iadd rfl ?_
      refine en_aload rfl rfl ?_
      obtain ⟨r28, e29, h⟩ := gb h
      refine ec_getP (ci := 10) (j := 3) ⟨rfl, rfl, rfl⟩ g9 e29 rfl ?_
      refine en_iload rfl rfl ?_
      obtain ⟨g30, h⟩ := gd h
      obtain ⟨g31, h⟩ := gd h
      refine ec_iaload g30 g31 rfl ?_
      obtain ⟨g32, h⟩ := gd h
      obtain ⟨g33, h⟩ := gd h
      refine ec_iastore g32 g33 rfl ?_
      refine ec_iinc (l' := [(1, .int (p1 + (1 : Int32))), (0, .ref p0)]) rfl cst_1 rfl rfl ?_
      refine en_goto rfl ?_
      refine en_sub [1, 0] rfl rfl ?_
      exact ih _ _ _ _ h o M' hk
def lp_286_64 : Nat → Nat → Int32 → AmC → Option (((Nat)) × AmC)
  | 0, _, _, _ => none
  | n + 1, p0, p1, C => (if (3 : Int32) ≤ p1 then some (p0, C) else if isK p0 10 = true then (cP C p0 4).bind (fun r40 => (cP C p0 4).bind (fun r42 => if isK r42 12 = true then if amIn p1 (aLen r42) = true then if isK r40 12 = true then if amIn ((3 : Int32) + p1) (aLen r40) = true then lp_286_64 n p0 (p1 + (1 : Int32)) (uI C r40 (Int32.toNatClampNeg ((3 : Int32) + p1)) (cI C r42 (Int32.toNatClampNeg p1))) else none else none else none else none)) else none)
set_option maxRecDepth 20000 in
set_option maxHeartbeats 4000000 in
theorem lt_286_64 : ∀ (n : Nat) (p0 : Nat) (p1 : Int32) (C : AmC) (r : ((Nat)) × AmC), lp_286_64 n p0 p1 C = some r → ∀ (o : AmO) (M' : AmM), (match r with
        | (w0, C') => En false 286 79 [(0, .ref w0)] [] (mkM C') o M') → En false 286 64 [(0, .ref p0), (1, .int p1)] [] (mkM C) o M' := by
  intro n
  induction n with
  | zero => intro p0 p1 C r h; cases h
  | succ n ih =>
    intro p0 p1 C r h o M' hk
    unfold lp_286_64 at h
    refine en_iload rfl rfl ?_
    refine ec_iconst cst_3 rfl ?_
    rcases gi h with ⟨c38, h⟩ | ⟨c38, h⟩
    · refine en_icmp_ge_t c38 rfl ?_
      cases h
      exact en_sub [0] rfl rfl hk
    · refine en_icmp_ge_f c38 rfl ?_
      refine en_aload rfl rfl ?_
      obtain ⟨g39, h⟩ := gd h
      obtain ⟨r40, e41, h⟩ := gb h
      refine ec_getP (ci := 10) (j := 4) ⟨rfl, rfl, rfl⟩ g39 e41 rfl ?_
      refine ec_iconst cst_3 rfl ?_
      refine en_iload rfl rfl ?_
      refine en_iadd rfl ?_
      refine en_aload rfl rfl ?_
      obtain ⟨r42, e43, h⟩ := gb h
      refine ec_getP (ci := 10) (j := 4) ⟨rfl, rfl, rfl⟩ g39 e43 rfl ?_
      refine en_iload rfl rfl ?_
      obtain ⟨g44, h⟩ := gd h
      obtain ⟨g45, h⟩ := gd h
      refine ec_iaload g44 g45 rfl ?_
      obtain ⟨g46, h⟩ := gd h
      obtain ⟨g47, h⟩ := gd h
      refine ec_iastore g46 g47 rfl ?_
      refine ec_iinc (l' := [(1, .int (p1 + (1 : Int32))), (0, .ref p0)]) rfl cst_1 rfl rfl ?_
      refine en_goto rfl ?_
      refine en_sub [1, 0] rfl rfl ?_
      exact ih _ _ _ _ h o M' hk
/-- BulkWriterModel.image()V -/
def f_286 (n : Nat) (a0 : Nat) (C : AmC) : Option (Unit × AmC) := if isK a0 10 = true then (f_164 n a0 (0 : Int32) (6300 : Int32) (150 : Int32) (uI C a0 5 (0 : Int32))).bind (fun z => match z with | (_, C3) => (f_164 n a0 (300 : Int32) (6450 : Int32) (6000 : Int32) C3).bind (fun z => match z with | (_, C6) => (lp_286_27 n a0 (0 : Int32) (uI (uI (uI C6 a0 9 (cI C6 a0 6)) a0 10 (cI (uI C6 a0 9 (cI C6 a0 6)) a0 7)) a0 11 (cI (uI (uI C6 a0 9 (cI C6 a0 6)) a0 10 (cI (uI C6 a0 9 (cI C6 a0 6)) a0 7)) a0 8))).bind (fun q => match q with | (u37, C36) => (lp_286_64 n u37 (0 : Int32) C36).bind (fun q => match q with | (u51, C50) => if isK u51 10 = true then some ((), uI C50 u51 12 (1 : Int32)) else none)))) else none
set_option maxRecDepth 20000 in
set_option maxHeartbeats 4000000 in
theorem t_286 {n : Nat} {a0 : Nat} {C : AmC} {r : Unit} {C' : AmC} (h : f_286 n a0 C = some (r, C')) : En false 286 0 [(0, .ref a0)] [] (mkM C) (.inl none) (mkM C') := by
  unfold f_286 at h
  refine en_aload rfl rfl ?_
  refine ec_iconst cst_0 rfl ?_
  obtain ⟨g1, h⟩ := gd h
  refine ec_putI (ci := 10) (j := 5) ⟨rfl, rfl, rfl⟩ g1 rfl ?_
  refine en_aload rfl rfl ?_
  refine ec_iconst cst_0 rfl ?_
  refine ec_iconst cst_6300 rfl ?_
  refine ec_iconst cst_150 rfl ?_
  obtain ⟨⟨q2, C3⟩, e4, h⟩ := gb h
  dsimp only at h
  refine ec_callV0 (k' := 164) (n := 4) (rc := 10) (a := a0) (as := [.int (0 : Int32), .int (6300 : Int32), .int (150 : Int32)]) ⟨rfl, rfl⟩ rfl rfl (Nat.le_of_ble_eq_true rfl) (Nat.le_of_ble_eq_true rfl) (Nat.le_of_ble_eq_true rfl) g1 rfl (t_164 e4) ?_
  refine en_aload rfl rfl ?_
  refine ec_iconst cst_300 rfl ?_
  refine ec_iconst cst_6450 rfl ?_
  refine ec_iconst cst_6000 rfl ?_
  obtain ⟨⟨q5, C6⟩, e7, h⟩ := gb h
  dsimp only at h
  refine ec_callV0 (k' := 164) (n := 4) (rc := 10) (a := a0) (as := [.int (300 : Int32), .int (6450 : Int32), .int (6000 : Int32)]) ⟨rfl, rfl⟩ rfl rfl (Nat.le_of_ble_eq_true rfl) (Nat.le_of_ble_eq_true rfl) (Nat.le_of_ble_eq_true rfl) g1 rfl (t_164 e7) ?_
  refine en_aload rfl rfl ?_
  refine en_aload rfl rfl ?_
  refine ec_getI (ci := 10) (j := 6) ⟨rfl, rfl, rfl⟩ g1 rfl ?_
  refine ec_putI (ci := 10) (j := 9) ⟨rfl, rfl, rfl⟩ g1 rfl ?_
  refine en_aload rfl rfl ?_
  refine en_aload rfl rfl ?_
  refine ec_getI (ci := 10) (j := 7) ⟨rfl, rfl, rfl⟩ g1 rfl ?_
  refine ec_putI (ci := 10) (j := 10) ⟨rfl, rfl, rfl⟩ g1 rfl ?_
  refine en_aload rfl rfl ?_
  refine en_aload rfl rfl ?_
  refine ec_getI (ci := 10) (j := 8) ⟨rfl, rfl, rfl⟩ g1 rfl ?_
  refine ec_putI (ci := 10) (j := 11) ⟨rfl, rfl, rfl⟩ g1 rfl ?_
  refine ec_iconst cst_0 rfl ?_
  refine en_istore (l' := [(1, .int (0 : Int32)), (0, .ref a0)]) rfl rfl ?_
  obtain ⟨⟨q34, C36⟩, e35, h⟩ := gb h
  refine en_sub [1, 0] rfl rfl (lt_286_27 n _ _ _ _ e35 _ _ ?_)
  revert h e35; revert q34; intro u37 e35 h
  dsimp only at h ⊢
  refine ec_iconst cst_0 rfl ?_
  refine en_istore (l' := [(1, .int (0 : Int32)), (0, .ref u37)]) rfl rfl ?_
  obtain ⟨⟨q48, C50⟩, e49, h⟩ := gb h
  refine en_sub [1, 0] rfl rfl (lt_286_64 n _ _ _ _ e49 _ _ ?_)
  revert h e49; revert q48; intro u51 e49 h
  dsimp only at h ⊢
  refine en_aload rfl rfl ?_
  refine ec_iconst cst_1 rfl ?_
  obtain ⟨g52, h⟩ := gd h
  refine ec_putI (ci := 10) (j := 12) ⟨rfl, rfl, rfl⟩ g52 rfl ?_
  cases h
  exact en_vret rfl
def lp_287_32 : Nat → Nat → Int32 → AmC → Option (((Nat)) × AmC)
  | 0, _, _, _ => none
  | n + 1, p0, p1, C => (if (8 : Int32) ≤ p1 then some (p0, C) else if isK p0 10 = true then (cP C p0 1).bind (fun r11 => (cP C p0 1).bind (fun r13 => if isK r13 12 = true then if amIn ((8 : Int32) + p1) (aLen r13) = true then if isK r11 12 = true then if amIn p1 (aLen r11) = true then (cP (uI C r11 (Int32.toNatClampNeg p1) (cI C r13 (Int32.toNatClampNeg ((8 : Int32) + p1)))) p0 2).bind (fun r19 => (cP (uI C r11 (Int32.toNatClampNeg p1) (cI C r13 (Int32.toNatClampNeg ((8 : Int32) + p1)))) p0 2).bind (fun r21 => if isK r21 12 = true then if amIn ((8 : Int32) + p1) (aLen r21) = true then if isK r19 12 = true then if amIn p1 (aLen r19) = true then (cP (uI (uI C r11 (Int32.toNatClampNeg p1) (cI C r13 (Int32.toNatClampNeg ((8 : Int32) + p1)))) r19 (Int32.toNatClampNeg p1) (cI (uI C r11 (Int32.toNatClampNeg p1) (cI C r13 (Int32.toNatClampNeg ((8 : Int32) + p1)))) r21 (Int32.toNatClampNeg ((8 : Int32) + p1)))) p0 3).bind (fun r27 => (cP (uI (uI C r11 (Int32.toNatClampNeg p1) (cI C r13 (Int32.toNatClampNeg ((8 : Int32) + p1)))) r19 (Int32.toNatClampNeg p1) (cI (uI C r11 (Int32.toNatClampNeg p1) (cI C r13 (Int32.toNatClampNeg ((8 : Int32) + p1)))) r21 (Int32.toNatClampNeg ((8 : Int32) + p1)))) p0 3).bind (fun r29 => if isK r29 12 = true then if amIn ((8 : Int32) + p1) (aLen r29) = true then if isK r27 12 = true then if amIn p1 (aLen r27) = true then lp_287_32 n p0 (p1 + (1 : Int32)) (uI (uI (uI C r11 (Int32.toNatClampNeg p1) (cI C r13 (Int32.toNatClampNeg ((8 : Int32) + p1)))) r19 (Int32.toNatClampNeg p1) (cI (uI C r11 (Int32.toNatClampNeg p1) (cI C r13 (Int32.toNatClampNeg ((8 : Int32) + p1)))) r21 (Int32.toNatClampNeg ((8 : Int32) + p1)))) r27 (Int32.toNatClampNeg p1) (cI (uI (uI C r11 (Int32.toNatClampNeg p1) (cI C r13 (Int32.toNatClampNeg ((8 : Int32) + p1)))) r19 (Int32.toNatClampNeg p1) (cI (uI C r11 (Int32.toNatClampNeg p1) (cI C r13 (Int32.toNatClampNeg ((8 : Int32) + p1)))) r21 (Int32.toNatClampNeg ((8 : Int32) + p1)))) r29 (Int32.toNatClampNeg ((8 : Int32) + p1)))) else none else none else none else none)) else none else none else none else none)) else none else none else none else none)) else none)
set_option maxRecDepth 20000 in
set_option maxHeartbeats 4000000 in
theorem lt_287_32 : ∀ (n : Nat) (p0 : Nat) (p1 : Int32) (C : AmC) (r : ((Nat)) × AmC), lp_287_32 n p0 p1 C = some r → ∀ (o : AmO) (M' : AmM), (match r with
        | (w0, C') => En false 287 67 [(0, .ref w0)] [] (mkM C') o M') → En false 287 32 [(0, .ref p0), (1, .int p1)] [] (mkM C) o M' := by
  intro n
  induction n with
  | zero => intro p0 p1 C r h; cases h
  | succ n ih =>
    intro p0 p1 C r h o M' hk
    unfold lp_287_32 at h
    refine en_iload rfl rfl ?_
    refine ec_iconst cst_8 rfl ?_
    rcases gi h with ⟨c9, h⟩ | ⟨c9, h⟩
    · refine en_icmp_ge_t c9 rfl ?_
      cases h
      exact en_sub [0] rfl rfl hk
    · refine en_icmp_ge_f c9 rfl ?_
      refine en_aload rfl rfl ?_
      obtain ⟨g10, h⟩ := gd h
      obtain ⟨r11, e12, h⟩ := gb h
      refine ec_getP (ci := 10) (j := 1) ⟨rfl, rfl, rfl⟩ g10 e12 rfl ?_
      refine en_iload rfl rfl ?_
      refine en_aload rfl rfl ?_
      obtain ⟨r13, e14, h⟩ := gb h
      refine ec_getP (ci := 10) (j := 1) ⟨rfl, rfl, rfl⟩ g10 e14 rfl ?_
      refine ec_iconst cst_8 rfl ?_
      refine en_iload rfl rfl ?_
      refine en_iadd rfl ?_
      obtain ⟨g15, h⟩ := gd h
      obtain ⟨g16, h⟩ := gd h
      refine ec_iaload g15 g16 rfl ?_
      obtain ⟨g17, h⟩ := gd h
      obtain ⟨g18, h⟩ := gd h
      refine ec_iastore g17 g18 rfl ?_
      refine en_aload rfl rfl ?_
      obtain ⟨r19, e20, h⟩ := gb h
      refine ec_getP (ci := 10) (j := 2) ⟨rfl, rfl, rfl⟩ g10 e20 rfl ?_
      refine en_iload rfl rfl ?_
      refine en_aload rfl rfl ?_
      obtain ⟨r21, e22, h⟩ := gb h
      refine ec_getP (ci := 10) (j := 2) ⟨rfl, rfl, rfl⟩ g10 e22 rfl ?_
      refine ec_iconst cst_8 rfl ?_
      refine en_iload rfl rfl ?_
      refine en_iadd rfl ?_
      obtain ⟨g23, h⟩ := gd h
      obtain ⟨g24, h⟩ := gd h
      refine ec_iaload g23 g24 rfl ?_
      obtain ⟨g25, h⟩ := gd h
      obtain ⟨g26, h⟩ := gd h
      refine ec_iastore g25 g26 rfl ?_
      refine en_aload rfl rfl ?_
      obtain ⟨r27, e28, h⟩ := gb h
      refine ec_getP (ci := 10) (j := 3) ⟨rfl, rfl, rfl⟩ g10 e28 rfl ?_
      refine en_iload rfl rfl ?_
      refine en_aload rfl rfl ?_
      obtain ⟨r29, e30, h⟩ := gb h
      refine ec_getP (ci := 10) (j := 3) ⟨rfl, rfl, rfl⟩ g10 e30 rfl ?_
      refine ec_iconst cst_8 rfl ?_
      refine en_iload rfl rfl ?_
      refine en_iadd rfl ?_
      obtain ⟨g31, h⟩ := gd h
      obtain ⟨g32, h⟩ := gd h
      refine ec_iaload g31 g32 rfl ?_
      obtain ⟨g33, h⟩ := gd h
      obtain ⟨g34, h⟩ := gd h
      refine ec_iastore g33 g34 rfl ?_
      refine ec_iinc (l' := [(1, .int (p1 + (1 : Int32))), (0, .ref p0)]) rfl cst_1 rfl rfl ?_
      refine en_goto rfl ?_
      refine en_sub [1, 0] rfl rfl ?_
      exact ih _ _ _ _ h o M' hk
def lp_287_69 : Nat → Nat → Int32 → AmC → Option (((Unit)) × AmC)
  | 0, _, _, _ => none
  | n + 1, p0, p1, C => (if (3 : Int32) ≤ p1 then some ((), C) else if isK p0 10 = true then (cP C p0 4).bind (fun r41 => (cP C p0 4).bind (fun r43 => if isK r43 12 = true then if amIn ((3 : Int32) + p1) (aLen r43) = true then if isK r41 12 = true then if amIn p1 (aLen r41) = true then lp_287_69 n p0 (p1 + (1 : Int32)) (uI C r41 (Int32.toNatClampNeg p1) (cI C r43 (Int32.toNatClampNeg ((3 : Int32) + p1)))) else none else none else none else none)) else none)
set_option maxRecDepth 20000 in
set_option maxHeartbeats 4000000 in
theorem lt_287_69 : ∀ (n : Nat) (p0 : Nat) (p1 : Int32) (C : AmC) (r : ((Unit)) × AmC), lp_287_69 n p0 p1 C = some r → ∀ (o : AmO) (M' : AmM), (match r with
        | (_, C') => En false 287 84 [] [] (mkM C') o M') → En false 287 69 [(0, .ref p0), (1, .int p1)] [] (mkM C) o M' := by
  intro n
  induction n with
  | zero => intro p0 p1 C r h; cases h
  | succ n ih =>
    intro p0 p1 C r h o M' hk
    unfold lp_287_69 at h
    refine en_iload rfl rfl ?_
    refine ec_iconst cst_3 rfl ?_
    rcases gi h with ⟨c39, h⟩ | ⟨c39, h⟩
    · refine en_icmp_ge_t c39 rfl ?_
      cases h
      exact en_sub [] rfl rfl hk
    · refine en_icmp_ge_f c39 rfl ?_
      refine en_aload rfl rfl ?_
      obtain ⟨g40, h⟩ := gd h
      obtain ⟨r41, e42, h⟩ := gb h
      refine ec_getP (ci := 10) (j := 4) ⟨rfl, rfl, rfl⟩ g40 e42 rfl ?_
      refine en_iload rfl rfl ?_
      refine en_aload rfl rfl ?_
      obtain ⟨r43, e44, h⟩ := gb h
      refine ec_getP (ci := 10) (j := 4) ⟨rfl, rfl, rfl⟩ g40 e44 rfl ?_
      refine ec_iconst cst_3 rfl ?_
      refine en_iload rfl rfl ?_
      refine en_iadd rfl ?_
      obtain ⟨g45, h⟩ := gd h
      obtain ⟨g46, h⟩ := gd h
      refine ec_iaload g45 g46 rfl ?_
      obtain ⟨g47, h⟩ := gd h
      obtain ⟨g48, h⟩ := gd h
      refine ec_iastore g47 g48 rfl ?_
      refine ec_iinc (l' := [(1, .int (p1 + (1 : Int32))), (0, .ref p0)]) rfl cst_1 rfl rfl ?_
      refine en_goto rfl ?_
      refine en_sub [1, 0] rfl rfl ?_
      exact ih _ _ _ _ h o M' hk
/-- BulkWriterModel.restore()Z -/
def f_287 (n : Nat) (a0 : Nat) (C : AmC) : Option (Int32 × AmC) := if isK a0 10 = true then (if ¬ (cI (uI C a0 5 (0 : Int32)) a0 12) = 0 then (f_164 n a0 (6300 : Int32) (0 : Int32) (150 : Int32) (uI C a0 5 (0 : Int32))).bind (fun z => match z with | (_, C4) => (f_164 n a0 (6450 : Int32) (300 : Int32) (6000 : Int32) C4).bind (fun z => match z with | (_, C7) => (lp_287_32 n a0 (0 : Int32) (uI (uI (uI C7 a0 6 (cI C7 a0 9)) a0 7 (cI (uI C7 a0 6 (cI C7 a0 9)) a0 10)) a0 8 (cI (uI (uI C7 a0 6 (cI C7 a0 9)) a0 7 (cI (uI C7 a0 6 (cI C7 a0 9)) a0 10)) a0 11))).bind (fun q => match q with | (u38, C37) => (lp_287_69 n u38 (0 : Int32) C37).bind (fun q => match q with | (_, C51) => some ((1 : Int32), C51))))) else some ((0 : Int32), uI C a0 5 (0 : Int32))) else none
set_option maxRecDepth 20000 in
set_option maxHeartbeats 4000000 in
theorem t_287 {n : Nat} {a0 : Nat} {C : AmC} {r : Int32} {C' : AmC} (h : f_287 n a0 C = some (r, C')) : En false 287 0 [(0, .ref a0)] [] (mkM C) (.inl (some (.int r))) (mkM C') := by
  unfold f_287 at h
  refine en_aload rfl rfl ?_
  refine ec_iconst cst_0 rfl ?_
  obtain ⟨g1, h⟩ := gd h
  refine ec_putI (ci := 10) (j := 5) ⟨rfl, rfl, rfl⟩ g1 rfl ?_
  refine en_aload rfl rfl ?_
  refine ec_getI (ci := 10) (j := 12) ⟨rfl, rfl, rfl⟩ g1 rfl ?_
  rcases gi h with ⟨c2, h⟩ | ⟨c2, h⟩
  · refine en_if_ne_t c2 rfl ?_
    refine en_aload rfl rfl ?_
    refine ec_iconst cst_6300 rfl ?_
    refine ec_iconst cst_0 rfl ?_
    refine ec_iconst cst_150 rfl ?_
    obtain ⟨⟨q3, C4⟩, e5, h⟩ := gb h
    dsimp only at h
    refine ec_callV0 (k' := 164) (n := 4) (rc := 10) (a := a0) (as := [.int (6300 : Int32), .int (0 : Int32), .int (150 : Int32)]) ⟨rfl, rfl⟩ rfl rfl (Nat.le_of_ble_eq_true rfl) (Nat.le_of_ble_eq_true rfl) (Nat.le_of_ble_eq_true rfl) g1 rfl (t_164 e5) ?_
    refine en_aload rfl rfl ?_
    refine ec_iconst cst_6450 rfl ?_
    refine ec_iconst cst_300 rfl ?_
    refine ec_iconst cst_6000 rfl ?_
    obtain ⟨⟨q6, C7⟩, e8, h⟩ := gb h
    dsimp only at h
    refine ec_callV0 (k' := 164) (n := 4) (rc := 10) (a := a0) (as := [.int (6450 : Int32), .int (300 : Int32), .int (6000 : Int32)]) ⟨rfl, rfl⟩ rfl rfl (Nat.le_of_ble_eq_true rfl) (Nat.le_of_ble_eq_true rfl) (Nat.le_of_ble_eq_true rfl) g1 rfl (t_164 e8) ?_
    refine en_aload rfl rfl ?_
    refine en_aload rfl rfl ?_
    refine ec_getI (ci := 10) (j := 9) ⟨rfl, rfl, rfl⟩ g1 rfl ?_
    refine ec_putI (ci := 10) (j := 6) ⟨rfl, rfl, rfl⟩ g1 rfl ?_
    refine en_aload rfl rfl ?_
    refine en_aload rfl rfl ?_
    refine ec_getI (ci := 10) (j := 10) ⟨rfl, rfl, rfl⟩ g1 rfl ?_
    refine ec_putI (ci := 10) (j := 7) ⟨rfl, rfl, rfl⟩ g1 rfl ?_
    refine en_aload rfl rfl ?_
    refine en_aload rfl rfl ?_
    refine ec_getI (ci := 10) (j := 11) ⟨rfl, rfl, rfl⟩ g1 rfl ?_
    refine ec_putI (ci := 10) (j := 8) ⟨rfl, rfl, rfl⟩ g1 rfl ?_
    refine ec_iconst cst_0 rfl ?_
    refine en_istore (l' := [(1, .int (0 : Int32)), (0, .ref a0)]) rfl rfl ?_
    obtain ⟨⟨q35, C37⟩, e36, h⟩ := gb h
    refine en_sub [1, 0] rfl rfl (lt_287_32 n _ _ _ _ e36 _ _ ?_)
    revert h e36; revert q35; intro u38 e36 h
    dsimp only at h ⊢
    refine ec_iconst cst_0 rfl ?_
    refine en_istore (l' := [(1, .int (0 : Int32)), (0, .ref u38)]) rfl rfl ?_
    obtain ⟨⟨q49, C51⟩, e50, h⟩ := gb h
    refine en_sub [1, 0] rfl rfl (lt_287_69 n _ _ _ _ e50 _ _ ?_)
    dsimp only at h ⊢
    refine ec_iconst cst_1 rfl ?_
    cases h
    exact en_zret (Or.inr rfl) rfl
  · refine en_if_ne_f c2 rfl ?_
    refine ec_iconst cst_0 rfl ?_
    cases h
    exact en_zret (Or.inl rfl) rfl
