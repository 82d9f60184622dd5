def lp_213_62 : Nat → Nat → Int32 → Int32 → Int32 → AmC → Option (((Nat × Int32)) × AmC)
  | 0, _, _, _, _, _ => none
  | n + 1, p0, p2, p3, p4, C => (if (4 : Int32) ≤ p4 then some ((p0, p3), C) else (if p2 = (1 : Int32) then (if ¬ p2 = (2 : Int32) then if isK p0 10 = true then (cP C p0 72).bind (fun r28 => if isK r28 12 = true then if amIn (((4 : Int32) * (cI C p0 65)) + p4) (aLen r28) = true then lp_213_62 n p0 p2 p3 (p4 + (1 : Int32)) (uI C r28 (Int32.toNatClampNeg (((4 : Int32) * (cI C p0 65)) + p4)) (0 : Int32)) else none else none) else none else if isK p0 10 = true then (cP C p0 57).bind (fun r33 => if isK r33 12 = true then if amIn (((30 : Int32) + ((4 : Int32) * p3)) + p4) (aLen r33) = true then (cP (uI C r33 (Int32.toNatClampNeg (((30 : Int32) + ((4 : Int32) * p3)) + p4)) (0 : Int32)) p0 72).bind (fun r37 => if isK r37 12 = true then if amIn (((4 : Int32) * (cI (uI C r33 (Int32.toNatClampNeg (((30 : Int32) + ((4 : Int32) * p3)) + p4)) (0 : Int32)) p0 65)) + p4) (aLen r37) = true then lp_213_62 n p0 p2 p3 (p4 + (1 : Int32)) (uI (uI C r33 (Int32.toNatClampNeg (((30 : Int32) + ((4 : Int32) * p3)) + p4)) (0 : Int32)) r37 (Int32.toNatClampNeg (((4 : Int32) * (cI (uI C r33 (Int32.toNatClampNeg (((30 : Int32) + ((4 : Int32) * p3)) + p4)) (0 : Int32)) p0 65)) + p4)) (0 : Int32)) else none else none) else none else none) else none) else if isK p0 10 = true then (if ¬ (((cI C p0 76) >>> (p4 &&& 31)) &&& (1 : Int32)) = (1 : Int32) then (if ¬ p2 = (2 : Int32) then (cP C p0 72).bind (fun r44 => if isK r44 12 = true then if amIn (((4 : Int32) * (cI C p0 65)) + p4) (aLen r44) = true then lp_213_62 n p0 p2 p3 (p4 + (1 : Int32)) (uI C r44 (Int32.toNatClampNeg (((4 : Int32) * (cI C p0 65)) + p4)) (0 : Int32)) else none else none) else (cP C p0 57).bind (fun r48 => if isK r48 12 = true then if amIn (((30 : Int32) + ((4 : Int32) * p3)) + p4) (aLen r48) = true then (cP (uI C r48 (Int32.toNatClampNeg (((30 : Int32) + ((4 : Int32) * p3)) + p4)) (0 : Int32)) p0 72).bind (fun r52 => if isK r52 12 = true then if amIn (((4 : Int32) * (cI (uI C r48 (Int32.toNatClampNeg (((30 : Int32) + ((4 : Int32) * p3)) + p4)) (0 : Int32)) p0 65)) + p4) (aLen r52) = true then lp_213_62 n p0 p2 p3 (p4 + (1 : Int32)) (uI (uI C r48 (Int32.toNatClampNeg (((30 : Int32) + ((4 : Int32) * p3)) + p4)) (0 : Int32)) r52 (Int32.toNatClampNeg (((4 : Int32) * (cI (uI C r48 (Int32.toNatClampNeg (((30 : Int32) + ((4 : Int32) * p3)) + p4)) (0 : Int32)) p0 65)) + p4)) (0 : Int32)) else none else none) else none else none)) else (cP C p0 57).bind (fun r56 => (cP C p0 75).bind (fun r58 => if isK r58 12 = true then if amIn p4 (aLen r58) = true then if isK r56 12 = true then if amIn (((30 : Int32) + ((4 : Int32) * p3)) + p4) (aLen r56) = true then (cP (uI C r56 (Int32.toNatClampNeg (((30 : Int32) + ((4 : Int32) * p3)) + p4)) (cI C r58 (Int32.toNatClampNeg p4))) p0 72).bind (fun r64 => (cP (uI C r56 (Int32.toNatClampNeg (((30 : Int32) + ((4 : Int32) * p3)) + p4)) (cI C r58 (Int32.toNatClampNeg p4))) p0 75).bind (fun r66 => if isK r66 12 = true then if amIn p4 (aLen r66) = true then if isK r64 12 = true then if amIn (((4 : Int32) * (cI (uI C r56 (Int32.toNatClampNeg (((30 : Int32) + ((4 : Int32) * p3)) + p4)) (cI C r58 (Int32.toNatClampNeg p4))) p0 65)) + p4) (aLen r64) = true then lp_213_62 n p0 p2 p3 (p4 + (1 : Int32)) (uI (uI C r56 (Int32.toNatClampNeg (((30 : Int32) + ((4 : Int32) * p3)) + p4)) (cI C r58 (Int32.toNatClampNeg p4))) r64 (Int32.toNatClampNeg (((4 : Int32) * (cI (uI C r56 (Int32.toNatClampNeg (((30 : Int32) + ((4 : Int32) * p3)) + p4)) (cI C r58 (Int32.toNatClampNeg p4))) p0 65)) + p4)) (cI (uI C r56 (Int32.toNatClampNeg (((30 : Int32) + ((4 : Int32) * p3)) + p4)) (cI C r58 (Int32.toNatClampNeg p4))) r66 (Int32.toNatClampNeg p4))) else none else none else none else none)) else none else none else none else none))) else none))
set_option maxRecDepth 20000 in
set_option maxHeartbeats 4000000 in
theorem lt_213_62 : ∀ (n : Nat) (p0 : Nat) (p2 : Int32) (p3 : Int32) (p4 : Int32) (C : AmC) (r : ((Nat × Int32)) × AmC), lp_213_62 n p0 p2 p3 p4 C = some r → ∀ (o : AmO) (M' : AmM), (match r with
        | ((w0, w3), C') => En false 213 130 [(0, .ref w0), (3, .int w3)] [] (mkM C') o M') → En false 213 62 [(0, .ref p0), (2, .int p2), (3, .int p3), (4, .int p4)] [] (mkM C) o M' := by
  intro n
  induction n with
  | zero => intro p0 p2 p3 p4 C r h; cases h
  | succ n ih =>
    intro p0 p2 p3 p4 C r h o M' hk
    unfold lp_213_62 at h
    refine en_iload rfl rfl ?_
    refine ec_iconst cst_4 rfl ?_
    rcases gi h with ⟨c24, h⟩ | ⟨c24, h⟩
    · refine en_icmp_ge_t c24 rfl ?_
      cases h
      exact en_sub [0, 2] rfl rfl hk
    · refine en_icmp_ge_f c24 rfl ?_
      refine en_iload rfl rfl ?_
      refine ec_iconst cst_1 rfl ?_
      rcases gi h with ⟨c25, h⟩ | ⟨c25, h⟩
      · refine en_icmp_eq_t c25 rfl ?_
        refine ec_iconst cst_0 rfl ?_
        refine en_istore (l' := [(5, .int (0 : Int32)), (0, .ref p0), (2, .int p2), (3, .int p3), (4, .int p4)]) rfl rfl ?_
        refine en_iload rfl rfl ?_
        refine en_if_eq_t (by decide) rfl ?_
        refine en_iload rfl rfl ?_
        refine ec_iconst cst_2 rfl ?_
        rcases gi h with ⟨c26, h⟩ | ⟨c26, h⟩
        · refine en_icmp_ne_t c26 rfl ?_
          refine en_aload rfl rfl ?_
          obtain ⟨g27, h⟩ := gd h
          obtain ⟨r28, e29, h⟩ := gb h
          refine ec_getP (ci := 10) (j := 72) ⟨rfl, rfl, rfl⟩ g27 e29 rfl ?_
          refine ec_iconst cst_4 rfl ?_
          refine en_aload rfl rfl ?_
          refine ec_getI (ci := 10) (j := 65) ⟨rfl, rfl, rfl⟩ g27 rfl ?_
          refine en_imul rfl ?_
          refine en_iload rfl rfl ?_
          refine en_iadd rfl ?_
          refine en_iload rfl rfl ?_
          refine en_if_eq_t (by decide) rfl ?_
          refine ec_iconst cst_0 rfl ?_
          obtain ⟨g30, h⟩ := gd h
          obtain ⟨g31, h⟩ := gd h
          refine ec_iastore g30 g31 rfl ?_
          refine ec_iinc (l' := [(4, .int (p4 + (1 : Int32))), (5, .int (0 : Int32)), (0, .ref p0), (2, .int p2), (3, .int p3)]) rfl cst_1 rfl rfl ?_
          refine en_goto rfl ?_
          refine en_sub [2, 3, 4, 0] rfl rfl ?_
          exact ih _ _ _ _ _ _ h o M' hk
        · refine en_icmp_ne_f c26 rfl ?_
          refine en_aload rfl rfl ?_
          obtain ⟨g32, h⟩ := gd h
          obtain ⟨r33, e34, h⟩ := gb h
          refine ec_getP (ci := 10) (j := 57) ⟨rfl, rfl, rfl⟩ g32 e34 rfl ?_
          refine ec_iconst cst_30 rfl ?_
          refine ec_iconst cst_4 rfl ?_
          refine en_iload rfl rfl ?_
          refine en_imul rfl ?_
          refine en_iadd rfl ?_
          refine en_iload rfl rfl ?_
          refine en_iadd rfl ?_
          refine ec_iconst cst_0 rfl ?_
          obtain ⟨g35, h⟩ := gd h
          obtain ⟨g36, h⟩ := gd h
          refine ec_iastore g35 g36 rfl ?_
          refine en_aload rfl rfl ?_
          obtain ⟨r37, e38, h⟩ := gb h
          refine ec_getP (ci := 10) (j := 72) ⟨rfl, rfl, rfl⟩ g32 e38 rfl ?_
          refine ec_iconst cst_4 rfl ?_
          refine en_aload rfl rfl ?_
          refine ec_getI (ci := 10) (j := 65) ⟨rfl, rfl, rfl⟩ g32 rfl ?_
          refine en_imul rfl ?_
          refine en_iload rfl rfl ?_
          refine en_iadd rfl ?_
          refine en_iload rfl rfl ?_
          refine en_if_eq_t (by decide) rfl ?_
          refine ec_iconst cst_0 rfl ?_
          obtain ⟨g39, h⟩ := gd h
          obtain ⟨g40, h⟩ := gd h
          refine ec_iastore g39 g40 rfl ?_
          refine ec_iinc (l' := [(4, .int (p4 + (1 : Int32))), (5, .int (0 : Int32)), (0, .ref p0), (2, .int p2), (3, .int p3)]) rfl cst_1 rfl rfl ?_
          refine en_goto rfl ?_
          refine en_sub [2, 3, 4, 0] rfl rfl ?_
          exact ih _ _ _ _ _ _ h o M' hk
      · refine en_icmp_eq_f c25 rfl ?_
        refine en_aload rfl rfl ?_
        obtain ⟨g41, h⟩ := gd h
        refine ec_getI (ci := 10) (j := 76) ⟨rfl, rfl, rfl⟩ g41 rfl ?_
        refine en_iload rfl rfl ?_
        refine en_ishr rfl ?_
        refine ec_iconst cst_1 rfl ?_
        refine en_iand rfl ?_
        refine ec_iconst cst_1 rfl ?_
        rcases gi h with ⟨c42, h⟩ | ⟨c42, h⟩
        · refine en_icmp_ne_t c42 rfl ?_
          refine ec_iconst cst_0 rfl ?_
          refine en_istore (l' := [(5, .int (0 : Int32)), (0, .ref p0), (2, .int p2), (3, .int p3), (4, .int p4)]) rfl rfl ?_
          refine en_iload rfl rfl ?_
          refine en_if_eq_t (by decide) rfl ?_
          refine en_iload rfl rfl ?_
          refine ec_iconst cst_2 rfl ?_
          rcases gi h with ⟨c43, h⟩ | ⟨c43, h⟩
          · refine en_icmp_ne_t c43 rfl ?_
            refine en_aload rfl rfl ?_
            obtain ⟨r44, e45, h⟩ := gb h
            refine ec_getP (ci := 10) (j := 72) ⟨rfl, rfl, rfl⟩ g41 e45 rfl ?_
            refine ec_iconst cst_4 rfl ?_
            refine en_aload rfl rfl ?_
            refine ec_getI (ci := 10) (j := 65) ⟨rfl, rfl, rfl⟩ g41 rfl ?_
            refine en_imul rfl ?_
            refine en_iload rfl rfl ?_
            refine en_iadd rfl ?_
            refine en_iload rfl rfl ?_
            refine en_if_eq_t (by decide) rfl ?_
            refine ec_iconst cst_0 rfl ?_
            obtain ⟨g46, h⟩ := gd h
            obtain ⟨g47, h⟩ := gd h
            refine ec_iastore g46 g47 rfl ?_
            refine ec_iinc (l' := [(4, .int (p4 + (1 : Int32))), (5, .int (0 : Int32)), (0, .ref p0), (2, .int p2), (3, .int p3)]) rfl cst_1 rfl rfl ?_
            refine en_goto rfl ?_
            refine en_sub [2, 3, 4, 0] rfl rfl ?_
            exact ih _ _ _ _ _ _ h o M' hk
          · refine en_icmp_ne_f c43 rfl ?_
            refine en_aload rfl rfl ?_
            obtain ⟨r48, e49, h⟩ := gb h
            refine ec_getP (ci := 10) (j := 57) ⟨rfl, rfl, rfl⟩ g41 e49 rfl ?_
            refine ec_iconst cst_30 rfl ?_
            refine ec_iconst cst_4 rfl ?_
            refine en_iload rfl rfl ?_
            refine en_imul rfl ?_
            refine en_iadd rfl ?_
            refine en_iload rfl rfl ?_
            refine en_iadd rfl ?_
            refine ec_iconst cst_0 rfl ?_
            obtain ⟨g50, h⟩ := gd h
            obtain ⟨g51, h⟩ := gd h
            refine ec_iastore g50 g51 rfl ?_
            refine en_aload rfl rfl ?_
            obtain ⟨r52, e53, h⟩ := gb h
            refine ec_getP (ci := 10) (j := 72) ⟨rfl, rfl, rfl⟩ g41 e53 rfl ?_
            refine ec_iconst cst_4 rfl ?_
            refine en_aload rfl rfl ?_
            refine ec_getI (ci := 10) (j := 65) ⟨rfl, rfl, rfl⟩ g41 rfl ?_
            refine en_imul rfl ?_
            refine en_iload rfl rfl ?_
            refine en_iadd rfl ?_
            refine en_iload rfl rfl ?_
            refine en_if_eq_t (by decide) rfl ?_
            refine ec_iconst cst_0 rfl ?_
            obtain ⟨g54, h⟩ := gd h
            obtain ⟨g55, h⟩ := gd h
            refine ec_iastore g54 g55 rfl ?_
            refine ec_iinc (l' := [(4, .int (p4 + (1 : Int32))), (5, .int (0 : Int32)), (0, .ref p0), (2, .int p2), (3, .int p3)]) rfl cst_1 rfl rfl ?_
            refine en_goto rfl ?_
            refine en_sub [2, 3, 4, 0] rfl rfl ?_
            exact ih _ _ _ _ _ _ h o M' hk
        · refine en_icmp_ne_f c42 rfl ?_
          refine ec_iconst cst_1 rfl ?_
          refine en_goto rfl ?_
          refine en_istore (l' := [(5, .int (1 : Int32)), (0, .ref p0), (2, .int p2), (3, .int p3), (4, .int p4)]) rfl rfl ?_
          refine en_iload rfl rfl ?_
          refine en_if_eq_f (by decide) rfl ?_
          refine en_aload rfl rfl ?_
          obtain ⟨r56, e57, h⟩ := gb h
          refine ec_getP (ci := 10) (j := 57) ⟨rfl, rfl, rfl⟩ g41 e57 rfl ?_
          refine ec_iconst cst_30 rfl ?_
          refine ec_iconst cst_4 rfl ?_
          refine en_iload rfl rfl ?_
          refine en_imul rfl ?_
          refine en_iadd rfl ?_
          refine en_iload rfl rfl ?_
          refine en_iadd rfl ?_
          refine en_aload rfl rfl ?_
          obtain ⟨r58, e59, h⟩ := gb h
          refine ec_getP (ci := 10) (j := 75) ⟨rfl, rfl, rfl⟩ g41 e59 rfl ?_
          refine en_iload rfl rfl ?_
          obtain ⟨g60, h⟩ := gd h
          obtain ⟨g61, h⟩ := gd h
          refine ec_iaload g60 g61 rfl ?_
          obtain ⟨g62, h⟩ := gd h
          obtain ⟨g63, h⟩ := gd h
          refine ec_iastore g62 g63 rfl ?_
          refine en_goto rfl ?_
          refine en_aload rfl rfl ?_
          obtain ⟨r64, e65, h⟩ := gb h
          refine ec_getP (ci := 10) (j := 72) ⟨rfl, rfl, rfl⟩ g41 e65 rfl ?_
          refine ec_iconst cst_4 rfl ?_
          refine en_aload rfl rfl ?_
          refine ec_getI (ci := 10) (j := 65) ⟨rfl, rfl, rfl⟩ g41 rfl ?_
          refine en_imul rfl ?_
          refine en_iload rfl rfl ?_
          refine en_iadd rfl ?_
          refine en_iload rfl rfl ?_
          refine en_if_eq_f (by decide) rfl ?_
          refine en_aload rfl rfl ?_
          obtain ⟨r66, e67, h⟩ := gb h
          refine ec_getP (ci := 10) (j := 75) ⟨rfl, rfl, rfl⟩ g41 e67 rfl ?_
          refine en_iload rfl rfl ?_
          obtain ⟨g68, h⟩ := gd h
          obtain ⟨g69, h⟩ := gd h
          refine ec_iaload g68 g69 rfl ?_
          refine en_goto rfl ?_
          obtain ⟨g70, h⟩ := gd h
          obtain ⟨g71, h⟩ := gd h
          refine ec_iastore g70 g71 rfl ?_
          refine ec_iinc (l' := [(4, .int (p4 + (1 : Int32))), (5, .int (1 : Int32)), (0, .ref p0), (2, .int p2), (3, .int p3)]) rfl cst_1 rfl rfl ?_
          refine en_goto rfl ?_
          refine en_sub [2, 3, 4, 0] rfl rfl ?_
          exact ih _ _ _ _ _ _ h o M' hk
/-- BulkWriterModel.writes(II)V -/
def f_213 (n : Nat) (a0 : Nat) (a1 : Int32) (a2 : Int32) (C : AmC) : Option (Unit × AmC) := (if ¬ a2 = (2 : Int32) then (if ¬ a1 = (-1 : Int32) then if isK a0 10 = true then (if ¬ (cI C a0 65) = (200 : Int32) then (if (cI C a0 66) = 0 then (cP C a0 57).bind (fun r6 => (if ¬ a2 = (1 : Int32) then if isK r6 12 = true then if amIn a1 (aLen r6) = true then (cP (uI C r6 (Int32.toNatClampNeg a1) (1 : Int32)) a0 70).bind (fun r11 => if isK r11 12 = true then if amIn (cI (uI C r6 (Int32.toNatClampNeg a1) (1 : Int32)) a0 65) (aLen r11) = true then (cP (uI (uI C r6 (Int32.toNatClampNeg a1) (1 : Int32)) r11 (Int32.toNatClampNeg (cI (uI C r6 (Int32.toNatClampNeg a1) (1 : Int32)) a0 65)) a1) a0 71).bind (fun r15 => if isK r15 12 = true then if amIn (cI (uI (uI C r6 (Int32.toNatClampNeg a1) (1 : Int32)) r11 (Int32.toNatClampNeg (cI (uI C r6 (Int32.toNatClampNeg a1) (1 : Int32)) a0 65)) a1) a0 65) (aLen r15) = true then (cP (uI (uI (uI C r6 (Int32.toNatClampNeg a1) (1 : Int32)) r11 (Int32.toNatClampNeg (cI (uI C r6 (Int32.toNatClampNeg a1) (1 : Int32)) a0 65)) a1) r15 (Int32.toNatClampNeg (cI (uI (uI C r6 (Int32.toNatClampNeg a1) (1 : Int32)) r11 (Int32.toNatClampNeg (cI (uI C r6 (Int32.toNatClampNeg a1) (1 : Int32)) a0 65)) a1) a0 65)) a2) a0 73).bind (fun r19 => (if ¬ a2 = (1 : Int32) then if isK r19 12 = true then if amIn (cI (uI (uI (uI C r6 (Int32.toNatClampNeg a1) (1 : Int32)) r11 (Int32.toNatClampNeg (cI (uI C r6 (Int32.toNatClampNeg a1) (1 : Int32)) a0 65)) a1) r15 (Int32.toNatClampNeg (cI (uI (uI C r6 (Int32.toNatClampNeg a1) (1 : Int32)) r11 (Int32.toNatClampNeg (cI (uI C r6 (Int32.toNatClampNeg a1) (1 : Int32)) a0 65)) a1) a0 65)) a2) a0 65) (aLen r19) = true then (lp_213_62 n a0 a2 a1 (0 : Int32) (uI (uI (uI (uI C r6 (Int32.toNatClampNeg a1) (1 : Int32)) r11 (Int32.toNatClampNeg (cI (uI C r6 (Int32.toNatClampNeg a1) (1 : Int32)) a0 65)) a1) r15 (Int32.toNatClampNeg (cI (uI (uI C r6 (Int32.toNatClampNeg a1) (1 : Int32)) r11 (Int32.toNatClampNeg (cI (uI C r6 (Int32.toNatClampNeg a1) (1 : Int32)) a0 65)) a1) a0 65)) a2) r19 (Int32.toNatClampNeg (cI (uI (uI (uI C r6 (Int32.toNatClampNeg a1) (1 : Int32)) r11 (Int32.toNatClampNeg (cI (uI C r6 (Int32.toNatClampNeg a1) (1 : Int32)) a0 65)) a1) r15 (Int32.toNatClampNeg (cI (uI (uI C r6 (Int32.toNatClampNeg a1) (1 : Int32)) r11 (Int32.toNatClampNeg (cI (uI C r6 (Int32.toNatClampNeg a1) (1 : Int32)) a0 65)) a1) a0 65)) a2) a0 65)) (cI (uI (uI (uI C r6 (Int32.toNatClampNeg a1) (1 : Int32)) r11 (Int32.toNatClampNeg (cI (uI C r6 (Int32.toNatClampNeg a1) (1 : Int32)) a0 65)) a1) r15 (Int32.toNatClampNeg (cI (uI (uI C r6 (Int32.toNatClampNeg a1) (1 : Int32)) r11 (Int32.toNatClampNeg (cI (uI C r6 (Int32.toNatClampNeg a1) (1 : Int32)) a0 65)) a1) a0 65)) a2) a0 76))).bind (fun q => match q with | ((u75, u76), C74) => if isK u75 10 = true then (cP C74 u75 74).bind (fun r78 => if isK r78 12 = true then if amIn u76 (aLen r78) = true then if amIn u76 (aLen r78) = true then some ((), uI (uI C74 r78 (Int32.toNatClampNeg u76) ((cI C74 r78 (Int32.toNatClampNeg u76)) + (1 : Int32))) u75 65 ((cI (uI C74 r78 (Int32.toNatClampNeg u76) ((cI C74 r78 (Int32.toNatClampNeg u76)) + (1 : Int32))) u75 65) + (1 : Int32))) else none else none else none) else none) else none else none else if isK r19 12 = true then if amIn (cI (uI (uI (uI C r6 (Int32.toNatClampNeg a1) (1 : Int32)) r11 (Int32.toNatClampNeg (cI (uI C r6 (Int32.toNatClampNeg a1) (1 : Int32)) a0 65)) a1) r15 (Int32.toNatClampNeg (cI (uI (uI C r6 (Int32.toNatClampNeg a1) (1 : Int32)) r11 (Int32.toNatClampNeg (cI (uI C r6 (Int32.toNatClampNeg a1) (1 : Int32)) a0 65)) a1) a0 65)) a2) a0 65) (aLen r19) = true then (lp_213_62 n a0 a2 a1 (0 : Int32) (uI (uI (uI (uI C r6 (Int32.toNatClampNeg a1) (1 : Int32)) r11 (Int32.toNatClampNeg (cI (uI C r6 (Int32.toNatClampNeg a1) (1 : Int32)) a0 65)) a1) r15 (Int32.toNatClampNeg (cI (uI (uI C r6 (Int32.toNatClampNeg a1) (1 : Int32)) r11 (Int32.toNatClampNeg (cI (uI C r6 (Int32.toNatClampNeg a1) (1 : Int32)) a0 65)) a1) a0 65)) a2) r19 (Int32.toNatClampNeg (cI (uI (uI (uI C r6 (Int32.toNatClampNeg a1) (1 : Int32)) r11 (Int32.toNatClampNeg (cI (uI C r6 (Int32.toNatClampNeg a1) (1 : Int32)) a0 65)) a1) r15 (Int32.toNatClampNeg (cI (uI (uI C r6 (Int32.toNatClampNeg a1) (1 : Int32)) r11 (Int32.toNatClampNeg (cI (uI C r6 (Int32.toNatClampNeg a1) (1 : Int32)) a0 65)) a1) a0 65)) a2) a0 65)) (0 : Int32))).bind (fun q => match q with | ((u88, u89), C87) => if isK u88 10 = true then (cP C87 u88 74).bind (fun r91 => if isK r91 12 = true then if amIn u89 (aLen r91) = true then if amIn u89 (aLen r91) = true then some ((), uI (uI C87 r91 (Int32.toNatClampNeg u89) ((cI C87 r91 (Int32.toNatClampNeg u89)) + (1 : Int32))) u88 65 ((cI (uI C87 r91 (Int32.toNatClampNeg u89) ((cI C87 r91 (Int32.toNatClampNeg u89)) + (1 : Int32))) u88 65) + (1 : Int32))) else none else none else none) else none) else none else none)) else none else none) else none else none) else none else none else if isK r6 12 = true then if amIn a1 (aLen r6) = true then (cP (uI C r6 (Int32.toNatClampNeg a1) (0 : Int32)) a0 70).bind (fun r98 => if isK r98 12 = true then if amIn (cI (uI C r6 (Int32.toNatClampNeg a1) (0 : Int32)) a0 65) (aLen r98) = true then (cP (uI (uI C r6 (Int32.toNatClampNeg a1) (0 : Int32)) r98 (Int32.toNatClampNeg (cI (uI C r6 (Int32.toNatClampNeg a1) (0 : Int32)) a0 65)) a1) a0 71).bind (fun r102 => if isK r102 12 = true then if amIn (cI (uI (uI C r6 (Int32.toNatClampNeg a1) (0 : Int32)) r98 (Int32.toNatClampNeg (cI (uI C r6 (Int32.toNatClampNeg a1) (0 : Int32)) a0 65)) a1) a0 65) (aLen r102) = true then (cP (uI (uI (uI C r6 (Int32.toNatClampNeg a1) (0 : Int32)) r98 (Int32.toNatClampNeg (cI (uI C r6 (Int32.toNatClampNeg a1) (0 : Int32)) a0 65)) a1) r102 (Int32.toNatClampNeg (cI (uI (uI C r6 (Int32.toNatClampNeg a1) (0 : Int32)) r98 (Int32.toNatClampNeg (cI (uI C r6 (Int32.toNatClampNeg a1) (0 : Int32)) a0 65)) a1) a0 65)) a2) a0 73).bind (fun r106 => (if ¬ a2 = (1 : Int32) then if isK r106 12 = true then if amIn (cI (uI (uI (uI C r6 (Int32.toNatClampNeg a1) (0 : Int32)) r98 (Int32.toNatClampNeg (cI (uI C r6 (Int32.toNatClampNeg a1) (0 : Int32)) a0 65)) a1) r102 (Int32.toNatClampNeg (cI (uI (uI C r6 (Int32.toNatClampNeg a1) (0 : Int32)) r98 (Int32.toNatClampNeg (cI (uI C r6 (Int32.toNatClampNeg a1) (0 : Int32)) a0 65)) a1) a0 65)) a2) a0 65) (aLen r106) = true then (lp_213_62 n a0 a2 a1 (0 : Int32) (uI (uI (uI (uI C r6 (Int32.toNatClampNeg a1) (0 : Int32)) r98 (Int32.toNatClampNeg (cI (uI C r6 (Int32.toNatClampNeg a1) (0 : Int32)) a0 65)) a1) r102 (Int32.toNatClampNeg (cI (uI (uI C r6 (Int32.toNatClampNeg a1) (0 : Int32)) r98 (Int32.toNatClampNeg (cI (uI C r6 (Int32.toNatClampNeg a1) (0 : Int32)) a0 65)) a1) a0 65)) a2) r106 (Int32.toNatClampNeg (cI (uI (uI (uI C r6 (Int32.toNatClampNeg a1) (0 : Int32)) r98 (Int32.toNatClampNeg (cI (uI C r6 (Int32.toNatClampNeg a1) (0 : Int32)) a0 65)) a1) r102 (Int32.toNatClampNeg (cI (uI (uI C r6 (Int32.toNatClampNeg a1) (0 : Int32)) r98 (Int32.toNatClampNeg (cI (uI C r6 (Int32.toNatClampNeg a1) (0 : Int32)) a0 65)) a1) a0 65)) a2) a0 65)) (cI (uI (uI (uI C r6 (Int32.toNatClampNeg a1) (0 : Int32)) r98 (Int32.toNatClampNeg (cI (uI C r6 (Int32.toNatClampNeg a1) (0 : Int32)) a0 65)) a1) r102 (Int32.toNatClampNeg (cI (uI (uI C r6 (Int32.toNatClampNeg a1) (0 : Int32)) r98 (Int32.toNatClampNeg (cI (uI C r6 (Int32.toNatClampNeg a1) (0 : Int32)) a0 65)) a1) a0 65)) a2) a0 76))).bind (fun q => match q with | ((u114, u115), C113) => if isK u114 10 = true then (cP C113 u114 74).bind (fun r117 => if isK r117 12 = true then if amIn u115 (aLen r117) = true then if amIn u115 (aLen r117) = true then some ((), uI (uI C113 r117 (Int32.toNatClampNeg u115) ((cI C113 r117 (Int32.toNatClampNeg u115)) + (1 : Int32))) u114 65 ((cI (uI C113 r117 (Int32.toNatClampNeg u115) ((cI C113 r117 (Int32.toNatClampNeg u115)) + (1 : Int32))) u114 65) + (1 : Int32))) else none else none else none) else none) else none else none else if isK r106 12 = true then if amIn (cI (uI (uI (uI C r6 (Int32.toNatClampNeg a1) (0 : Int32)) r98 (Int32.toNatClampNeg (cI (uI C r6 (Int32.toNatClampNeg a1) (0 : Int32)) a0 65)) a1) r102 (Int32.toNatClampNeg (cI (uI (uI C r6 (Int32.toNatClampNeg a1) (0 : Int32)) r98 (Int32.toNatClampNeg (cI (uI C r6 (Int32.toNatClampNeg a1) (0 : Int32)) a0 65)) a1) a0 65)) a2) a0 65) (aLen r106) = true then (lp_213_62 n a0 a2 a1 (0 : Int32) (uI (uI (uI (uI C r6 (Int32.toNatClampNeg a1) (0 : Int32)) r98 (Int32.toNatClampNeg (cI (uI C r6 (Int32.toNatClampNeg a1) (0 : Int32)) a0 65)) a1) r102 (Int32.toNatClampNeg (cI (uI (uI C r6 (Int32.toNatClampNeg a1) (0 : Int32)) r98 (Int32.toNatClampNeg (cI (uI C r6 (Int32.toNatClampNeg a1) (0 : Int32)) a0 65)) a1) a0 65)) a2) r106 (Int32.toNatClampNeg (cI (uI (uI (uI C r6 (Int32.toNatClampNeg a1) (0 : Int32)) r98 (Int32.toNatClampNeg (cI (uI C r6 (Int32.toNatClampNeg a1) (0 : Int32)) a0 65)) a1) r102 (Int32.toNatClampNeg (cI (uI (uI C r6 (Int32.toNatClampNeg a1) (0 : Int32)) r98 (Int32.toNatClampNeg (cI (uI C r6 (Int32.toNatClampNeg a1) (0 : Int32)) a0 65)) a1) a0 65)) a2) a0 65)) (0 : Int32))).bind (fun q => match q with | ((u127, u128), C126) => if isK u127 10 = true then (cP C126 u127 74).bind (fun r130 => if isK r130 12 = true then if amIn u128 (aLen r130) = true then if amIn u128 (aLen r130) = true then some ((), uI (uI C126 r130 (Int32.toNatClampNeg u128) ((cI C126 r130 (Int32.toNatClampNeg u128)) + (1 : Int32))) u127 65 ((cI (uI C126 r130 (Int32.toNatClampNeg u128) ((cI C126 r130 (Int32.toNatClampNeg u128)) + (1 : Int32))) u127 65) + (1 : Int32))) else none else none else none) else none) else none else none)) else none else none) else none else none) else none else none)) else some ((), C)) else (if (cI (uI C a0 66 (4 : Int32)) a0 66) = 0 then (cP (uI C a0 66 (4 : Int32)) a0 57).bind (fun r136 => (if ¬ a2 = (1 : Int32) then if isK r136 12 = true then if amIn a1 (aLen r136) = true then (cP (uI (uI C a0 66 (4 : Int32)) r136 (Int32.toNatClampNeg a1) (1 : Int32)) a0 70).bind (fun r141 => if isK r141 12 = true then if amIn (cI (uI (uI C a0 66 (4 : Int32)) r136 (Int32.toNatClampNeg a1) (1 : Int32)) a0 65) (aLen r141) = true then (cP (uI (uI (uI C a0 66 (4 : Int32)) r136 (Int32.toNatClampNeg a1) (1 : Int32)) r141 (Int32.toNatClampNeg (cI (uI (uI C a0 66 (4 : Int32)) r136 (Int32.toNatClampNeg a1) (1 : Int32)) a0 65)) a1) a0 71).bind (fun r145 => if isK r145 12 = true then if amIn (cI (uI (uI (uI C a0 66 (4 : Int32)) r136 (Int32.toNatClampNeg a1) (1 : Int32)) r141 (Int32.toNatClampNeg (cI (uI (uI C a0 66 (4 : Int32)) r136 (Int32.toNatClampNeg a1) (1 : Int32)) a0 65)) a1) a0 65) (aLen r145) = true then (cP (uI (uI (uI (uI C a0 66 (4 : Int32)) r136 (Int32.toNatClampNeg a1) (1 : Int32)) r141 (Int32.toNatClampNeg (cI (uI (uI C a0 66 (4 : Int32)) r136 (Int32.toNatClampNeg a1) (1 : Int32)) a0 65)) a1) r145 (Int32.toNatClampNeg (cI (uI (uI (uI C a0 66 (4 : Int32)) r136 (Int32.toNatClampNeg a1) (1 : Int32)) r141 (Int32.toNatClampNeg (cI (uI (uI C a0 66 (4 : Int32)) r136 (Int32.toNatClampNeg a1) (1 : Int32)) a0 65)) a1) a0 65)) a2) a0 73).bind (fun r149 => (if ¬ a2 = (1 : Int32) then if isK r149 12 = true then if amIn (cI (uI (uI (uI (uI C a0 66 (4 : Int32)) r136 (Int32.toNatClampNeg a1) (1 : Int32)) r141 (Int32.toNatClampNeg (cI (uI (uI C a0 66 (4 : Int32)) r136 (Int32.toNatClampNeg a1) (1 : Int32)) a0 65)) a1) r145 (Int32.toNatClampNeg (cI (uI (uI (uI C a0 66 (4 : Int32)) r136 (Int32.toNatClampNeg a1) (1 : Int32)) r141 (Int32.toNatClampNeg (cI (uI (uI C a0 66 (4 : Int32)) r136 (Int32.toNatClampNeg a1) (1 : Int32)) a0 65)) a1) a0 65)) a2) a0 65) (aLen r149) = true then (lp_213_62 n a0 a2 a1 (0 : Int32) (uI (uI (uI (uI (uI C a0 66 (4 : Int32)) r136 (Int32.toNatClampNeg a1) (1 : Int32)) r141 (Int32.toNatClampNeg (cI (uI (uI C a0 66 (4 : Int32)) r136 (Int32.toNatClampNeg a1) (1 : Int32)) a0 65)) a1) r145 (Int32.toNatClampNeg (cI (uI (uI (uI C a0 66 (4 : Int32)) r136 (Int32.toNatClampNeg a1) (1 : Int32)) r141 (Int32.toNatClampNeg (cI (uI (uI C a0 66 (4 : Int32)) r136 (Int32.toNatClampNeg a1) (1 : Int32)) a0 65)) a1) a0 65)) a2) r149 (Int32.toNatClampNeg (cI (uI (uI (uI (uI C a0 66 (4 : Int32)) r136 (Int32.toNatClampNeg a1) (1 : Int32)) r141 (Int32.toNatClampNeg (cI (uI (uI C a0 66 (4 : Int32)) r136 (Int32.toNatClampNeg a1) (1 : Int32)) a0 65)) a1) r145 (Int32.toNatClampNeg (cI (uI (uI (uI C a0 66 (4 : Int32)) r136 (Int32.toNatClampNeg a1) (1 : Int32)) r141 (Int32.toNatClampNeg (cI (uI (uI C a0 66 (4 : Int32)) r136 (Int32.toNatClampNeg a1) (1 : Int32)) a0 65)) a1) a0 65)) a2) a0 65)) (cI (uI (uI (uI (uI C a0 66 (4 : Int32)) r136 (Int32.toNatClampNeg a1) (1 : Int32)) r141 (Int32.toNatClampNeg (cI (uI (uI C a0 66 (4 : Int32)) r136 (Int32.toNatClampNeg a1) (1 : Int32)) a0 65)) a1) r145 (Int32.toNatClampNeg (cI (uI (uI (uI C a0 66 (4 : Int32)) r136 (Int32.toNatClampNeg a1) (1 : Int32)) r141 (Int32.toNatClampNeg (cI (uI (uI C a0 66 (4 : Int32)) r136 (Int32.toNatClampNeg a1) (1 : Int32)) a0 65)) a1) a0 65)) a2) a0 76))).bind (fun q => match q with | ((u157, u158), C156) => if isK u157 10 = true then (cP C156 u157 74).bind (fun r160 => if isK r160 12 = true then if amIn u158 (aLen r160) = true then if amIn u158 (aLen r160) = true then some ((), uI (uI C156 r160 (Int32.toNatClampNeg u158) ((cI C156 r160 (Int32.toNatClampNeg u158)) + (1 : Int32))) u157 65 ((cI (uI C156 r160 (Int32.toNatClampNeg u158) ((cI C156 r160 (Int32.toNatClampNeg u158)) + (1 : Int32))) u157 65) + (1 : Int32))) else none else none else none) else none) else none else none else if isK r149 12 = true then if amIn (cI (uI (uI (uI (uI C a0 66 (4 : Int32)) r136 (Int32.toNatClampNeg a1) (1 : Int32)) r141 (Int32.toNatClampNeg (cI (uI (uI C a0 66 (4 : Int32)) r136 (Int32.toNatClampNeg a1) (1 : Int32)) a0 65)) a1) r145 (Int32.toNatClampNeg (cI (uI (uI (uI C a0 66 (4 : Int32)) r136 (Int32.toNatClampNeg a1) (1 : Int32)) r141 (Int32.toNatClampNeg (cI (uI (uI C a0 66 (4 : Int32)) r136 (Int32.toNatClampNeg a1) (1 : Int32)) a0 65)) a1) a0 65)) a2) a0 65) (aLen r149) = true then (lp_213_62 n a0 a2 a1 (0 : Int32) (uI (uI (uI (uI (uI C a0 66 (4 : Int32)) r136 (Int32.toNatClampNeg a1) (1 : Int32)) r141 (Int32.toNatClampNeg (cI (uI (uI C a0 66 (4 : Int32)) r136 (Int32.toNatClampNeg a1) (1 : Int32)) a0 65)) a1) r145 (Int32.toNatClampNeg (cI (uI (uI (uI C a0 66 (4 : Int32)) r136 (Int32.toNatClampNeg a1) (1 : Int32)) r141 (Int32.toNatClampNeg (cI (uI (uI C a0 66 (4 : Int32)) r136 (Int32.toNatClampNeg a1) (1 : Int32)) a0 65)) a1) a0 65)) a2) r149 (Int32.toNatClampNeg (cI (uI (uI (uI (uI C a0 66 (4 : Int32)) r136 (Int32.toNatClampNeg a1) (1 : Int32)) r141 (Int32.toNatClampNeg (cI (uI (uI C a0 66 (4 : Int32)) r136 (Int32.toNatClampNeg a1) (1 : Int32)) a0 65)) a1) r145 (Int32.toNatClampNeg (cI (uI (uI (uI C a0 66 (4 : Int32)) r136 (Int32.toNatClampNeg a1) (1 : Int32)) r141 (Int32.toNatClampNeg (cI (uI (uI C a0 66 (4 : Int32)) r136 (Int32.toNatClampNeg a1) (1 : Int32)) a0 65)) a1) a0 65)) a2) a0 65)) (0 : Int32))).bind (fun q => match q with | ((u170, u171), C169) => if isK u170 10 = true then (cP C169 u170 74).bind (fun r173 => if isK r173 12 = true then if amIn u171 (aLen r173) = true then if amIn u171 (aLen r173) = true then some ((), uI (uI C169 r173 (Int32.toNatClampNeg u171) ((cI C169 r173 (Int32.toNatClampNeg u171)) + (1 : Int32))) u170 65 ((cI (uI C169 r173 (Int32.toNatClampNeg u171) ((cI C169 r173 (Int32.toNatClampNeg u171)) + (1 : Int32))) u170 65) + (1 : Int32))) else none else none else none) else none) else none else none)) else none else none) else none else none) else none else none else if isK r136 12 = true then if amIn a1 (aLen r136) = true then (cP (uI (uI C a0 66 (4 : Int32)) r136 (Int32.toNatClampNeg a1) (0 : Int32)) a0 70).bind (fun r180 => if isK r180 12 = true then if amIn (cI (uI (uI C a0 66 (4 : Int32)) r136 (Int32.toNatClampNeg a1) (0 : Int32)) a0 65) (aLen r180) = true then (cP (uI (uI (uI C a0 66 (4 : Int32)) r136 (Int32.toNatClampNeg a1) (0 : Int32)) r180 (Int32.toNatClampNeg (cI (uI (uI C a0 66 (4 : Int32)) r136 (Int32.toNatClampNeg a1) (0 : Int32)) a0 65)) a1) a0 71).bind (fun r184 => if isK r184 12 = true then if amIn (cI (uI (uI (uI C a0 66 (4 : Int32)) r136 (Int32.toNatClampNeg a1) (0 : Int32)) r180 (Int32.toNatClampNeg (cI (uI (uI C a0 66 (4 : Int32)) r136 (Int32.toNatClampNeg a1) (0 : Int32)) a0 65)) a1) a0 65) (aLen r184) = true then (cP (uI (uI (uI (uI C a0 66 (4 : Int32)) r136 (Int32.toNatClampNeg a1) (0 : Int32)) r180 (Int32.toNatClampNeg (cI (uI (uI C a0 66 (4 : Int32)) r136 (Int32.toNatClampNeg a1) (0 : Int32)) a0 65)) a1) r184 (Int32.toNatClampNeg (cI (uI (uI (uI C a0 66 (4 : Int32)) r136 (Int32.toNatClampNeg a1) (0 : Int32)) r180 (Int32.toNatClampNeg (cI (uI (uI C a0 66 (4 : Int32)) r136 (Int32.toNatClampNeg a1) (0 : Int32)) a0 65)) a1) a0 65)) a2) a0 73).bind (fun r188 => (if ¬ a2 = (1 : Int32) then if isK r188 12 = true then if amIn (cI (uI (uI (uI (uI C a0 66 (4 : Int32)) r136 (Int32.toNatClampNeg a1) (0 : Int32)) r180 (Int32.toNatClampNeg (cI (uI (uI C a0 66 (4 : Int32)) r136 (Int32.toNatClampNeg a1) (0 : Int32)) a0 65)) a1) r184 (Int32.toNatClampNeg (cI (uI (uI (uI C a0 66 (4 : Int32)) r136 (Int32.toNatClampNeg a1) (0 : Int32)) r180 (Int32.toNatClampNeg (cI (uI (uI C a0 66 (4 : Int32)) r136 (Int32.toNatClampNeg a1) (0 : Int32)) a0 65)) a1) a0 65)) a2) a0 65) (aLen r188) = true then (lp_213_62 n a0 a2 a1 (0 : Int32) (uI (uI (uI (uI (uI C a0 66 (4 : Int32)) r136 (Int32.toNatClampNeg a1) (0 : Int32)) r180 (Int32.toNatClampNeg (cI (uI (uI C a0 66 (4 : Int32)) r136 (Int32.toNatClampNeg a1) (0 : Int32)) a0 65)) a1) r184 (Int32.toNatClampNeg (cI (uI (uI (uI C a0 66 (4 : Int32)) r136 (Int32.toNatClampNeg a1) (0 : Int32)) r180 (Int32.toNatClampNeg (cI (uI (uI C a0 66 (4 : Int32)) r136 (Int32.toNatClampNeg a1) (0 : Int32)) a0 65)) a1) a0 65)) a2) r188 (Int32.toNatClampNeg (cI (uI (uI (uI (uI C a0 66 (4 : Int32)) r136 (Int32.toNatClampNeg a1) (0 : Int32)) r180 (Int32.toNatClampNeg (cI (uI (uI C a0 66 (4 : Int32)) r136 (Int32.toNatClampNeg a1) (0 : Int32)) a0 65)) a1) r184 (Int32.toNatClampNeg (cI (uI (uI (uI C a0 66 (4 : Int32)) r136 (Int32.toNatClampNeg a1) (0 : Int32)) r180 (Int32.toNatClampNeg (cI (uI (uI C a0 66 (4 : Int32)) r136 (Int32.toNatClampNeg a1) (0 : Int32)) a0 65)) a1) a0 65)) a2) a0 65)) (cI (uI (uI (uI (uI C a0 66 (4 : Int32)) r136 (Int32.toNatClampNeg a1) (0 : Int32)) r180 (Int32.toNatClampNeg (cI (uI (uI C a0 66 (4 : Int32)) r136 (Int32.toNatClampNeg a1) (0 : Int32)) a0 65)) a1) r184 (Int32.toNatClampNeg (cI (uI (uI (uI C a0 66 (4 : Int32)) r136 (Int32.toNatClampNeg a1) (0 : Int32)) r180 (Int32.toNatClampNeg (cI (uI (uI C a0 66 (4 : Int32)) r136 (Int32.toNatClampNeg a1) (0 : Int32)) a0 65)) a1) a0 65)) a2) a0 76))).bind (fun q => match q with | ((u196, u197), C195) => if isK u196 10 = true then (cP C195 u196 74).bind (fun r199 => if isK r199 12 = true then if amIn u197 (aLen r199) = true then if amIn u197 (aLen r199) = true then some ((), uI (uI C195 r199 (Int32.toNatClampNeg u197) ((cI C195 r199 (Int32.toNatClampNeg u197)) + (1 : Int32))) u196 65 ((cI (uI C195 r199 (Int32.toNatClampNeg u197) ((cI C195 r199 (Int32.toNatClampNeg u197)) + (1 : Int32))) u196 65) + (1 : Int32))) else none else none else none) else none) else none else none else if isK r188 12 = true then if amIn (cI (uI (uI (uI (uI C a0 66 (4 : Int32)) r136 (Int32.toNatClampNeg a1) (0 : Int32)) r180 (Int32.toNatClampNeg (cI (uI (uI C a0 66 (4 : Int32)) r136 (Int32.toNatClampNeg a1) (0 : Int32)) a0 65)) a1) r184 (Int32.toNatClampNeg (cI (uI (uI (uI C a0 66 (4 : Int32)) r136 (Int32.toNatClampNeg a1) (0 : Int32)) r180 (Int32.toNatClampNeg (cI (uI (uI C a0 66 (4 : Int32)) r136 (Int32.toNatClampNeg a1) (0 : Int32)) a0 65)) a1) a0 65)) a2) a0 65) (aLen r188) = true then (lp_213_62 n a0 a2 a1 (0 : Int32) (uI (uI (uI (uI (uI C a0 66 (4 : Int32)) r136 (Int32.toNatClampNeg a1) (0 : Int32)) r180 (Int32.toNatClampNeg (cI (uI (uI C a0 66 (4 : Int32)) r136 (Int32.toNatClampNeg a1) (0 : Int32)) a0 65)) a1) r184 (Int32.toNatClampNeg (cI (uI (uI (uI C a0 66 (4 : Int32)) r136 (Int32.toNatClampNeg a1) (0 : Int32)) r180 (Int32.toNatClampNeg (cI (uI (uI C a0 66 (4 : Int32)) r136 (Int32.toNatClampNeg a1) (0 : Int32)) a0 65)) a1) a0 65)) a2) r188 (Int32.toNatClampNeg (cI (uI (uI (uI (uI C a0 66 (4 : Int32)) r136 (Int32.toNatClampNeg a1) (0 : Int32)) r180 (Int32.toNatClampNeg (cI (uI (uI C a0 66 (4 : Int32)) r136 (Int32.toNatClampNeg a1) (0 : Int32)) a0 65)) a1) r184 (Int32.toNatClampNeg (cI (uI (uI (uI C a0 66 (4 : Int32)) r136 (Int32.toNatClampNeg a1) (0 : Int32)) r180 (Int32.toNatClampNeg (cI (uI (uI C a0 66 (4 : Int32)) r136 (Int32.toNatClampNeg a1) (0 : Int32)) a0 65)) a1) a0 65)) a2) a0 65)) (0 : Int32))).bind (fun q => match q with | ((u209, u210), C208) => if isK u209 10 = true then (cP C208 u209 74).bind (fun r212 => if isK r212 12 = true then if amIn u210 (aLen r212) = true then if amIn u210 (aLen r212) = true then some ((), uI (uI C208 r212 (Int32.toNatClampNeg u210) ((cI C208 r212 (Int32.toNatClampNeg u210)) + (1 : Int32))) u209 65 ((cI (uI C208 r212 (Int32.toNatClampNeg u210) ((cI C208 r212 (Int32.toNatClampNeg u210)) + (1 : Int32))) u209 65) + (1 : Int32))) else none else none else none) else none) else none else none)) else none else none) else none else none) else none else none)) else some ((), uI C a0 66 (4 : Int32)))) else none else if isK a0 10 = true then (if (cI (uI C a0 66 (3 : Int32)) a0 66) = 0 then (cP (uI C a0 66 (3 : Int32)) a0 57).bind (fun r219 => (if ¬ a2 = (1 : Int32) then if isK r219 12 = true then if amIn a1 (aLen r219) = true then (cP (uI (uI C a0 66 (3 : Int32)) r219 (Int32.toNatClampNeg a1) (1 : Int32)) a0 70).bind (fun r224 => if isK r224 12 = true then if amIn (cI (uI (uI C a0 66 (3 : Int32)) r219 (Int32.toNatClampNeg a1) (1 : Int32)) a0 65) (aLen r224) = true then (cP (uI (uI (uI C a0 66 (3 : Int32)) r219 (Int32.toNatClampNeg a1) (1 : Int32)) r224 (Int32.toNatClampNeg (cI (uI (uI C a0 66 (3 : Int32)) r219 (Int32.toNatClampNeg a1) (1 : Int32)) a0 65)) a1) a0 71).bind (fun r228 => if isK r228 12 = true then if amIn (cI (uI (uI (uI C a0 66 (3 : Int32)) r219 (Int32.toNatClampNeg a1) (1 : Int32)) r224 (Int32.toNatClampNeg (cI (uI (uI C a0 66 (3 : Int32)) r219 (Int32.toNatClampNeg a1) (1 : Int32)) a0 65)) a1) a0 65) (aLen r228) = true then (cP (uI (uI (uI (uI C a0 66 (3 : Int32)) r219 (Int32.toNatClampNeg a1) (1 : Int32)) r224 (Int32.toNatClampNeg (cI (uI (uI C a0 66 (3 : Int32)) r219 (Int32.toNatClampNeg a1) (1 : Int32)) a0 65)) a1) r228 (Int32.toNatClampNeg (cI (uI (uI (uI C a0 66 (3 : Int32)) r219 (Int32.toNatClampNeg a1) (1 : Int32)) r224 (Int32.toNatClampNeg (cI (uI (uI C a0 66 (3 : Int32)) r219 (Int32.toNatClampNeg a1) (1 : Int32)) a0 65)) a1) a0 65)) a2) a0 73).bind (fun r232 => (if ¬ a2 = (1 : Int32) then if isK r232 12 = true then if amIn (cI (uI (uI (uI (uI C a0 66 (3 : Int32)) r219 (Int32.toNatClampNeg a1) (1 : Int32)) r224 (Int32.toNatClampNeg (cI (uI (uI C a0 66 (3 : Int32)) r219 (Int32.toNatClampNeg a1) (1 : Int32)) a0 65)) a1) r228 (Int32.toNatClampNeg (cI (uI (uI (uI C a0 66 (3 : Int32)) r219 (Int32.toNatClampNeg a1) (1 : Int32)) r224 (Int32.toNatClampNeg (cI (uI (uI C a0 66 (3 : Int32)) r219 (Int32.toNatClampNeg a1) (1 : Int32)) a0 65)) a1) a0 65)) a2) a0 65) (aLen r232) = true then (lp_213_62 n a0 a2 a1 (0 : Int32) (uI (uI (uI (uI (uI C a0 66 (3 : Int32)) r219 (Int32.toNatClampNeg a1) (1 : Int32)) r224 (Int32.toNatClampNeg (cI (uI (uI C a0 66 (3 : Int32)) r219 (Int32.toNatClampNeg a1) (1 : Int32)) a0 65)) a1) r228 (Int32.toNatClampNeg (cI (uI (uI (uI C a0 66 (3 : Int32)) r219 (Int32.toNatClampNeg a1) (1 : Int32)) r224 (Int32.toNatClampNeg (cI (uI (uI C a0 66 (3 : Int32)) r219 (Int32.toNatClampNeg a1) (1 : Int32)) a0 65)) a1) a0 65)) a2) r232 (Int32.toNatClampNeg (cI (uI (uI (uI (uI C a0 66 (3 : Int32)) r219 (Int32.toNatClampNeg a1) (1 : Int32)) r224 (Int32.toNatClampNeg (cI (uI (uI C a0 66 (3 : Int32)) r219 (Int32.toNatClampNeg a1) (1 : Int32)) a0 65)) a1) r228 (Int32.toNatClampNeg (cI (uI (uI (uI C a0 66 (3 : Int32)) r219 (Int32.toNatClampNeg a1) (1 : Int32)) r224 (Int32.toNatClampNeg (cI (uI (uI C a0 66 (3 : Int32)) r219 (Int32.toNatClampNeg a1) (1 : Int32)) a0 65)) a1) a0 65)) a2) a0 65)) (cI (uI (uI (uI (uI C a0 66 (3 : Int32)) r219 (Int32.toNatClampNeg a1) (1 : Int32)) r224 (Int32.toNatClampNeg (cI (uI (uI C a0 66 (3 : Int32)) r219 (Int32.toNatClampNeg a1) (1 : Int32)) a0 65)) a1) r228 (Int32.toNatClampNeg (cI (uI (uI (uI C a0 66 (3 : Int32)) r219 (Int32.toNatClampNeg a1) (1 : Int32)) r224 (Int32.toNatClampNeg (cI (uI (uI C a0 66 (3 : Int32)) r219 (Int32.toNatClampNeg a1) (1 : Int32)) a0 65)) a1) a0 65)) a2) a0 76))).bind (fun q => match q with | ((u240, u241), C239) => if isK u240 10 = true then (cP C239 u240 74).bind (fun r243 => if isK r243 12 = true then if amIn u241 (aLen r243) = true then if amIn u241 (aLen r243) = true then some ((), uI (uI C239 r243 (Int32.toNatClampNeg u241) ((cI C239 r243 (Int32.toNatClampNeg u241)) + (1 : Int32))) u240 65 ((cI (uI C239 r243 (Int32.toNatClampNeg u241) ((cI C239 r243 (Int32.toNatClampNeg u241)) + (1 : Int32))) u240 65) + (1 : Int32))) else none else none else none) else none) else none else none else if isK r232 12 = true then if amIn (cI (uI (uI (uI (uI C a0 66 (3 : Int32)) r219 (Int32.toNatClampNeg a1) (1 : Int32)) r224 (Int32.toNatClampNeg (cI (uI (uI C a0 66 (3 : Int32)) r219 (Int32.toNatClampNeg a1) (1 : Int32)) a0 65)) a1) r228 (Int32.toNatClampNeg (cI (uI (uI (uI C a0 66 (3 : Int32)) r219 (Int32.toNatClampNeg a1) (1 : Int32)) r224 (Int32.toNatClampNeg (cI (uI (uI C a0 66 (3 : Int32)) r219 (Int32.toNatClampNeg a1) (1 : Int32)) a0 65)) a1) a0 65)) a2) a0 65) (aLen r232) = true then (lp_213_62 n a0 a2 a1 (0 : Int32) (uI (uI (uI (uI (uI C a0 66 (3 : Int32)) r219 (Int32.toNatClampNeg a1) (1 : Int32)) r224 (Int32.toNatClampNeg (cI (uI (uI C a0 66 (3 : Int32)) r219 (Int32.toNatClampNeg a1) (1 : Int32)) a0 65)) a1) r228 (Int32.toNatClampNeg (cI (uI (uI (uI C a0 66 (3 : Int32)) r219 (Int32.toNatClampNeg a1) (1 : Int32)) r224 (Int32.toNatClampNeg (cI (uI (uI C a0 66 (3 : Int32)) r219 (Int32.toNatClampNeg a1) (1 : Int32)) a0 65)) a1) a0 65)) a2) r232 (Int32.toNatClampNeg (cI (uI (uI (uI (uI C a0 66 (3 : Int32)) r219 (Int32.toNatClampNeg a1) (1 : Int32)) r224 (Int32.toNatClampNeg (cI (uI (uI C a0 66 (3 : Int32)) r219 (Int32.toNatClampNeg a1) (1 : Int32)) a0 65)) a1) r228 (Int32.toNatClampNeg (cI (uI (uI (uI C a0 66 (3 : Int32)) r219 (Int32.toNatClampNeg a1) (1 : Int32)) r224 (Int32.toNatClampNeg (cI (uI (uI C a0 66 (3 : Int32)) r219 (Int32.toNatClampNeg a1) (1 : Int32)) a0 65)) a1) a0 65)) a2) a0 65)) (0 : Int32))).bind (fun q => match q with | ((u253, u254), C252) => if isK u253 10 = true then (cP C252 u253 74).bind (fun r256 => if isK r256 12 = true then if amIn u254 (aLen r256) = true then if amIn u254 (aLen r256) = true then some ((), uI (uI C252 r256 (Int32.toNatClampNeg u254) ((cI C252 r256 (Int32.toNatClampNeg u254)) + (1 : Int32))) u253 65 ((cI (uI C252 r256 (Int32.toNatClampNeg u254) ((cI C252 r256 (Int32.toNatClampNeg u254)) + (1 : Int32))) u253 65) + (1 : Int32))) else none else none else none) else none) else none else none)) else none else none) else none else none) else none else none else if isK r219 12 = true then if amIn a1 (aLen r219) = true then (cP (uI (uI C a0 66 (3 : Int32)) r219 (Int32.toNatClampNeg a1) (0 : Int32)) a0 70).bind (fun r263 => if isK r263 12 = true then if amIn (cI (uI (uI C a0 66 (3 : Int32)) r219 (Int32.toNatClampNeg a1) (0 : Int32)) a0 65) (aLen r263) = true then (cP (uI (uI (uI C a0 66 (3 : Int32)) r219 (Int32.toNatClampNeg a1) (0 : Int32)) r263 (Int32.toNatClampNeg (cI (uI (uI C a0 66 (3 : Int32)) r219 (Int32.toNatClampNeg a1) (0 : Int32)) a0 65)) a1) a0 71).bind (fun r267 => if isK r267 12 = true then if amIn (cI (uI (uI (uI C a0 66 (3 : Int32)) r219 (Int32.toNatClampNeg a1) (0 : Int32)) r263 (Int32.toNatClampNeg (cI (uI (uI C a0 66 (3 : Int32)) r219 (Int32.toNatClampNeg a1) (0 : Int32)) a0 65)) a1) a0 65) (aLen r267) = true then (cP (uI (uI (uI (uI C a0 66 (3 : Int32)) r219 (Int32.toNatClampNeg a1) (0 : Int32)) r263 (Int32.toNatClampNeg (cI (uI (uI C a0 66 (3 : Int32)) r219 (Int32.toNatClampNeg a1) (0 : Int32)) a0 65)) a1) r267 (Int32.toNatClampNeg (cI (uI (uI (uI C a0 66 (3 : Int32)) r219 (Int32.toNatClampNeg a1) (0 : Int32)) r263 (Int32.toNatClampNeg (cI (uI (uI C a0 66 (3 : Int32)) r219 (Int32.toNatClampNeg a1) (0 : Int32)) a0 65)) a1) a0 65)) a2) a0 73).bind (fun r271 => (if ¬ a2 = (1 : Int32) then if isK r271 12 = true then if amIn (cI (uI (uI (uI (uI C a0 66 (3 : Int32)) r219 (Int32.toNatClampNeg a1) (0 : Int32)) r263 (Int32.toNatClampNeg (cI (uI (uI C a0 66 (3 : Int32)) r219 (Int32.toNatClampNeg a1) (0 : Int32)) a0 65)) a1) r267 (Int32.toNatClampNeg (cI (uI (uI (uI C a0 66 (3 : Int32)) r219 (Int32.toNatClampNeg a1) (0 : Int32)) r263 (Int32.toNatClampNeg (cI (uI (uI C a0 66 (3 : Int32)) r219 (Int32.toNatClampNeg a1) (0 : Int32)) a0 65)) a1) a0 65)) a2) a0 65) (aLen r271) = true then (lp_213_62 n a0 a2 a1 (0 : Int32) (uI (uI (uI (uI (uI C a0 66 (3 : Int32)) r219 (Int32.toNatClampNeg a1) (0 : Int32)) r263 (Int32.toNatClampNeg (cI (uI (uI C a0 66 (3 : Int32)) r219 (Int32.toNatClampNeg a1) (0 : Int32)) a0 65)) a1) r267 (Int32.toNatClampNeg (cI (uI (uI (uI C a0 66 (3 : Int32)) r219 (Int32.toNatClampNeg a1) (0 : Int32)) r263 (Int32.toNatClampNeg (cI (uI (uI C a0 66 (3 : Int32)) r219 (Int32.toNatClampNeg a1) (0 : Int32)) a0 65)) a1) a0 65)) a2) r271 (Int32.toNatClampNeg (cI (uI (uI (uI (uI C a0 66 (3 : Int32)) r219 (Int32.toNatClampNeg a1) (0 : Int32)) r263 (Int32.toNatClampNeg (cI (uI (uI C a0 66 (3 : Int32)) r219 (Int32.toNatClampNeg a1) (0 : Int32)) a0 65)) a1) r267 (Int32.toNatClampNeg (cI (uI (uI (uI C a0 66 (3 : Int32)) r219 (Int32.toNatClampNeg a1) (0 : Int32)) r263 (Int32.toNatClampNeg (cI (uI (uI C a0 66 (3 : Int32)) r219 (Int32.toNatClampNeg a1) (0 : Int32)) a0 65)) a1) a0 65)) a2) a0 65)) (cI (uI (uI (uI (uI C a0 66 (3 : Int32)) r219 (Int32.toNatClampNeg a1) (0 : Int32)) r263 (Int32.toNatClampNeg (cI (uI (uI C a0 66 (3 : Int32)) r219 (Int32.toNatClampNeg a1) (0 : Int32)) a0 65)) a1) r267 (Int32.toNatClampNeg (cI (uI (uI (uI C a0 66 (3 : Int32)) r219 (Int32.toNatClampNeg a1) (0 : Int32)) r263 (Int32.toNatClampNeg (cI (uI (uI C a0 66 (3 : Int32)) r219 (Int32.toNatClampNeg a1) (0 : Int32)) a0 65)) a1) a0 65)) a2) a0 76))).bind (fun q => match q with | ((u279, u280), C278) => if isK u279 10 = true then (cP C278 u279 74).bind (fun r282 => if isK r282 12 = true then if amIn u280 (aLen r282) = true then if amIn u280 (aLen r282) = true then some ((), uI (uI C278 r282 (Int32.toNatClampNeg u280) ((cI C278 r282 (Int32.toNatClampNeg u280)) + (1 : Int32))) u279 65 ((cI (uI C278 r282 (Int32.toNatClampNeg u280) ((cI C278 r282 (Int32.toNatClampNeg u280)) + (1 : Int32))) u279 65) + (1 : Int32))) else none else none else none) else none) else none else none else if isK r271 12 = true then if amIn (cI (uI (uI (uI (uI C a0 66 (3 : Int32)) r219 (Int32.toNatClampNeg a1) (0 : Int32)) r263 (Int32.toNatClampNeg (cI (uI (uI C a0 66 (3 : Int32)) r219 (Int32.toNatClampNeg a1) (0 : Int32)) a0 65)) a1) r267 (Int32.toNatClampNeg (cI (uI (uI (uI C a0 66 (3 : Int32)) r219 (Int32.toNatClampNeg a1) (0 : Int32)) r263 (Int32.toNatClampNeg (cI (uI (uI C a0 66 (3 : Int32)) r219 (Int32.toNatClampNeg a1) (0 : Int32)) a0 65)) a1) a0 65)) a2) a0 65) (aLen r271) = true then (lp_213_62 n a0 a2 a1 (0 : Int32) (uI (uI (uI (uI (uI C a0 66 (3 : Int32)) r219 (Int32.toNatClampNeg a1) (0 : Int32)) r263 (Int32.toNatClampNeg (cI (uI (uI C a0 66 (3 : Int32)) r219 (Int32.toNatClampNeg a1) (0 : Int32)) a0 65)) a1) r267 (Int32.toNatClampNeg (cI (uI (uI (uI C a0 66 (3 : Int32)) r219 (Int32.toNatClampNeg a1) (0 : Int32)) r263 (Int32.toNatClampNeg (cI (uI (uI C a0 66 (3 : Int32)) r219 (Int32.toNatClampNeg a1) (0 : Int32)) a0 65)) a1) a0 65)) a2) r271 (Int32.toNatClampNeg (cI (uI (uI (uI (uI C a0 66 (3 : Int32)) r219 (Int32.toNatClampNeg a1) (0 : Int32)) r263 (Int32.toNatClampNeg (cI (uI (uI C a0 66 (3 : Int32)) r219 (Int32.toNatClampNeg a1) (0 : Int32)) a0 65)) a1) r267 (Int32.toNatClampNeg (cI (uI (uI (uI C a0 66 (3 : Int32)) r219 (Int32.toNatClampNeg a1) (0 : Int32)) r263 (Int32.toNatClampNeg (cI (uI (uI C a0 66 (3 : Int32)) r219 (Int32.toNatClampNeg a1) (0 : Int32)) a0 65)) a1) a0 65)) a2) a0 65)) (0 : Int32))).bind (fun q => match q with | ((u292, u293), C291) => if isK u292 10 = true then (cP C291 u292 74).bind (fun r295 => if isK r295 12 = true then if amIn u293 (aLen r295) = true then if amIn u293 (aLen r295) = true then some ((), uI (uI C291 r295 (Int32.toNatClampNeg u293) ((cI C291 r295 (Int32.toNatClampNeg u293)) + (1 : Int32))) u292 65 ((cI (uI C291 r295 (Int32.toNatClampNeg u293) ((cI C291 r295 (Int32.toNatClampNeg u293)) + (1 : Int32))) u292 65) + (1 : Int32))) else none else none else none) else none) else none else none)) else none else none) else none else none) else none else none)) else some ((), uI C a0 66 (3 : Int32))) else none) else if isK a0 10 = true then (f_212 n a0 C).bind (fun z => match z with | (q301, C302) => (if ¬ q301 = (-1 : Int32) then (if ¬ (cI C302 a0 65) = (200 : Int32) then (if (cI C302 a0 66) = 0 then (cP C302 a0 57).bind (fun r307 => (if ¬ a2 = (1 : Int32) then if isK r307 12 = true then if amIn q301 (aLen r307) = true then (cP (uI C302 r307 (Int32.toNatClampNeg q301) (1 : Int32)) a0 70).bind (fun r312 => if isK r312 12 = true then if amIn (cI (uI C302 r307 (Int32.toNatClampNeg q301) (1 : Int32)) a0 65) (aLen r312) = true then (cP (uI (uI C302 r307 (Int32.toNatClampNeg q301) (1 : Int32)) r312 (Int32.toNatClampNeg (cI (uI C302 r307 (Int32.toNatClampNeg q301) (1 : Int32)) a0 65)) q301) a0 71).bind (fun r316 => if isK r316 12 = true then if amIn (cI (uI (uI C302 r307 (Int32.toNatClampNeg q301) (1 : Int32)) r312 (Int32.toNatClampNeg (cI (uI C302 r307 (Int32.toNatClampNeg q301) (1 : Int32)) a0 65)) q301) a0 65) (aLen r316) = true then (cP (uI (uI (uI C302 r307 (Int32.toNatClampNeg q301) (1 : Int32)) r312 (Int32.toNatClampNeg (cI (uI C302 r307 (Int32.toNatClampNeg q301) (1 : Int32)) a0 65)) q301) r316 (Int32.toNatClampNeg (cI (uI (uI C302 r307 (Int32.toNatClampNeg q301) (1 : Int32)) r312 (Int32.toNatClampNeg (cI (uI C302 r307 (Int32.toNatClampNeg q301) (1 : Int32)) a0 65)) q301) a0 65)) a2) a0 73).bind (fun r320 => (if ¬ a2 = (1 : Int32) then if isK r320 12 = true then if amIn (cI (uI (uI (uI C302 r307 (Int32.toNatClampNeg q301) (1 : Int32)) r312 (Int32.toNatClampNeg (cI (uI C302 r307 (Int32.toNatClampNeg q301) (1 : Int32)) a0 65)) q301) r316 (Int32.toNatClampNeg (cI (uI (uI C302 r307 (Int32.toNatClampNeg q301) (1 : Int32)) r312 (Int32.toNatClampNeg (cI (uI C302 r307 (Int32.toNatClampNeg q301) (1 : Int32)) a0 65)) q301) a0 65)) a2) a0 65) (aLen r320) = true then (lp_213_62 n a0 a2 q301 (0 : Int32) (uI (uI (uI (uI C302 r307 (Int32.toNatClampNeg q301) (1 : Int32)) r312 (Int32.toNatClampNeg (cI (uI C302 r307 (Int32.toNatClampNeg q301) (1 : Int32)) a0 65)) q301) r316 (Int32.toNatClampNeg (cI (uI (uI C302 r307 (Int32.toNatClampNeg q301) (1 : Int32)) r312 (Int32.toNatClampNeg (cI (uI C302 r307 (Int32.toNatClampNeg q301) (1 : Int32)) a0 65)) q301) a0 65)) a2) r320 (Int32.toNatClampNeg (cI (uI (uI (uI C302 r307 (Int32.toNatClampNeg q301) (1 : Int32)) r312 (Int32.toNatClampNeg (cI (uI C302 r307 (Int32.toNatClampNeg q301) (1 : Int32)) a0 65)) q301) r316 (Int32.toNatClampNeg (cI (uI (uI C302 r307 (Int32.toNatClampNeg q301) (1 : Int32)) r312 (Int32.toNatClampNeg (cI (uI C302 r307 (Int32.toNatClampNeg q301) (1 : Int32)) a0 65)) q301) a0 65)) a2) a0 65)) (cI (uI (uI (uI C302 r307 (Int32.toNatClampNeg q301) (1 : Int32)) r312 (Int32.toNatClampNeg (cI (uI C302 r307 (Int32.toNatClampNeg q301) (1 : Int32)) a0 65)) q301) r316 (Int32.toNatClampNeg (cI (uI (uI C302 r307 (Int32.toNatClampNeg q301) (1 : Int32)) r312 (Int32.toNatClampNeg (cI (uI C302 r307 (Int32.toNatClampNeg q301) (1 : Int32)) a0 65)) q301) a0 65)) a2) a0 76))).bind (fun q => match q with | ((u328, u329), C327) => if isK u328 10 = true then (cP C327 u328 74).bind (fun r331 => if isK r331 12 = true then if amIn u329 (aLen r331) = true then if amIn u329 (aLen r331) = true then some ((), uI (uI C327 r331 (Int32.toNatClampNeg u329) ((cI C327 r331 (Int32.toNatClampNeg u329)) + (1 : Int32))) u328 65 ((cI (uI C327 r331 (Int32.toNatClampNeg u329) ((cI C327 r331 (Int32.toNatClampNeg u329)) + (1 : Int32))) u328 65) + (1 : Int32))) else none else none else none) else none) else none else none else if isK r320 12 = true then if amIn (cI (uI (uI (uI C302 r307 (Int32.toNatClampNeg q301) (1 : Int32)) r312 (Int32.toNatClampNeg (cI (uI C302 r307 (Int32.toNatClampNeg q301) (1 : Int32)) a0 65)) q301) r316 (Int32.toNatClampNeg (cI (uI (uI C302 r307 (Int32.toNatClampNeg q301) (1 : Int32)) r312 (Int32.toNatClampNeg (cI (uI C302 r307 (Int32.toNatClampNeg q301) (1 : Int32)) a0 65)) q301) a0 65)) a2) a0 65) (aLen r320) = true then (lp_213_62 n a0 a2 q301 (0 : Int32) (uI (uI (uI (uI C302 r307 (Int32.toNatClampNeg q301) (1 : Int32)) r312 (Int32.toNatClampNeg (cI (uI C302 r307 (Int32.toNatClampNeg q301) (1 : Int32)) a0 65)) q301) r316 (Int32.toNatClampNeg (cI (uI (uI C302 r307 (Int32.toNatClampNeg q301) (1 : Int32)) r312 (Int32.toNatClampNeg (cI (uI C302 r307 (Int32.toNatClampNeg q301) (1 : Int32)) a0 65)) q301) a0 65)) a2) r320 (Int32.toNatClampNeg (cI (uI (uI (uI C302 r307 (Int32.toNatClampNeg q301) (1 : Int32)) r312 (Int32.toNatClampNeg (cI (uI C302 r307 (Int32.toNatClampNeg q301) (1 : Int32)) a0 65)) q301) r316 (Int32.toNatClampNeg (cI (uI (uI C302 r307 (Int32.toNatClampNeg q301) (1 : Int32)) r312 (Int32.toNatClampNeg (cI (uI C302 r307 (Int32.toNatClampNeg q301) (1 : Int32)) a0 65)) q301) a0 65)) a2) a0 65)) (0 : Int32))).bind (fun q => match q with | ((u341, u342), C340) => if isK u341 10 = true then (cP C340 u341 74).bind (fun r344 => if isK r344 12 = true then if amIn u342 (aLen r344) = true then if amIn u342 (aLen r344) = true then some ((), uI (uI C340 r344 (Int32.toNatClampNeg u342) ((cI C340 r344 (Int32.toNatClampNeg u342)) + (1 : Int32))) u341 65 ((cI (uI C340 r344 (Int32.toNatClampNeg u342) ((cI C340 r344 (Int32.toNatClampNeg u342)) + (1 : Int32))) u341 65) + (1 : Int32))) else none else none else none) else none) else none else none)) else none else none) else none else none) else none else none else if isK r307 12 = true then if amIn q301 (aLen r307) = true then (cP (uI C302 r307 (Int32.toNatClampNeg q301) (0 : Int32)) a0 70).bind (fun r351 => if isK r351 12 = true then if amIn (cI (uI C302 r307 (Int32.toNatClampNeg q301) (0 : Int32)) a0 65) (aLen r351) = true then (cP (uI (uI C302 r307 (Int32.toNatClampNeg q301) (0 : Int32)) r351 (Int32.toNatClampNeg (cI (uI C302 r307 (Int32.toNatClampNeg q301) (0 : Int32)) a0 65)) q301) a0 71).bind (fun r355 => if isK r355 12 = true then if amIn (cI (uI (uI C302 r307 (Int32.toNatClampNeg q301) (0 : Int32)) r351 (Int32.toNatClampNeg (cI (uI C302 r307 (Int32.toNatClampNeg q301) (0 : Int32)) a0 65)) q301) a0 65) (aLen r355) = true then (cP (uI (uI (uI C302 r307 (Int32.toNatClampNeg q301) (0 : Int32)) r351 (Int32.toNatClampNeg (cI (uI C302 r307 (Int32.toNatClampNeg q301) (0 : Int32)) a0 65)) q301) r355 (Int32.toNatClampNeg (cI (uI (uI C302 r307 (Int32.toNatClampNeg q301) (0 : Int32)) r351 (Int32.toNatClampNeg (cI (uI C302 r307 (Int32.toNatClampNeg q301) (0 : Int32)) a0 65)) q301) a0 65)) a2) a0 73).bind (fun r359 => (if ¬ a2 = (1 : Int32) then if isK r359 12 = true then if amIn (cI (uI (uI (uI C302 r307 (Int32.toNatClampNeg q301) (0 : Int32)) r351 (Int32.toNatClampNeg (cI (uI C302 r307 (Int32.toNatClampNeg q301) (0 : Int32)) a0 65)) q301) r355 (Int32.toNatClampNeg (cI (uI (uI C302 r307 (Int32.toNatClampNeg q301) (0 : Int32)) r351 (Int32.toNatClampNeg (cI (uI C302 r307 (Int32.toNatClampNeg q301) (0 : Int32)) a0 65)) q301) a0 65)) a2) a0 65) (aLen r359) = true then (lp_213_62 n a0 a2 q301 (0 : Int32) (uI (uI (uI (uI C302 r307 (Int32.toNatClampNeg q301) (0 : Int32)) r351 (Int32.toNatClampNeg (cI (uI C302 r307 (Int32.toNatClampNeg q301) (0 : Int32)) a0 65)) q301) r355 (Int32.toNatClampNeg (cI (uI (uI C302 r307 (Int32.toNatClampNeg q301) (0 : Int32)) r351 (Int32.toNatClampNeg (cI (uI C302 r307 (Int32.toNatClampNeg q301) (0 : Int32)) a0 65)) q301) a0 65)) a2) r359 (Int32.toNatClampNeg (cI (uI (uI (uI C302 r307 (Int32.toNatClampNeg q301) (0 : Int32)) r351 (Int32.toNatClampNeg (cI (uI C302 r307 (Int32.toNatClampNeg q301) (0 : Int32)) a0 65)) q301) r355 (Int32.toNatClampNeg (cI (uI (uI C302 r307 (Int32.toNatClampNeg q301) (0 : Int32)) r351 (Int32.toNatClampNeg (cI (uI C302 r307 (Int32.toNatClampNeg q301) (0 : Int32)) a0 65)) q301) a0 65)) a2) a0 65)) (cI (uI (uI (uI C302 r307 (Int32.toNatClampNeg q301) (0 : Int32)) r351 (Int32.toNatClampNeg (cI (uI C302 r307 (Int32.toNatClampNeg q301) (0 : Int32)) a0 65)) q301) r355 (Int32.toNatClampNeg (cI (uI (uI C302 r307 (Int32.toNatClampNeg q301) (0 : Int32)) r351 (Int32.toNatClampNeg (cI (uI C302 r307 (Int32.toNatClampNeg q301) (0 : Int32)) a0 65)) q301) a0 65)) a2) a0 76))).bind (fun q => match q with | ((u367, u368), C366) => if isK u367 10 = true then (cP C366 u367 74).bind (fun r370 => if isK r370 12 = true then if amIn u368 (aLen r370) = true then if amIn u368 (aLen r370) = true then some ((), uI (uI C366 r370 (Int32.toNatClampNeg u368) ((cI C366 r370 (Int32.toNatClampNeg u368)) + (1 : Int32))) u367 65 ((cI (uI C366 r370 (Int32.toNatClampNeg u368) ((cI C366 r370 (Int32.toNatClampNeg u368)) + (1 : Int32))) u367 65) + (1 : Int32))) else none else none else none) else none) else none else none else if isK r359 12 = true then if amIn (cI (uI (uI (uI C302 r307 (Int32.toNatClampNeg q301) (0 : Int32)) r351 (Int32.toNatClampNeg (cI (uI C302 r307 (Int32.toNatClampNeg q301) (0 : Int32)) a0 65)) q301) r355 (Int32.toNatClampNeg (cI (uI (uI C302 r307 (Int32.toNatClampNeg q301) (0 : Int32)) r351 (Int32.toNatClampNeg (cI (uI C302 r307 (Int32.toNatClampNeg q301) (0 : Int32)) a0 65)) q301) a0 65)) a2) a0 65) (aLen r359) = true then (lp_213_62 n a0 a2 q301 (0 : Int32) (uI (uI (uI (uI C302 r307 (Int32.toNatClampNeg q301) (0 : Int32)) r351 (Int32.toNatClampNeg (cI (uI C302 r307 (Int32.toNatClampNeg q301) (0 : Int32)) a0 65)) q301) r355 (Int32.toNatClampNeg (cI (uI (uI C302 r307 (Int32.toNatClampNeg q301) (0 : Int32)) r351 (Int32.toNatClampNeg (cI (uI C302 r307 (Int32.toNatClampNeg q301) (0 : Int32)) a0 65)) q301) a0 65)) a2) r359 (Int32.toNatClampNeg (cI (uI (uI (uI C302 r307 (Int32.toNatClampNeg q301) (0 : Int32)) r351 (Int32.toNatClampNeg (cI (uI C302 r307 (Int32.toNatClampNeg q301) (0 : Int32)) a0 65)) q301) r355 (Int32.toNatClampNeg (cI (uI (uI C302 r307 (Int32.toNatClampNeg q301) (0 : Int32)) r351 (Int32.toNatClampNeg (cI (uI C302 r307 (Int32.toNatClampNeg q301) (0 : Int32)) a0 65)) q301) a0 65)) a2) a0 65)) (0 : Int32))).bind (fun q => match q with | ((u380, u381), C379) => if isK u380 10 = true then (cP C379 u380 74).bind (fun r383 => if isK r383 12 = true then if amIn u381 (aLen r383) = true then if amIn u381 (aLen r383) = true then some ((), uI (uI C379 r383 (Int32.toNatClampNeg u381) ((cI C379 r383 (Int32.toNatClampNeg u381)) + (1 : Int32))) u380 65 ((cI (uI C379 r383 (Int32.toNatClampNeg u381) ((cI C379 r383 (Int32.toNatClampNeg u381)) + (1 : Int32))) u380 65) + (1 : Int32))) else none else none else none) else none) else none else none)) else none else none) else none else none) else none else none)) else some ((), C302)) else (if (cI (uI C302 a0 66 (4 : Int32)) a0 66) = 0 then (cP (uI C302 a0 66 (4 : Int32)) a0 57).bind (fun r389 => (if ¬ a2 = (1 : Int32) then if isK r389 12 = true then if amIn q301 (aLen r389) = true then (cP (uI (uI C302 a0 66 (4 : Int32)) r389 (Int32.toNatClampNeg q301) (1 : Int32)) a0 70).bind (fun r394 => if isK r394 12 = true then if amIn (cI (uI (uI C302 a0 66 (4 : Int32)) r389 (Int32.toNatClampNeg q301) (1 : Int32)) a0 65) (aLen r394) = true then (cP (uI (uI (uI C302 a0 66 (4 : Int32)) r389 (Int32.toNatClampNeg q301) (1 : Int32)) r394 (Int32.toNatClampNeg (cI (uI (uI C302 a0 66 (4 : Int32)) r389 (Int32.toNatClampNeg q301) (1 : Int32)) a0 65)) q301) a0 71).bind (fun r398 => if isK r398 12 = true then if amIn (cI (uI (uI (uI C302 a0 66 (4 : Int32)) r389 (Int32.toNatClampNeg q301) (1 : Int32)) r394 (Int32.toNatClampNeg (cI (uI (uI C302 a0 66 (4 : Int32)) r389 (Int32.toNatClampNeg q301) (1 : Int32)) a0 65)) q301) a0 65) (aLen r398) = true then (cP (uI (uI (uI (uI C302 a0 66 (4 : Int32)) r389 (Int32.toNatClampNeg q301) (1 : Int32)) r394 (Int32.toNatClampNeg (cI (uI (uI C302 a0 66 (4 : Int32)) r389 (Int32.toNatClampNeg q301) (1 : Int32)) a0 65)) q301) r398 (Int32.toNatClampNeg (cI (uI (uI (uI C302 a0 66 (4 : Int32)) r389 (Int32.toNatClampNeg q301) (1 : Int32)) r394 (Int32.toNatClampNeg (cI (uI (uI C302 a0 66 (4 : Int32)) r389 (Int32.toNatClampNeg q301) (1 : Int32)) a0 65)) q301) a0 65)) a2) a0 73).bind (fun r402 => (if ¬ a2 = (1 : Int32) then if isK r402 12 = true then if amIn (cI (uI (uI (uI (uI C302 a0 66 (4 : Int32)) r389 (Int32.toNatClampNeg q301) (1 : Int32)) r394 (Int32.toNatClampNeg (cI (uI (uI C302 a0 66 (4 : Int32)) r389 (Int32.toNatClampNeg q301) (1 : Int32)) a0 65)) q301) r398 (Int32.toNatClampNeg (cI (uI (uI (uI C302 a0 66 (4 : Int32)) r389 (Int32.toNatClampNeg q301) (1 : Int32)) r394 (Int32.toNatClampNeg (cI (uI (uI C302 a0 66 (4 : Int32)) r389 (Int32.toNatClampNeg q301) (1 : Int32)) a0 65)) q301) a0 65)) a2) a0 65) (aLen r402) = true then (lp_213_62 n a0 a2 q301 (0 : Int32) (uI (uI (uI (uI (uI C302 a0 66 (4 : Int32)) r389 (Int32.toNatClampNeg q301) (1 : Int32)) r394 (Int32.toNatClampNeg (cI (uI (uI C302 a0 66 (4 : Int32)) r389 (Int32.toNatClampNeg q301) (1 : Int32)) a0 65)) q301) r398 (Int32.toNatClampNeg (cI (uI (uI (uI C302 a0 66 (4 : Int32)) r389 (Int32.toNatClampNeg q301) (1 : Int32)) r394 (Int32.toNatClampNeg (cI (uI (uI C302 a0 66 (4 : Int32)) r389 (Int32.toNatClampNeg q301) (1 : Int32)) a0 65)) q301) a0 65)) a2) r402 (Int32.toNatClampNeg (cI (uI (uI (uI (uI C302 a0 66 (4 : Int32)) r389 (Int32.toNatClampNeg q301) (1 : Int32)) r394 (Int32.toNatClampNeg (cI (uI (uI C302 a0 66 (4 : Int32)) r389 (Int32.toNatClampNeg q301) (1 : Int32)) a0 65)) q301) r398 (Int32.toNatClampNeg (cI (uI (uI (uI C302 a0 66 (4 : Int32)) r389 (Int32.toNatClampNeg q301) (1 : Int32)) r394 (Int32.toNatClampNeg (cI (uI (uI C302 a0 66 (4 : Int32)) r389 (Int32.toNatClampNeg q301) (1 : Int32)) a0 65)) q301) a0 65)) a2) a0 65)) (cI (uI (uI (uI (uI C302 a0 66 (4 : Int32)) r389 (Int32.toNatClampNeg q301) (1 : Int32)) r394 (Int32.toNatClampNeg (cI (uI (uI C302 a0 66 (4 : Int32)) r389 (Int32.toNatClampNeg q301) (1 : Int32)) a0 65)) q301) r398 (Int32.toNatClampNeg (cI (uI (uI (uI C302 a0 66 (4 : Int32)) r389 (Int32.toNatClampNeg q301) (1 : Int32)) r394 (Int32.toNatClampNeg (cI (uI (uI C302 a0 66 (4 : Int32)) r389 (Int32.toNatClampNeg q301) (1 : Int32)) a0 65)) q301) a0 65)) a2) a0 76))).bind (fun q => match q with | ((u410, u411), C409) => if isK u410 10 = true then (cP C409 u410 74).bind (fun r413 => if isK r413 12 = true then if amIn u411 (aLen r413) = true then if amIn u411 (aLen r413) = true then some ((), uI (uI C409 r413 (Int32.toNatClampNeg u411) ((cI C409 r413 (Int32.toNatClampNeg u411)) + (1 : Int32))) u410 65 ((cI (uI C409 r413 (Int32.toNatClampNeg u411) ((cI C409 r413 (Int32.toNatClampNeg u411)) + (1 : Int32))) u410 65) + (1 : Int32))) else none else none else none) else none) else none else none else if isK r402 12 = true then if amIn (cI (uI (uI (uI (uI C302 a0 66 (4 : Int32)) r389 (Int32.toNatClampNeg q301) (1 : Int32)) r394 (Int32.toNatClampNeg (cI (uI (uI C302 a0 66 (4 : Int32)) r389 (Int32.toNatClampNeg q301) (1 : Int32)) a0 65)) q301) r398 (Int32.toNatClampNeg (cI (uI (uI (uI C302 a0 66 (4 : Int32)) r389 (Int32.toNatClampNeg q301) (1 : Int32)) r394 (Int32.toNatClampNeg (cI (uI (uI C302 a0 66 (4 : Int32)) r389 (Int32.toNatClampNeg q301) (1 : Int32)) a0 65)) q301) a0 65)) a2) a0 65) (aLen r402) = true then (lp_213_62 n a0 a2 q301 (0 : Int32) (uI (uI (uI (uI (uI C302 a0 66 (4 : Int32)) r389 (Int32.toNatClampNeg q301) (1 : Int32)) r394 (Int32.toNatClampNeg (cI (uI (uI C302 a0 66 (4 : Int32)) r389 (Int32.toNatClampNeg q301) (1 : Int32)) a0 65)) q301) r398 (Int32.toNatClampNeg (cI (uI (uI (uI C302 a0 66 (4 : Int32)) r389 (Int32.toNatClampNeg q301) (1 : Int32)) r394 (Int32.toNatClampNeg (cI (uI (uI C302 a0 66 (4 : Int32)) r389 (Int32.toNatClampNeg q301) (1 : Int32)) a0 65)) q301) a0 65)) a2) r402 (Int32.toNatClampNeg (cI (uI (uI (uI (uI C302 a0 66 (4 : Int32)) r389 (Int32.toNatClampNeg q301) (1 : Int32)) r394 (Int32.toNatClampNeg (cI (uI (uI C302 a0 66 (4 : Int32)) r389 (Int32.toNatClampNeg q301) (1 : Int32)) a0 65)) q301) r398 (Int32.toNatClampNeg (cI (uI (uI (uI C302 a0 66 (4 : Int32)) r389 (Int32.toNatClampNeg q301) (1 : Int32)) r394 (Int32.toNatClampNeg (cI (uI (uI C302 a0 66 (4 : Int32)) r389 (Int32.toNatClampNeg q301) (1 : Int32)) a0 65)) q301) a0 65)) a2) a0 65)) (0 : Int32))).bind (fun q => match q with | ((u423, u424), C422) => if isK u423 10 = true then (cP C422 u423 74).bind (fun r426 => if isK r426 12 = true then if amIn u424 (aLen r426) = true then if amIn u424 (aLen r426) = true then some ((), uI (uI C422 r426 (Int32.toNatClampNeg u424) ((cI C422 r426 (Int32.toNatClampNeg u424)) + (1 : Int32))) u423 65 ((cI (uI C422 r426 (Int32.toNatClampNeg u424) ((cI C422 r426 (Int32.toNatClampNeg u424)) + (1 : Int32))) u423 65) + (1 : Int32))) else none else none else none) else none) else none else none)) else none else none) else none else none) else none else none else if isK r389 12 = true then if amIn q301 (aLen r389) = true then (cP (uI (uI C302 a0 66 (4 : Int32)) r389 (Int32.toNatClampNeg q301) (0 : Int32)) a0 70).bind (fun r433 => if isK r433 12 = true then if amIn (cI (uI (uI C302 a0 66 (4 : Int32)) r389 (Int32.toNatClampNeg q301) (0 : Int32)) a0 65) (aLen r433) = true then (cP (uI (uI (uI C302 a0 66 (4 : Int32)) r389 (Int32.toNatClampNeg q301) (0 : Int32)) r433 (Int32.toNatClampNeg (cI (uI (uI C302 a0 66 (4 : Int32)) r389 (Int32.toNatClampNeg q301) (0 : Int32)) a0 65)) q301) a0 71).bind (fun r437 => if isK r437 12 = true then if amIn (cI (uI (uI (uI C302 a0 66 (4 : Int32)) r389 (Int32.toNatClampNeg q301) (0 : Int32)) r433 (Int32.toNatClampNeg (cI (uI (uI C302 a0 66 (4 : Int32)) r389 (Int32.toNatClampNeg q301) (0 : Int32)) a0 65)) q301) a0 65) (aLen r437) = true then (cP (uI (uI (uI (uI C302 a0 66 (4 : Int32)) r389 (Int32.toNatClampNeg q301) (0 : Int32)) r433 (Int32.toNatClampNeg (cI (uI (uI C302 a0 66 (4 : Int32)) r389 (Int32.toNatClampNeg q301) (0 : Int32)) a0 65)) q301) r437 (Int32.toNatClampNeg (cI (uI (uI (uI C302 a0 66 (4 : Int32)) r389 (Int32.toNatClampNeg q301) (0 : Int32)) r433 (Int32.toNatClampNeg (cI (uI (uI C302 a0 66 (4 : Int32)) r389 (Int32.toNatClampNeg q301) (0 : Int32)) a0 65)) q301) a0 65)) a2) a0 73).bind (fun r441 => (if ¬ a2 = (1 : Int32) then if isK r441 12 = true then if amIn (cI (uI (uI (uI (uI C302 a0 66 (4 : Int32)) r389 (Int32.toNatClampNeg q301) (0 : Int32)) r433 (Int32.toNatClampNeg (cI (uI (uI C302 a0 66 (4 : Int32)) r389 (Int32.toNatClampNeg q301) (0 : Int32)) a0 65)) q301) r437 (Int32.toNatClampNeg (cI (uI (uI (uI C302 a0 66 (4 : Int32)) r389 (Int32.toNatClampNeg q301) (0 : Int32)) r433 (Int32.toNatClampNeg (cI (uI (uI C302 a0 66 (4 : Int32)) r389 (Int32.toNatClampNeg q301) (0 : Int32)) a0 65)) q301) a0 65)) a2) a0 65) (aLen r441) = true then (lp_213_62 n a0 a2 q301 (0 : Int32) (uI (uI (uI (uI (uI C302 a0 66 (4 : Int32)) r389 (Int32.toNatClampNeg q301) (0 : Int32)) r433 (Int32.toNatClampNeg (cI (uI (uI C302 a0 66 (4 : Int32)) r389 (Int32.toNatClampNeg q301) (0 : Int32)) a0 65)) q301) r437 (Int32.toNatClampNeg (cI (uI (uI (uI C302 a0 66 (4 : Int32)) r389 (Int32.toNatClampNeg q301) (0 : Int32)) r433 (Int32.toNatClampNeg (cI (uI (uI C302 a0 66 (4 : Int32)) r389 (Int32.toNatClampNeg q301) (0 : Int32)) a0 65)) q301) a0 65)) a2) r441 (Int32.toNatClampNeg (cI (uI (uI (uI (uI C302 a0 66 (4 : Int32)) r389 (Int32.toNatClampNeg q301) (0 : Int32)) r433 (Int32.toNatClampNeg (cI (uI (uI C302 a0 66 (4 : Int32)) r389 (Int32.toNatClampNeg q301) (0 : Int32)) a0 65)) q301) r437 (Int32.toNatClampNeg (cI (uI (uI (uI C302 a0 66 (4 : Int32)) r389 (Int32.toNatClampNeg q301) (0 : Int32)) r433 (Int32.toNatClampNeg (cI (uI (uI C302 a0 66 (4 : Int32)) r389 (Int32.toNatClampNeg q301) (0 : Int32)) a0 65)) q301) a0 65)) a2) a0 65)) (cI (uI (uI (uI (uI C302 a0 66 (4 : Int32)) r389 (Int32.toNatClampNeg q301) (0 : Int32)) r433 (Int32.toNatClampNeg (cI (uI (uI C302 a0 66 (4 : Int32)) r389 (Int32.toNatClampNeg q301) (0 : Int32)) a0 65)) q301) r437 (Int32.toNatClampNeg (cI (uI (uI (uI C302 a0 66 (4 : Int32)) r389 (Int32.toNatClampNeg q301) (0 : Int32)) r433 (Int32.toNatClampNeg (cI (uI (uI C302 a0 66 (4 : Int32)) r389 (Int32.toNatClampNeg q301) (0 : Int32)) a0 65)) q301) a0 65)) a2) a0 76))).bind (fun q => match q with | ((u449, u450), C448) => if isK u449 10 = true then (cP C448 u449 74).bind (fun r452 => if isK r452 12 = true then if amIn u450 (aLen r452) = true then if amIn u450 (aLen r452) = true then some ((), uI (uI C448 r452 (Int32.toNatClampNeg u450) ((cI C448 r452 (Int32.toNatClampNeg u450)) + (1 : Int32))) u449 65 ((cI (uI C448 r452 (Int32.toNatClampNeg u450) ((cI C448 r452 (Int32.toNatClampNeg u450)) + (1 : Int32))) u449 65) + (1 : Int32))) else none else none else none) else none) else none else none else if isK r441 12 = true then if amIn (cI (uI (uI (uI (uI C302 a0 66 (4 : Int32)) r389 (Int32.toNatClampNeg q301) (0 : Int32)) r433 (Int32.toNatClampNeg (cI (uI (uI C302 a0 66 (4 : Int32)) r389 (Int32.toNatClampNeg q301) (0 : Int32)) a0 65)) q301) r437 (Int32.toNatClampNeg (cI (uI (uI (uI C302 a0 66 (4 : Int32)) r389 (Int32.toNatClampNeg q301) (0 : Int32)) r433 (Int32.toNatClampNeg (cI (uI (uI C302 a0 66 (4 : Int32)) r389 (Int32.toNatClampNeg q301) (0 : Int32)) a0 65)) q301) a0 65)) a2) a0 65) (aLen r441) = true then (lp_213_62 n a0 a2 q301 (0 : Int32) (uI (uI (uI (uI (uI C302 a0 66 (4 : Int32)) r389 (Int32.toNatClampNeg q301) (0 : Int32)) r433 (Int32.toNatClampNeg (cI (uI (uI C302 a0 66 (4 : Int32)) r389 (Int32.toNatClampNeg q301) (0 : Int32)) a0 65)) q301) r437 (Int32.toNatClampNeg (cI (uI (uI (uI C302 a0 66 (4 : Int32)) r389 (Int32.toNatClampNeg q301) (0 : Int32)) r433 (Int32.toNatClampNeg (cI (uI (uI C302 a0 66 (4 : Int32)) r389 (Int32.toNatClampNeg q301) (0 : Int32)) a0 65)) q301) a0 65)) a2) r441 (Int32.toNatClampNeg (cI (uI (uI (uI (uI C302 a0 66 (4 : Int32)) r389 (Int32.toNatClampNeg q301) (0 : Int32)) r433 (Int32.toNatClampNeg (cI (uI (uI C302 a0 66 (4 : Int32)) r389 (Int32.toNatClampNeg q301) (0 : Int32)) a0 65)) q301) r437 (Int32.toNatClampNeg (cI (uI (uI (uI C302 a0 66 (4 : Int32)) r389 (Int32.toNatClampNeg q301) (0 : Int32)) r433 (Int32.toNatClampNeg (cI (uI (uI C302 a0 66 (4 : Int32)) r389 (Int32.toNatClampNeg q301) (0 : Int32)) a0 65)) q301) a0 65)) a2) a0 65)) (0 : Int32))).bind (fun q => match q with | ((u462, u463), C461) => if isK u462 10 = true then (cP C461 u462 74).bind (fun r465 => if isK r465 12 = true then if amIn u463 (aLen r465) = true then if amIn u463 (aLen r465) = true then some ((), uI (uI C461 r465 (Int32.toNatClampNeg u463) ((cI C461 r465 (Int32.toNatClampNeg u463)) + (1 : Int32))) u462 65 ((cI (uI C461 r465 (Int32.toNatClampNeg u463) ((cI C461 r465 (Int32.toNatClampNeg u463)) + (1 : Int32))) u462 65) + (1 : Int32))) else none else none else none) else none) else none else none)) else none else none) else none else none) else none else none)) else some ((), uI C302 a0 66 (4 : Int32)))) else (if (cI (uI C302 a0 66 (3 : Int32)) a0 66) = 0 then (cP (uI C302 a0 66 (3 : Int32)) a0 57).bind (fun r471 => (if ¬ a2 = (1 : Int32) then if isK r471 12 = true then if amIn q301 (aLen r471) = true then (cP (uI (uI C302 a0 66 (3 : Int32)) r471 (Int32.toNatClampNeg q301) (1 : Int32)) a0 70).bind (fun r476 => if isK r476 12 = true then if amIn (cI (uI (uI C302 a0 66 (3 : Int32)) r471 (Int32.toNatClampNeg q301) (1 : Int32)) a0 65) (aLen r476) = true then (cP (uI (uI (uI C302 a0 66 (3 : Int32)) r471 (Int32.toNatClampNeg q301) (1 : Int32)) r476 (Int32.toNatClampNeg (cI (uI (uI C302 a0 66 (3 : Int32)) r471 (Int32.toNatClampNeg q301) (1 : Int32)) a0 65)) q301) a0 71).bind (fun r480 => if isK r480 12 = true then if amIn (cI (uI (uI (uI C302 a0 66 (3 : Int32)) r471 (Int32.toNatClampNeg q301) (1 : Int32)) r476 (Int32.toNatClampNeg (cI (uI (uI C302 a0 66 (3 : Int32)) r471 (Int32.toNatClampNeg q301) (1 : Int32)) a0 65)) q301) a0 65) (aLen r480) = true then (cP (uI (uI (uI (uI C302 a0 66 (3 : Int32)) r471 (Int32.toNatClampNeg q301) (1 : Int32)) r476 (Int32.toNatClampNeg (cI (uI (uI C302 a0 66 (3 : Int32)) r471 (Int32.toNatClampNeg q301) (1 : Int32)) a0 65)) q301) r480 (Int32.toNatClampNeg (cI (uI (uI (uI C302 a0 66 (3 : Int32)) r471 (Int32.toNatClampNeg q301) (1 : Int32)) r476 (Int32.toNatClampNeg (cI (uI (uI C302 a0 66 (3 : Int32)) r471 (Int32.toNatClampNeg q301) (1 : Int32)) a0 65)) q301) a0 65)) a2) a0 73).bind (fun r484 => (if ¬ a2 = (1 : Int32) then if isK r484 12 = true then if amIn (cI (uI (uI (uI (uI C302 a0 66 (3 : Int32)) r471 (Int32.toNatClampNeg q301) (1 : Int32)) r476 (Int32.toNatClampNeg (cI (uI (uI C302 a0 66 (3 : Int32)) r471 (Int32.toNatClampNeg q301) (1 : Int32)) a0 65)) q301) r480 (Int32.toNatClampNeg (cI (uI (uI (uI C302 a0 66 (3 : Int32)) r471 (Int32.toNatClampNeg q301) (1 : Int32)) r476 (Int32.toNatClampNeg (cI (uI (uI C302 a0 66 (3 : Int32)) r471 (Int32.toNatClampNeg q301) (1 : Int32)) a0 65)) q301) a0 65)) a2) a0 65) (aLen r484) = true then (lp_213_62 n a0 a2 q301 (0 : Int32) (uI (uI (uI (uI (uI C302 a0 66 (3 : Int32)) r471 (Int32.toNatClampNeg q301) (1 : Int32)) r476 (Int32.toNatClampNeg (cI (uI (uI C302 a0 66 (3 : Int32)) r471 (Int32.toNatClampNeg q301) (1 : Int32)) a0 65)) q301) r480 (Int32.toNatClampNeg (cI (uI (uI (uI C302 a0 66 (3 : Int32)) r471 (Int32.toNatClampNeg q301) (1 : Int32)) r476 (Int32.toNatClampNeg (cI (uI (uI C302 a0 66 (3 : Int32)) r471 (Int32.toNatClampNeg q301) (1 : Int32)) a0 65)) q301) a0 65)) a2) r484 (Int32.toNatClampNeg (cI (uI (uI (uI (uI C302 a0 66 (3 : Int32)) r471 (Int32.toNatClampNeg q301) (1 : Int32)) r476 (Int32.toNatClampNeg (cI (uI (uI C302 a0 66 (3 : Int32)) r471 (Int32.toNatClampNeg q301) (1 : Int32)) a0 65)) q301) r480 (Int32.toNatClampNeg (cI (uI (uI (uI C302 a0 66 (3 : Int32)) r471 (Int32.toNatClampNeg q301) (1 : Int32)) r476 (Int32.toNatClampNeg (cI (uI (uI C302 a0 66 (3 : Int32)) r471 (Int32.toNatClampNeg q301) (1 : Int32)) a0 65)) q301) a0 65)) a2) a0 65)) (cI (uI (uI (uI (uI C302 a0 66 (3 : Int32)) r471 (Int32.toNatClampNeg q301) (1 : Int32)) r476 (Int32.toNatClampNeg (cI (uI (uI C302 a0 66 (3 : Int32)) r471 (Int32.toNatClampNeg q301) (1 : Int32)) a0 65)) q301) r480 (Int32.toNatClampNeg (cI (uI (uI (uI C302 a0 66 (3 : Int32)) r471 (Int32.toNatClampNeg q301) (1 : Int32)) r476 (Int32.toNatClampNeg (cI (uI (uI C302 a0 66 (3 : Int32)) r471 (Int32.toNatClampNeg q301) (1 : Int32)) a0 65)) q301) a0 65)) a2) a0 76))).bind (fun q => match q with | ((u492, u493), C491) => if isK u492 10 = true then (cP C491 u492 74).bind (fun r495 => if isK r495 12 = true then if amIn u493 (aLen r495) = true then if amIn u493 (aLen r495) = true then some ((), uI (uI C491 r495 (Int32.toNatClampNeg u493) ((cI C491 r495 (Int32.toNatClampNeg u493)) + (1 : Int32))) u492 65 ((cI (uI C491 r495 (Int32.toNatClampNeg u493) ((cI C491 r495 (Int32.toNatClampNeg u493)) + (1 : Int32))) u492 65) + (1 : Int32))) else none else none else none) else none) else none else none else if isK r484 12 = true then if amIn (cI (uI (uI (uI (uI C302 a0 66 (3 : Int32)) r471 (Int32.toNatClampNeg q301) (1 : Int32)) r476 (Int32.toNatClampNeg (cI (uI (uI C302 a0 66 (3 : Int32)) r471 (Int32.toNatClampNeg q301) (1 : Int32)) a0 65)) q301) r480 (Int32.toNatClampNeg (cI (uI (uI (uI C302 a0 66 (3 : Int32)) r471 (Int32.toNatClampNeg q301) (1 : Int32)) r476 (Int32.toNatClampNeg (cI (uI (uI C302 a0 66 (3 : Int32)) r471 (Int32.toNatClampNeg q301) (1 : Int32)) a0 65)) q301) a0 65)) a2) a0 65) (aLen r484) = true then (lp_213_62 n a0 a2 q301 (0 : Int32) (uI (uI (uI (uI (uI C302 a0 66 (3 : Int32)) r471 (Int32.toNatClampNeg q301) (1 : Int32)) r476 (Int32.toNatClampNeg (cI (uI (uI C302 a0 66 (3 : Int32)) r471 (Int32.toNatClampNeg q301) (1 : Int32)) a0 65)) q301) r480 (Int32.toNatClampNeg (cI (uI (uI (uI C302 a0 66 (3 : Int32)) r471 (Int32.toNatClampNeg q301) (1 : Int32)) r476 (Int32.toNatClampNeg (cI (uI (uI C302 a0 66 (3 : Int32)) r471 (Int32.toNatClampNeg q301) (1 : Int32)) a0 65)) q301) a0 65)) a2) r484 (Int32.toNatClampNeg (cI (uI (uI (uI (uI C302 a0 66 (3 : Int32)) r471 (Int32.toNatClampNeg q301) (1 : Int32)) r476 (Int32.toNatClampNeg (cI (uI (uI C302 a0 66 (3 : Int32)) r471 (Int32.toNatClampNeg q301) (1 : Int32)) a0 65)) q301) r480 (Int32.toNatClampNeg (cI (uI (uI (uI C302 a0 66 (3 : Int32)) r471 (Int32.toNatClampNeg q301) (1 : Int32)) r476 (Int32.toNatClampNeg (cI (uI (uI C302 a0 66 (3 : Int32)) r471 (Int32.toNatClampNeg q301) (1 : Int32)) a0 65)) q301) a0 65)) a2) a0 65)) (0 : Int32))).bind (fun q => match q with | ((u505, u506), C504) => if isK u505 10 = true then (cP C504 u505 74).bind (fun r508 => if isK r508 12 = true then if amIn u506 (aLen r508) = true then if amIn u506 (aLen r508) = true then some ((), uI (uI C504 r508 (Int32.toNatClampNeg u506) ((cI C504 r508 (Int32.toNatClampNeg u506)) + (1 : Int32))) u505 65 ((cI (uI C504 r508 (Int32.toNatClampNeg u506) ((cI C504 r508 (Int32.toNatClampNeg u506)) + (1 : Int32))) u505 65) + (1 : Int32))) else none else none else none) else none) else none else none)) else none else none) else none else none) else none else none else if isK r471 12 = true then if amIn q301 (aLen r471) = true then (cP (uI (uI C302 a0 66 (3 : Int32)) r471 (Int32.toNatClampNeg q301) (0 : Int32)) a0 70).bind (fun r515 => if isK r515 12 = true then if amIn (cI (uI (uI C302 a0 66 (3 : Int32)) r471 (Int32.toNatClampNeg q301) (0 : Int32)) a0 65) (aLen r515) = true then (cP (uI (uI (uI C302 a0 66 (3 : Int32)) r471 (Int32.toNatClampNeg q301) (0 : Int32)) r515 (Int32.toNatClampNeg (cI (uI (uI C302 a0 66 (3 : Int32)) r471 (Int32.toNatClampNeg q301) (0 : Int32)) a0 65)) q301) a0 71).bind (fun r519 => if isK r519 12 = true then if amIn (cI (uI (uI (uI C302 a0 66 (3 : Int32)) r471 (Int32.toNatClampNeg q301) (0 : Int32)) r515 (Int32.toNatClampNeg (cI (uI (uI C302 a0 66 (3 : Int32)) r471 (Int32.toNatClampNeg q301) (0 : Int32)) a0 65)) q301) a0 65) (aLen r519) = true then (cP (uI (uI (uI (uI C302 a0 66 (3 : Int32)) r471 (Int32.toNatClampNeg q301) (0 : Int32)) r515 (Int32.toNatClampNeg (cI (uI (uI C302 a0 66 (3 : Int32)) r471 (Int32.toNatClampNeg q301) (0 : Int32)) a0 65)) q301) r519 (Int32.toNatClampNeg (cI (uI (uI (uI C302 a0 66 (3 : Int32)) r471 (Int32.toNatClampNeg q301) (0 : Int32)) r515 (Int32.toNatClampNeg (cI (uI (uI C302 a0 66 (3 : Int32)) r471 (Int32.toNatClampNeg q301) (0 : Int32)) a0 65)) q301) a0 65)) a2) a0 73).bind (fun r523 => (if ¬ a2 = (1 : Int32) then if isK r523 12 = true then if amIn (cI (uI (uI (uI (uI C302 a0 66 (3 : Int32)) r471 (Int32.toNatClampNeg q301) (0 : Int32)) r515 (Int32.toNatClampNeg (cI (uI (uI C302 a0 66 (3 : Int32)) r471 (Int32.toNatClampNeg q301) (0 : Int32)) a0 65)) q301) r519 (Int32.toNatClampNeg (cI (uI (uI (uI C302 a0 66 (3 : Int32)) r471 (Int32.toNatClampNeg q301) (0 : Int32)) r515 (Int32.toNatClampNeg (cI (uI (uI C302 a0 66 (3 : Int32)) r471 (Int32.toNatClampNeg q301) (0 : Int32)) a0 65)) q301) a0 65)) a2) a0 65) (aLen r523) = true then (lp_213_62 n a0 a2 q301 (0 : Int32) (uI (uI (uI (uI (uI C302 a0 66 (3 : Int32)) r471 (Int32.toNatClampNeg q301) (0 : Int32)) r515 (Int32.toNatClampNeg (cI (uI (uI C302 a0 66 (3 : Int32)) r471 (Int32.toNatClampNeg q301) (0 : Int32)) a0 65)) q301) r519 (Int32.toNatClampNeg (cI (uI (uI (uI C302 a0 66 (3 : Int32)) r471 (Int32.toNatClampNeg q301) (0 : Int32)) r515 (Int32.toNatClampNeg (cI (uI (uI C302 a0 66 (3 : Int32)) r471 (Int32.toNatClampNeg q301) (0 : Int32)) a0 65)) q301) a0 65)) a2) r523 (Int32.toNatClampNeg (cI (uI (uI (uI (uI C302 a0 66 (3 : Int32)) r471 (Int32.toNatClampNeg q301) (0 : Int32)) r515 (Int32.toNatClampNeg (cI (uI (uI C302 a0 66 (3 : Int32)) r471 (Int32.toNatClampNeg q301) (0 : Int32)) a0 65)) q301) r519 (Int32.toNatClampNeg (cI (uI (uI (uI C302 a0 66 (3 : Int32)) r471 (Int32.toNatClampNeg q301) (0 : Int32)) r515 (Int32.toNatClampNeg (cI (uI (uI C302 a0 66 (3 : Int32)) r471 (Int32.toNatClampNeg q301) (0 : Int32)) a0 65)) q301) a0 65)) a2) a0 65)) (cI (uI (uI (uI (uI C302 a0 66 (3 : Int32)) r471 (Int32.toNatClampNeg q301) (0 : Int32)) r515 (Int32.toNatClampNeg (cI (uI (uI C302 a0 66 (3 : Int32)) r471 (Int32.toNatClampNeg q301) (0 : Int32)) a0 65)) q301) r519 (Int32.toNatClampNeg (cI (uI (uI (uI C302 a0 66 (3 : Int32)) r471 (Int32.toNatClampNeg q301) (0 : Int32)) r515 (Int32.toNatClampNeg (cI (uI (uI C302 a0 66 (3 : Int32)) r471 (Int32.toNatClampNeg q301) (0 : Int32)) a0 65)) q301) a0 65)) a2) a0 76))).bind (fun q => match q with | ((u531, u532), C530) => if isK u531 10 = true then (cP C530 u531 74).bind (fun r534 => if isK r534 12 = true then if amIn u532 (aLen r534) = true then if amIn u532 (aLen r534) = true then some ((), uI (uI C530 r534 (Int32.toNatClampNeg u532) ((cI C530 r534 (Int32.toNatClampNeg u532)) + (1 : Int32))) u531 65 ((cI (uI C530 r534 (Int32.toNatClampNeg u532) ((cI C530 r534 (Int32.toNatClampNeg u532)) + (1 : Int32))) u531 65) + (1 : Int32))) else none else none else none) else none) else none else none else if isK r523 12 = true then if amIn (cI (uI (uI (uI (uI C302 a0 66 (3 : Int32)) r471 (Int32.toNatClampNeg q301) (0 : Int32)) r515 (Int32.toNatClampNeg (cI (uI (uI C302 a0 66 (3 : Int32)) r471 (Int32.toNatClampNeg q301) (0 : Int32)) a0 65)) q301) r519 (Int32.toNatClampNeg (cI (uI (uI (uI C302 a0 66 (3 : Int32)) r471 (Int32.toNatClampNeg q301) (0 : Int32)) r515 (Int32.toNatClampNeg (cI (uI (uI C302 a0 66 (3 : Int32)) r471 (Int32.toNatClampNeg q301) (0 : Int32)) a0 65)) q301) a0 65)) a2) a0 65) (aLen r523) = true then (lp_213_62 n a0 a2 q301 (0 : Int32) (uI (uI (uI (uI (uI C302 a0 66 (3 : Int32)) r471 (Int32.toNatClampNeg q301) (0 : Int32)) r515 (Int32.toNatClampNeg (cI (uI (uI C302 a0 66 (3 : Int32)) r471 (Int32.toNatClampNeg q301) (0 : Int32)) a0 65)) q301) r519 (Int32.toNatClampNeg (cI (uI (uI (uI C302 a0 66 (3 : Int32)) r471 (Int32.toNatClampNeg q301) (0 : Int32)) r515 (Int32.toNatClampNeg (cI (uI (uI C302 a0 66 (3 : Int32)) r471 (Int32.toNatClampNeg q301) (0 : Int32)) a0 65)) q301) a0 65)) a2) r523 (Int32.toNatClampNeg (cI (uI (uI (uI (uI C302 a0 66 (3 : Int32)) r471 (Int32.toNatClampNeg q301) (0 : Int32)) r515 (Int32.toNatClampNeg (cI (uI (uI C302 a0 66 (3 : Int32)) r471 (Int32.toNatClampNeg q301) (0 : Int32)) a0 65)) q301) r519 (Int32.toNatClampNeg (cI (uI (uI (uI C302 a0 66 (3 : Int32)) r471 (Int32.toNatClampNeg q301) (0 : Int32)) r515 (Int32.toNatClampNeg (cI (uI (uI C302 a0 66 (3 : Int32)) r471 (Int32.toNatClampNeg q301) (0 : Int32)) a0 65)) q301) a0 65)) a2) a0 65)) (0 : Int32))).bind (fun q => match q with | ((u544, u545), C543) => if isK u544 10 = true then (cP C543 u544 74).bind (fun r547 => if isK r547 12 = true then if amIn u545 (aLen r547) = true then if amIn u545 (aLen r547) = true then some ((), uI (uI C543 r547 (Int32.toNatClampNeg u545) ((cI C543 r547 (Int32.toNatClampNeg u545)) + (1 : Int32))) u544 65 ((cI (uI C543 r547 (Int32.toNatClampNeg u545) ((cI C543 r547 (Int32.toNatClampNeg u545)) + (1 : Int32))) u544 65) + (1 : Int32))) else none else none else none) else none) else none else none)) else none else none) else none else none) else none else none)) else some ((), uI C302 a0 66 (3 : Int32))))) else none)
set_option maxRecDepth 20000 in
set_option maxHeartbeats 4000000 in
theorem t_213 {n : Nat} {a0 : Nat} {a1 : Int32} {a2 : Int32} {C : AmC} {r : Unit} {C' : AmC} (h : f_213 n a0 a1 a2 C = some (r, C')) : En false 213 0 [(0, .ref a0), (1, .int a1), (2, .int a2)] [] (mkM C) (.inl none) (mkM C') := by
  unfold f_213 at h
  refine en_iload rfl rfl ?_
  refine ec_iconst cst_2 rfl ?_
  rcases gi h with ⟨c1, h⟩ | ⟨c1, h⟩
  · refine en_icmp_ne_t c1 rfl ?_
    refine en_iload rfl rfl ?_
    refine en_istore (l' := [(3, .int a1), (0, .ref a0), (1, .int a1), (2, .int a2)]) rfl rfl ?_
    refine en_iload rfl rfl ?_
    refine ec_iconst cst_m1 rfl ?_
    rcases gi h with ⟨c2, h⟩ | ⟨c2, h⟩
    · refine en_icmp_ne_t c2 rfl ?_
      refine en_aload rfl rfl ?_
      obtain ⟨g3, h⟩ := gd h
      refine ec_getI (ci := 10) (j := 65) ⟨rfl, rfl, rfl⟩ g3 rfl ?_
      refine ec_iconst cst_200 rfl ?_
      rcases gi h with ⟨c4, h⟩ | ⟨c4, h⟩
      · refine en_icmp_ne_t c4 rfl ?_
        refine en_aload rfl rfl ?_
        refine ec_getI (ci := 10) (j := 66) ⟨rfl, rfl, rfl⟩ g3 rfl ?_
        rcases gi h with ⟨c5, h⟩ | ⟨c5, h⟩
        · refine en_if_eq_t c5 rfl ?_
          refine en_aload rfl rfl ?_
          obtain ⟨r6, e7, h⟩ := gb h
          refine ec_getP (ci := 10) (j := 57) ⟨rfl, rfl, rfl⟩ g3 e7 rfl ?_
          refine en_iload rfl rfl ?_
          refine en_iload rfl rfl ?_
          refine ec_iconst cst_1 rfl ?_
          rcases gi h with ⟨c8, h⟩ | ⟨c8, h⟩
          · refine en_icmp_ne_t c8 rfl ?_
            refine ec_iconst cst_1 rfl ?_
            obtain ⟨g9, h⟩ := gd h
            obtain ⟨g10, h⟩ := gd h
            refine ec_iastore g9 g10 rfl ?_
            refine en_aload rfl rfl ?_
            obtain ⟨r11, e12, h⟩ := gb h
            refine ec_getP (ci := 10) (j := 70) ⟨rfl, rfl, rfl⟩ g3 e12 rfl ?_
            refine en_aload rfl rfl ?_
            refine ec_getI (ci := 10) (j := 65) ⟨rfl, rfl, rfl⟩ g3 rfl ?_
            refine en_iload rfl rfl ?_
            obtain ⟨g13, h⟩ := gd h
            obtain ⟨g14, h⟩ := gd h
            refine ec_iastore g13 g14 rfl ?_
            refine en_aload rfl rfl ?_
            obtain ⟨r15, e16, h⟩ := gb h
            refine ec_getP (ci := 10) (j := 71) ⟨rfl, rfl, rfl⟩ g3 e16 rfl ?_
            refine en_aload rfl rfl ?_
            refine ec_getI (ci := 10) (j := 65) ⟨rfl, rfl, rfl⟩ g3 rfl ?_
            refine en_iload rfl rfl ?_
            obtain ⟨g17, h⟩ := gd h
            obtain ⟨g18, h⟩ := gd h
            refine ec_iastore g17 g18 rfl ?_
            refine en_aload rfl rfl ?_
            obtain ⟨r19, e20, h⟩ := gb h
            refine ec_getP (ci := 10) (j := 73) ⟨rfl, rfl, rfl⟩ g3 e20 rfl ?_
            refine en_aload rfl rfl ?_
            refine ec_getI (ci := 10) (j := 65) ⟨rfl, rfl, rfl⟩ g3 rfl ?_
            refine en_iload rfl rfl ?_
            refine ec_iconst cst_1 rfl ?_
            rcases gi h with ⟨c21, h⟩ | ⟨c21, h⟩
            · refine en_icmp_ne_t c21 rfl ?_
              refine en_aload rfl rfl ?_
              refine ec_getI (ci := 10) (j := 76) ⟨rfl, rfl, rfl⟩ g3 rfl ?_
              obtain ⟨g22, h⟩ := gd h
              obtain ⟨g23, h⟩ := gd h
              refine ec_iastore g22 g23 rfl ?_
              refine ec_iconst cst_0 rfl ?_
              refine en_istore (l' := [(4, .int (0 : Int32)), (3, .int a1), (0, .ref a0), (1, .int a1), (2, .int a2)]) rfl rfl ?_
              obtain ⟨⟨q72, C74⟩, e73, h⟩ := gb h
              refine en_sub [2, 4, 1, 0] rfl rfl (lt_213_62 n _ _ _ _ _ _ e73 _ _ ?_)
              obtain ⟨u75, u76⟩ := q72
              dsimp only at h ⊢
              refine en_aload rfl rfl ?_
              obtain ⟨g77, h⟩ := gd h
              obtain ⟨r78, e79, h⟩ := gb h
              refine ec_getP (ci := 10) (j := 74) ⟨rfl, rfl, rfl⟩ g77 e79 rfl ?_
              refine en_iload rfl rfl ?_
              refine en_dup2 ⟨rfl, rfl⟩ rfl ?_
              obtain ⟨g80, h⟩ := gd h
              obtain ⟨g81, h⟩ := gd h
              refine ec_iaload g80 g81 rfl ?_
              refine ec_iconst cst_1 rfl ?_
              refine en_iadd rfl ?_
              obtain ⟨g82, h⟩ := gd h
              refine ec_iastore g80 g82 rfl ?_
              refine en_aload rfl rfl ?_
              refine en_dup rfl rfl ?_
              refine ec_getI (ci := 10) (j := 65) ⟨rfl, rfl, rfl⟩ g77 rfl ?_
              refine ec_iconst cst_1 rfl ?_
              refine en_iadd rfl ?_
              refine ec_putI (ci := 10) (j := 65) ⟨rfl, rfl, rfl⟩ g77 rfl ?_
              cases h
              exact en_vret rfl
            · refine en_icmp_ne_f c21 rfl ?_
              refine ec_iconst cst_0 rfl ?_
              refine en_goto rfl ?_
              obtain ⟨g83, h⟩ := gd h
              obtain ⟨g84, h⟩ := gd h
              refine ec_iastore g83 g84 rfl ?_
              refine ec_iconst cst_0 rfl ?_
              refine en_istore (l' := [(4, .int (0 : Int32)), (3, .int a1), (0, .ref a0), (1, .int a1), (2, .int a2)]) rfl rfl ?_
              obtain ⟨⟨q85, C87⟩, e86, h⟩ := gb h
              refine en_sub [2, 4, 1, 0] rfl rfl (lt_213_62 n _ _ _ _ _ _ e86 _ _ ?_)
              obtain ⟨u88, u89⟩ := q85
              dsimp only at h ⊢
              refine en_aload rfl rfl ?_
              obtain ⟨g90, h⟩ := gd h
              obtain ⟨r91, e92, h⟩ := gb h
              refine ec_getP (ci := 10) (j := 74) ⟨rfl, rfl, rfl⟩ g90 e92 rfl ?_
              refine en_iload rfl rfl ?_
              refine en_dup2 ⟨rfl, rfl⟩ rfl ?_
              obtain ⟨g93, h⟩ := gd h
              obtain ⟨g94, h⟩ := gd h
              refine ec_iaload g93 g94 rfl ?_
              refine ec_iconst cst_1 rfl ?_
              refine en_iadd rfl ?_
              obtain ⟨g95, h⟩ := gd h
              refine ec_iastore g93 g95 rfl ?_
              refine en_aload rfl rfl ?_
              refine en_dup rfl rfl ?_
              refine ec_getI (ci := 10) (j := 65) ⟨rfl, rfl, rfl⟩ g90 rfl ?_
              refine ec_iconst cst_1 rfl ?_
              refine en_iadd rfl ?_
              refine ec_putI (ci := 10) (j := 65) ⟨rfl, rfl, rfl⟩ g90 rfl ?_
              cases h
              exact en_vret rfl
          · refine en_icmp_ne_f c8 rfl ?_
            refine ec_iconst cst_0 rfl ?_
            refine en_goto rfl ?_
            obtain ⟨g96, h⟩ := gd h
            obtain ⟨g97, h⟩ := gd h
            refine ec_iastore g96 g97 rfl ?_
            refine en_aload rfl rfl ?_
            obtain ⟨r98, e99, h⟩ := gb h
            refine ec_getP (ci := 10) (j := 70) ⟨rfl, rfl, rfl⟩ g3 e99 rfl ?_
            refine en_aload rfl rfl ?_
            refine ec_getI (ci := 10) (j := 65) ⟨rfl, rfl, rfl⟩ g3 rfl ?_
            refine en_iload rfl rfl ?_
            obtain ⟨g100, h⟩ := gd h
            obtain ⟨g101, h⟩ := gd h
            refine ec_iastore g100 g101 rfl ?_
            refine en_aload rfl rfl ?_
            obtain ⟨r102, e103, h⟩ := gb h
            refine ec_getP (ci := 10) (j := 71) ⟨rfl, rfl, rfl⟩ g3 e103 rfl ?_
            refine en_aload rfl rfl ?_
            refine ec_getI (ci := 10) (j := 65) ⟨rfl, rfl, rfl⟩ g3 rfl ?_
            refine en_iload rfl rfl ?_
            obtain ⟨g104, h⟩ := gd h
            obtain ⟨g105, h⟩ := gd h
            refine ec_iastore g104 g105 rfl ?_
            refine en_aload rfl rfl ?_
            obtain ⟨r106, e107, h⟩ := gb h
            refine ec_getP (ci := 10) (j := 73) ⟨rfl, rfl, rfl⟩ g3 e107 rfl ?_
            refine en_aload rfl rfl ?_
            refine ec_getI (ci := 10) (j := 65) ⟨rfl, rfl, rfl⟩ g3 rfl ?_
            refine en_iload rfl rfl ?_
            refine ec_iconst cst_1 rfl ?_
            rcases gi h with ⟨c108, h⟩ | ⟨c108, h⟩
            · refine en_icmp_ne_t c108 rfl ?_
              refine en_aload rfl rfl ?_
              refine ec_getI (ci := 10) (j := 76) ⟨rfl, rfl, rfl⟩ g3 rfl ?_
              obtain ⟨g109, h⟩ := gd h
              obtain ⟨g110, h⟩ := gd h
              refine ec_iastore g109 g110 rfl ?_
              refine ec_iconst cst_0 rfl ?_
              refine en_istore (l' := [(4, .int (0 : Int32)), (3, .int a1), (0, .ref a0), (1, .int a1), (2, .int a2)]) rfl rfl ?_
              obtain ⟨⟨q111, C113⟩, e112, h⟩ := gb h
              refine en_sub [2, 4, 1, 0] rfl rfl (lt_213_62 n _ _ _ _ _ _ e112 _ _ ?_)
              obtain ⟨u114, u115⟩ := q111
              dsimp only at h ⊢
              refine en_aload rfl rfl ?_
              obtain ⟨g116, h⟩ := gd h
              obtain ⟨r117, e118, h⟩ := gb h
              refine ec_getP (ci := 10) (j := 74) ⟨rfl, rfl, rfl⟩ g116 e118 rfl ?_
              refine en_iload rfl rfl ?_
              refine en_dup2 ⟨rfl, rfl⟩ rfl ?_
              obtain ⟨g119, h⟩ := gd h
              obtain ⟨g120, h⟩ := gd h
              refine ec_iaload g119 g120 rfl ?_
              refine ec_iconst cst_1 rfl ?_
              refine en_iadd rfl ?_
              obtain ⟨g121, h⟩ := gd h
              refine ec_iastore g119 g121 rfl ?_
              refine en_aload rfl rfl ?_
              refine en_dup rfl rfl ?_
              refine ec_getI (ci := 10) (j := 65) ⟨rfl, rfl, rfl⟩ g116 rfl ?_
              refine ec_iconst cst_1 rfl ?_
              refine en_iadd rfl ?_
              refine ec_putI (ci := 10) (j := 65) ⟨rfl, rfl, rfl⟩ g116 rfl ?_
              cases h
              exact en_vret rfl
            · refine en_icmp_ne_f c108 rfl ?_
              refine ec_iconst cst_0 rfl ?_
              refine en_goto rfl ?_
              obtain ⟨g122, h⟩ := gd h
              obtain ⟨g123, h⟩ := gd h
              refine ec_iastore g122 g123 rfl ?_
              refine ec_iconst cst_0 rfl ?_
              refine en_istore (l' := [(4, .int (0 : Int32)), (3, .int a1), (0, .ref a0), (1, .int a1), (2, .int a2)]) rfl rfl ?_
              obtain ⟨⟨q124, C126⟩, e125, h⟩ := gb h
              refine en_sub [2, 4, 1, 0] rfl rfl (lt_213_62 n _ _ _ _ _ _ e125 _ _ ?_)
              obtain ⟨u127, u128⟩ := q124
              dsimp only at h ⊢
              refine en_aload rfl rfl ?_
              obtain ⟨g129, h⟩ := gd h
              obtain ⟨r130, e131, h⟩ := gb h
              refine ec_getP (ci := 10) (j := 74) ⟨rfl, rfl, rfl⟩ g129 e131 rfl ?_
              refine en_iload rfl rfl ?_
              refine en_dup2 ⟨rfl, rfl⟩ rfl ?_
              obtain ⟨g132, h⟩ := gd h
              obtain ⟨g133, h⟩ := gd h
              refine ec_iaload g132 g133 rfl ?_
              refine ec_iconst cst_1 rfl ?_
              refine en_iadd rfl ?_
              obtain ⟨g134, h⟩ := gd h
              refine ec_iastore g132 g134 rfl ?_
              refine en_aload rfl rfl ?_
              refine en_dup rfl rfl ?_
              refine ec_getI (ci := 10) (j := 65) ⟨rfl, rfl, rfl⟩ g129 rfl ?_
              refine ec_iconst cst_1 rfl ?_
              refine en_iadd rfl ?_
              refine ec_putI (ci := 10) (j := 65) ⟨rfl, rfl, rfl⟩ g129 rfl ?_
              cases h
              exact en_vret rfl
        · refine en_if_eq_f c5 rfl ?_
          cases h
          exact en_vret rfl
      · refine en_icmp_ne_f c4 rfl ?_
        refine en_aload rfl rfl ?_
        refine ec_iconst cst_4 rfl ?_
        refine ec_putI (ci := 10) (j := 66) ⟨rfl, rfl, rfl⟩ g3 rfl ?_
        refine en_aload rfl rfl ?_
        refine ec_getI (ci := 10) (j := 66) ⟨rfl, rfl, rfl⟩ g3 rfl ?_
        rcases gi h with ⟨c135, h⟩ | ⟨c135, h⟩
        · refine en_if_eq_t c135 rfl ?_
          refine en_aload rfl rfl ?_
          obtain ⟨r136, e137, h⟩ := gb h
          refine ec_getP (ci := 10) (j := 57) ⟨rfl, rfl, rfl⟩ g3 e137 rfl ?_
          refine en_iload rfl rfl ?_
          refine en_iload rfl rfl ?_
          refine ec_iconst cst_1 rfl ?_
          rcases gi h with ⟨c138, h⟩ | ⟨c138, h⟩
          · refine en_icmp_ne_t c138 rfl ?_
            refine ec_iconst cst_1 rfl ?_
            obtain ⟨g139, h⟩ := gd h
            obtain ⟨g140, h⟩ := gd h
            refine ec_iastore g139 g140 rfl ?_
            refine en_aload rfl rfl ?_
            obtain ⟨r141, e142, h⟩ := gb h
            refine ec_getP (ci := 10) (j := 70) ⟨rfl, rfl, rfl⟩ g3 e142 rfl ?_
            refine en_aload rfl rfl ?_
            refine ec_getI (ci := 10) (j := 65) ⟨rfl, rfl, rfl⟩ g3 rfl ?_
            refine en_iload rfl rfl ?_
            obtain ⟨g143, h⟩ := gd h
            obtain ⟨g144, h⟩ := gd h
            refine ec_iastore g143 g144 rfl ?_
            refine en_aload rfl rfl ?_
            obtain ⟨r145, e146, h⟩ := gb h
            refine ec_getP (ci := 10) (j := 71) ⟨rfl, rfl, rfl⟩ g3 e146 rfl ?_
            refine en_aload rfl rfl ?_
            refine ec_getI (ci := 10) (j := 65) ⟨rfl, rfl, rfl⟩ g3 rfl ?_
            refine en_iload rfl rfl ?_
            obtain ⟨g147, h⟩ := gd h
            obtain ⟨g148, h⟩ := gd h
            refine ec_iastore g147 g148 rfl ?_
            refine en_aload rfl rfl ?_
            obtain ⟨r149, e150, h⟩ := gb h
            refine ec_getP (ci := 10) (j := 73) ⟨rfl, rfl, rfl⟩ g3 e150 rfl ?_
            refine en_aload rfl rfl ?_
            refine ec_getI (ci := 10) (j := 65) ⟨rfl, rfl, rfl⟩ g3 rfl ?_
            refine en_iload rfl rfl ?_
            refine ec_iconst cst_1 rfl ?_
            rcases gi h with ⟨c151, h⟩ | ⟨c151, h⟩
            · refine en_icmp_ne_t c151 rfl ?_
              refine en_aload rfl rfl ?_
              refine ec_getI (ci := 10) (j := 76) ⟨rfl, rfl, rfl⟩ g3 rfl ?_
              obtain ⟨g152, h⟩ := gd h
              obtain ⟨g153, h⟩ := gd h
              refine ec_iastore g152 g153 rfl ?_
              refine ec_iconst cst_0 rfl ?_
              refine en_istore (l' := [(4, .int (0 : Int32)), (3, .int a1), (0, .ref a0), (1, .int a1), (2, .int a2)]) rfl rfl ?_
              obtain ⟨⟨q154, C156⟩, e155, h⟩ := gb h
              refine en_sub [2, 4, 1, 0] rfl rfl (lt_213_62 n _ _ _ _ _ _ e155 _ _ ?_)
              obtain ⟨u157, u158⟩ := q154
              dsimp only at h ⊢
              refine en_aload rfl rfl ?_
              obtain ⟨g159, h⟩ := gd h
              obtain ⟨r160, e161, h⟩ := gb h
              refine ec_getP (ci := 10) (j := 74) ⟨rfl, rfl, rfl⟩ g159 e161 rfl ?_
              refine en_iload rfl rfl ?_
              refine en_dup2 ⟨rfl, rfl⟩ rfl ?_
              obtain ⟨g162, h⟩ := gd h
              obtain ⟨g163, h⟩ := gd h
              refine ec_iaload g162 g163 rfl ?_
              refine ec_iconst cst_1 rfl ?_
              refine en_iadd rfl ?_
              obtain ⟨g164, h⟩ := gd h
              refine ec_iastore g162 g164 rfl ?_
              refine en_aload rfl rfl ?_
              refine en_dup rfl rfl ?_
              refine ec_getI (ci := 10) (j := 65) ⟨rfl, rfl, rfl⟩ g159 rfl ?_
              refine ec_iconst cst_1 rfl ?_
              refine en_iadd rfl ?_
              refine ec_putI (ci := 10) (j := 65) ⟨rfl, rfl, rfl⟩ g159 rfl ?_
              cases h
              exact en_vret rfl
            · refine en_icmp_ne_f c151 rfl ?_
              refine ec_iconst cst_0 rfl ?_
              refine en_goto rfl ?_
              obtain ⟨g165, h⟩ := gd h
              obtain ⟨g166, h⟩ := gd h
              refine ec_iastore g165 g166 rfl ?_
              refine ec_iconst cst_0 rfl ?_
              refine en_istore (l' := [(4, .int (0 : Int32)), (3, .int a1), (0, .ref a0), (1, .int a1), (2, .int a2)]) rfl rfl ?_
              obtain ⟨⟨q167, C169⟩, e168, h⟩ := gb h
              refine en_sub [2, 4, 1, 0] rfl rfl (lt_213_62 n _ _ _ _ _ _ e168 _ _ ?_)
              obtain ⟨u170, u171⟩ := q167
              dsimp only at h ⊢
              refine en_aload rfl rfl ?_
              obtain ⟨g172, h⟩ := gd h
              obtain ⟨r173, e174, h⟩ := gb h
              refine ec_getP (ci := 10) (j := 74) ⟨rfl, rfl, rfl⟩ g172 e174 rfl ?_
              refine en_iload rfl rfl ?_
              refine en_dup2 ⟨rfl, rfl⟩ rfl ?_
              obtain ⟨g175, h⟩ := gd h
              obtain ⟨g176, h⟩ := gd h
              refine ec_iaload g175 g176 rfl ?_
              refine ec_iconst cst_1 rfl ?_
              refine en_iadd rfl ?_
              obtain ⟨g177, h⟩ := gd h
              refine ec_iastore g175 g177 rfl ?_
              refine en_aload rfl rfl ?_
              refine en_dup rfl rfl ?_
              refine ec_getI (ci := 10) (j := 65) ⟨rfl, rfl, rfl⟩ g172 rfl ?_
              refine ec_iconst cst_1 rfl ?_
              refine en_iadd rfl ?_
              refine ec_putI (ci := 10) (j := 65) ⟨rfl, rfl, rfl⟩ g172 rfl ?_
              cases h
              exact en_vret rfl
          · refine en_icmp_ne_f c138 rfl ?_
            refine ec_iconst cst_0 rfl ?_
            refine en_goto rfl ?_
            obtain ⟨g178, h⟩ := gd h
            obtain ⟨g179, h⟩ := gd h
            refine ec_iastore g178 g179 rfl ?_
            refine en_aload rfl rfl ?_
            obtain ⟨r180, e181, h⟩ := gb h
            refine ec_getP (ci := 10) (j := 70) ⟨rfl, rfl, rfl⟩ g3 e181 rfl ?_
            refine en_aload rfl rfl ?_
            refine ec_getI (ci := 10) (j := 65) ⟨rfl, rfl, rfl⟩ g3 rfl ?_
            refine en_iload rfl rfl ?_
            obtain ⟨g182, h⟩ := gd h
            obtain ⟨g183, h⟩ := gd h
            refine ec_iastore g182 g183 rfl ?_
            refine en_aload rfl rfl ?_
            obtain ⟨r184, e185, h⟩ := gb h
            refine ec_getP (ci := 10) (j := 71) ⟨rfl, rfl, rfl⟩ g3 e185 rfl ?_
            refine en_aload rfl rfl ?_
            refine ec_getI (ci := 10) (j := 65) ⟨rfl, rfl, rfl⟩ g3 rfl ?_
            refine en_iload rfl rfl ?_
            obtain ⟨g186, h⟩ := gd h
            obtain ⟨g187, h⟩ := gd h
            refine ec_iastore g186 g187 rfl ?_
            refine en_aload rfl rfl ?_
            obtain ⟨r188, e189, h⟩ := gb h
            refine ec_getP (ci := 10) (j := 73) ⟨rfl, rfl, rfl⟩ g3 e189 rfl ?_
            refine en_aload rfl rfl ?_
            refine ec_getI (ci := 10) (j := 65) ⟨rfl, rfl, rfl⟩ g3 rfl ?_
            refine en_iload rfl rfl ?_
            refine ec_iconst cst_1 rfl ?_
            rcases gi h with ⟨c190, h⟩ | ⟨c190, h⟩
            · refine en_icmp_ne_t c190 rfl ?_
              refine en_aload rfl rfl ?_
              refine ec_getI (ci := 10) (j := 76) ⟨rfl, rfl, rfl⟩ g3 rfl ?_
              obtain ⟨g191, h⟩ := gd h
              obtain ⟨g192, h⟩ := gd h
              refine ec_iastore g191 g192 rfl ?_
              refine ec_iconst cst_0 rfl ?_
              refine en_istore (l' := [(4, .int (0 : Int32)), (3, .int a1), (0, .ref a0), (1, .int a1), (2, .int a2)]) rfl rfl ?_
              obtain ⟨⟨q193, C195⟩, e194, h⟩ := gb h
              refine en_sub [2, 4, 1, 0] rfl rfl (lt_213_62 n _ _ _ _ _ _ e194 _ _ ?_)
              obtain ⟨u196, u197⟩ := q193
              dsimp only at h ⊢
              refine en_aload rfl rfl ?_
              obtain ⟨g198, h⟩ := gd h
              obtain ⟨r199, e200, h⟩ := gb h
              refine ec_getP (ci := 10) (j := 74) ⟨rfl, rfl, rfl⟩ g198 e200 rfl ?_
              refine en_iload rfl rfl ?_
              refine en_dup2 ⟨rfl, rfl⟩ rfl ?_
              obtain ⟨g201, h⟩ := gd h
              obtain ⟨g202, h⟩ := gd h
              refine ec_iaload g201 g202 rfl ?_
              refine ec_iconst cst_1 rfl ?_
              refine en_iadd rfl ?_
              obtain ⟨g203, h⟩ := gd h
              refine ec_iastore g201 g203 rfl ?_
              refine en_aload rfl rfl ?_
              refine en_dup rfl rfl ?_
              refine ec_getI (ci := 10) (j := 65) ⟨rfl, rfl, rfl⟩ g198 rfl ?_
              refine ec_iconst cst_1 rfl ?_
              refine en_iadd rfl ?_
              refine ec_putI (ci := 10) (j := 65) ⟨rfl, rfl, rfl⟩ g198 rfl ?_
              cases h
              exact en_vret rfl
            · refine en_icmp_ne_f c190 rfl ?_
              refine ec_iconst cst_0 rfl ?_
              refine en_goto rfl ?_
              obtain ⟨g204, h⟩ := gd h
              obtain ⟨g205, h⟩ := gd h
              refine ec_iastore g204 g205 rfl ?_
              refine ec_iconst cst_0 rfl ?_
              refine en_istore (l' := [(4, .int (0 : Int32)), (3, .int a1), (0, .ref a0), (1, .int a1), (2, .int a2)]) rfl rfl ?_
              obtain ⟨⟨q206, C208⟩, e207, h⟩ := gb h
              refine en_sub [2, 4, 1, 0] rfl rfl (lt_213_62 n _ _ _ _ _ _ e207 _ _ ?_)
              obtain ⟨u209, u210⟩ := q206
              dsimp only at h ⊢
              refine en_aload rfl rfl ?_
              obtain ⟨g211, h⟩ := gd h
              obtain ⟨r212, e213, h⟩ := gb h
              refine ec_getP (ci := 10) (j := 74) ⟨rfl, rfl, rfl⟩ g211 e213 rfl ?_
              refine en_iload rfl rfl ?_
              refine en_dup2 ⟨rfl, rfl⟩ rfl ?_
              obtain ⟨g214, h⟩ := gd h
              obtain ⟨g215, h⟩ := gd h
              refine ec_iaload g214 g215 rfl ?_
              refine ec_iconst cst_1 rfl ?_
              refine en_iadd rfl ?_
              obtain ⟨g216, h⟩ := gd h
              refine ec_iastore g214 g216 rfl ?_
              refine en_aload rfl rfl ?_
              refine en_dup rfl rfl ?_
              refine ec_getI (ci := 10) (j := 65) ⟨rfl, rfl, rfl⟩ g211 rfl ?_
              refine ec_iconst cst_1 rfl ?_
              refine en_iadd rfl ?_
              refine ec_putI (ci := 10) (j := 65) ⟨rfl, rfl, rfl⟩ g211 rfl ?_
              cases h
              exact en_vret rfl
        · refine en_if_eq_f c135 rfl ?_
          cases h
          exact en_vret rfl
    · refine en_icmp_ne_f c2 rfl ?_
      refine en_aload rfl rfl ?_
      refine ec_iconst cst_3 rfl ?_
      obtain ⟨g217, h⟩ := gd h
      refine ec_putI (ci := 10) (j := 66) ⟨rfl, rfl, rfl⟩ g217 rfl ?_
      refine en_goto rfl ?_
      refine en_aload rfl rfl ?_
      refine ec_getI (ci := 10) (j := 66) ⟨rfl, rfl, rfl⟩ g217 rfl ?_
      rcases gi h with ⟨c218, h⟩ | ⟨c218, h⟩
      · refine en_if_eq_t c218 rfl ?_
        refine en_aload rfl rfl ?_
        obtain ⟨r219, e220, h⟩ := gb h
        refine ec_getP (ci := 10) (j := 57) ⟨rfl, rfl, rfl⟩ g217 e220 rfl ?_
        refine en_iload rfl rfl ?_
        refine en_iload rfl rfl ?_
        refine ec_iconst cst_1 rfl ?_
        rcases gi h with ⟨c221, h⟩ | ⟨c221, h⟩
        · refine en_icmp_ne_t c221 rfl ?_
          refine ec_iconst cst_1 rfl ?_
          obtain ⟨g222, h⟩ := gd h
          obtain ⟨g223, h⟩ := gd h
          refine ec_iastore g222 g223 rfl ?_
          refine en_aload rfl rfl ?_
          obtain ⟨r224, e225, h⟩ := gb h
          refine ec_getP (ci := 10) (j := 70) ⟨rfl, rfl, rfl⟩ g217 e225 rfl ?_
          refine en_aload rfl rfl ?_
          refine ec_getI (ci := 10) (j := 65) ⟨rfl, rfl, rfl⟩ g217 rfl ?_
          refine en_iload rfl rfl ?_
          obtain ⟨g226, h⟩ := gd h
          obtain ⟨g227, h⟩ := gd h
          refine ec_iastore g226 g227 rfl ?_
          refine en_aload rfl rfl ?_
          obtain ⟨r228, e229, h⟩ := gb h
          refine ec_getP (ci := 10) (j := 71) ⟨rfl, rfl, rfl⟩ g217 e229 rfl ?_
          refine en_aload rfl rfl ?_
          refine ec_getI (ci := 10) (j := 65) ⟨rfl, rfl, rfl⟩ g217 rfl ?_
          refine en_iload rfl rfl ?_
          obtain ⟨g230, h⟩ := gd h
          obtain ⟨g231, h⟩ := gd h
          refine ec_iastore g230 g231 rfl ?_
          refine en_aload rfl rfl ?_
          obtain ⟨r232, e233, h⟩ := gb h
          refine ec_getP (ci := 10) (j := 73) ⟨rfl, rfl, rfl⟩ g217 e233 rfl ?_
          refine en_aload rfl rfl ?_
          refine ec_getI (ci := 10) (j := 65) ⟨rfl, rfl, rfl⟩ g217 rfl ?_
          refine en_iload rfl rfl ?_
          refine ec_iconst cst_1 rfl ?_
          rcases gi h with ⟨c234, h⟩ | ⟨c234, h⟩
          · refine en_icmp_ne_t c234 rfl ?_
            refine en_aload rfl rfl ?_
            refine ec_getI (ci := 10) (j := 76) ⟨rfl, rfl, rfl⟩ g217 rfl ?_
            obtain ⟨g235, h⟩ := gd h
            obtain ⟨g236, h⟩ := gd h
            refine ec_iastore g235 g236 rfl ?_
            refine ec_iconst cst_0 rfl ?_
            refine en_istore (l' := [(4, .int (0 : Int32)), (3, .int a1), (0, .ref a0), (1, .int a1), (2, .int a2)]) rfl rfl ?_
            obtain ⟨⟨q237, C239⟩, e238, h⟩ := gb h
            refine en_sub [2, 4, 1, 0] rfl rfl (lt_213_62 n _ _ _ _ _ _ e238 _ _ ?_)
            obtain ⟨u240, u241⟩ := q237
            dsimp only at h ⊢
            refine en_aload rfl rfl ?_
            obtain ⟨g242, h⟩ := gd h
            obtain ⟨r243, e244, h⟩ := gb h
            refine ec_getP (ci := 10) (j := 74) ⟨rfl, rfl, rfl⟩ g242 e244 rfl ?_
            refine en_iload rfl rfl ?_
            refine en_dup2 ⟨rfl, rfl⟩ rfl ?_
            obtain ⟨g245, h⟩ := gd h
            obtain ⟨g246, h⟩ := gd h
            refine ec_iaload g245 g246 rfl ?_
            refine ec_iconst cst_1 rfl ?_
            refine en_iadd rfl ?_
            obtain ⟨g247, h⟩ := gd h
            refine ec_iastore g245 g247 rfl ?_
            refine en_aload rfl rfl ?_
            refine en_dup rfl rfl ?_
            refine ec_getI (ci := 10) (j := 65) ⟨rfl, rfl, rfl⟩ g242 rfl ?_
            refine ec_iconst cst_1 rfl ?_
            refine en_iadd rfl ?_
            refine ec_putI (ci := 10) (j := 65) ⟨rfl, rfl, rfl⟩ g242 rfl ?_
            cases h
            exact en_vret rfl
          · refine en_icmp_ne_f c234 rfl ?_
            refine ec_iconst cst_0 rfl ?_
            refine en_goto rfl ?_
            obtain ⟨g248, h⟩ := gd h
            obtain ⟨g249, h⟩ := gd h
            refine ec_iastore g248 g249 rfl ?_
            refine ec_iconst cst_0 rfl ?_
            refine en_istore (l' := [(4, .int (0 : Int32)), (3, .int a1), (0, .ref a0), (1, .int a1), (2, .int a2)]) rfl rfl ?_
            obtain ⟨⟨q250, C252⟩, e251, h⟩ := gb h
            refine en_sub [2, 4, 1, 0] rfl rfl (lt_213_62 n _ _ _ _ _ _ e251 _ _ ?_)
            obtain ⟨u253, u254⟩ := q250
            dsimp only at h ⊢
            refine en_aload rfl rfl ?_
            obtain ⟨g255, h⟩ := gd h
            obtain ⟨r256, e257, h⟩ := gb h
            refine ec_getP (ci := 10) (j := 74) ⟨rfl, rfl, rfl⟩ g255 e257 rfl ?_
            refine en_iload rfl rfl ?_
            refine en_dup2 ⟨rfl, rfl⟩ rfl ?_
            obtain ⟨g258, h⟩ := gd h
            obtain ⟨g259, h⟩ := gd h
            refine ec_iaload g258 g259 rfl ?_
            refine ec_iconst cst_1 rfl ?_
            refine en_iadd rfl ?_
            obtain ⟨g260, h⟩ := gd h
            refine ec_iastore g258 g260 rfl ?_
            refine en_aload rfl rfl ?_
            refine en_dup rfl rfl ?_
            refine ec_getI (ci := 10) (j := 65) ⟨rfl, rfl, rfl⟩ g255 rfl ?_
            refine ec_iconst cst_1 rfl ?_
            refine en_iadd rfl ?_
            refine ec_putI (ci := 10) (j := 65) ⟨rfl, rfl, rfl⟩ g255 rfl ?_
            cases h
            exact en_vret rfl
        · refine en_icmp_ne_f c221 rfl ?_
          refine ec_iconst cst_0 rfl ?_
          refine en_goto rfl ?_
          obtain ⟨g261, h⟩ := gd h
          obtain ⟨g262, h⟩ := gd h
          refine ec_iastore g261 g262 rfl ?_
          refine en_aload rfl rfl ?_
          obtain ⟨r263, e264, h⟩ := gb h
          refine ec_getP (ci := 10) (j := 70) ⟨rfl, rfl, rfl⟩ g217 e264 rfl ?_
          refine en_aload rfl rfl ?_
          refine ec_getI (ci := 10) (j := 65) ⟨rfl, rfl, rfl⟩ g217 rfl ?_
          refine en_iload rfl rfl ?_
          obtain ⟨g265, h⟩ := gd h
          obtain ⟨g266, h⟩ := gd h
          refine ec_iastore g265 g266 rfl ?_
          refine en_aload rfl rfl ?_
          obtain ⟨r267, e268, h⟩ := gb h
          refine ec_getP (ci := 10) (j := 71) ⟨rfl, rfl, rfl⟩ g217 e268 rfl ?_
          refine en_aload rfl rfl ?_
          refine ec_getI (ci := 10) (j := 65) ⟨rfl, rfl, rfl⟩ g217 rfl ?_
          refine en_iload rfl rfl ?_
          obtain ⟨g269, h⟩ := gd h
          obtain ⟨g270, h⟩ := gd h
          refine ec_iastore g269 g270 rfl ?_
          refine en_aload rfl rfl ?_
          obtain ⟨r271, e272, h⟩ := gb h
          refine ec_getP (ci := 10) (j := 73) ⟨rfl, rfl, rfl⟩ g217 e272 rfl ?_
          refine en_aload rfl rfl ?_
          refine ec_getI (ci := 10) (j := 65) ⟨rfl, rfl, rfl⟩ g217 rfl ?_
          refine en_iload rfl rfl ?_
          refine ec_iconst cst_1 rfl ?_
          rcases gi h with ⟨c273, h⟩ | ⟨c273, h⟩
          · refine en_icmp_ne_t c273 rfl ?_
            refine en_aload rfl rfl ?_
            refine ec_getI (ci := 10) (j := 76) ⟨rfl, rfl, rfl⟩ g217 rfl ?_
            obtain ⟨g274, h⟩ := gd h
            obtain ⟨g275, h⟩ := gd h
            refine ec_iastore g274 g275 rfl ?_
            refine ec_iconst cst_0 rfl ?_
            refine en_istore (l' := [(4, .int (0 : Int32)), (3, .int a1), (0, .ref a0), (1, .int a1), (2, .int a2)]) rfl rfl ?_
            obtain ⟨⟨q276, C278⟩, e277, h⟩ := gb h
            refine en_sub [2, 4, 1, 0] rfl rfl (lt_213_62 n _ _ _ _ _ _ e277 _ _ ?_)
            obtain ⟨u279, u280⟩ := q276
            dsimp only at h ⊢
            refine en_aload rfl rfl ?_
            obtain ⟨g281, h⟩ := gd h
            obtain ⟨r282, e283, h⟩ := gb h
            refine ec_getP (ci := 10) (j := 74) ⟨rfl, rfl, rfl⟩ g281 e283 rfl ?_
            refine en_iload rfl rfl ?_
            refine en_dup2 ⟨rfl, rfl⟩ rfl ?_
            obtain ⟨g284, h⟩ := gd h
            obtain ⟨g285, h⟩ := gd h
            refine ec_iaload g284 g285 rfl ?_
            refine ec_iconst cst_1 rfl ?_
            refine en_iadd rfl ?_
            obtain ⟨g286, h⟩ := gd h
            refine ec_iastore g284 g286 rfl ?_
            refine en_aload rfl rfl ?_
            refine en_dup rfl rfl ?_
            refine ec_getI (ci := 10) (j := 65) ⟨rfl, rfl, rfl⟩ g281 rfl ?_
            refine ec_iconst cst_1 rfl ?_
            refine en_iadd rfl ?_
            refine ec_putI (ci := 10) (j := 65) ⟨rfl, rfl, rfl⟩ g281 rfl ?_
            cases h
            exact en_vret rfl
          · refine en_icmp_ne_f c273 rfl ?_
            refine ec_iconst cst_0 rfl ?_
            refine en_goto rfl ?_
            obtain ⟨g287, h⟩ := gd h
            obtain ⟨g288, h⟩ := gd h
            refine ec_iastore g287 g288 rfl ?_
            refine ec_iconst cst_0 rfl ?_
            refine en_istore (l' := [(4, .int (0 : Int32)), (3, .int a1), (0, .ref a0), (1, .int a1), (2, .int a2)]) rfl rfl ?_
            obtain ⟨⟨q289, C291⟩, e290, h⟩ := gb h
            refine en_sub [2, 4, 1, 0] rfl rfl (lt_213_62 n _ _ _ _ _ _ e290 _ _ ?_)
            obtain ⟨u292, u293⟩ := q289
            dsimp only at h ⊢
            refine en_aload rfl rfl ?_
            obtain ⟨g294, h⟩ := gd h
            obtain ⟨r295, e296, h⟩ := gb h
            refine ec_getP (ci := 10) (j := 74) ⟨rfl, rfl, rfl⟩ g294 e296 rfl ?_
            refine en_iload rfl rfl ?_
            refine en_dup2 ⟨rfl, rfl⟩ rfl ?_
            obtain ⟨g297, h⟩ := gd h
            obtain ⟨g298, h⟩ := gd h
            refine ec_iaload g297 g298 rfl ?_
            refine ec_iconst cst_1 rfl ?_
            refine en_iadd rfl ?_
            obtain ⟨g299, h⟩ := gd h
            refine ec_iastore g297 g299 rfl ?_
            refine en_aload rfl rfl ?_
            refine en_dup rfl rfl ?_
            refine ec_getI (ci := 10) (j := 65) ⟨rfl, rfl, rfl⟩ g294 rfl ?_
            refine ec_iconst cst_1 rfl ?_
            refine en_iadd rfl ?_
            refine ec_putI (ci := 10) (j := 65) ⟨rfl, rfl, rfl⟩ g294 rfl ?_
            cases h
            exact en_vret rfl
      · refine en_if_eq_f c218 rfl ?_
        cases h
        exact en_vret rfl
  · refine en_icmp_ne_f c1 rfl ?_
    refine en_aload rfl rfl ?_
    obtain ⟨g300, h⟩ := gd h
    obtain ⟨⟨q301, C302⟩, e303, h⟩ := gb h
    dsimp only at h
    refine ec_callV1 (k' := 212) (n := 1) (rc := 10) (a := a0) (as := []) ⟨rfl, rfl⟩ rfl rfl (Nat.le_of_ble_eq_true rfl) (Nat.le_of_ble_eq_true rfl) (Nat.le_of_ble_eq_true rfl) g300 rfl (t_212 e303) ?_
    refine en_goto rfl ?_
    refine en_istore (l' := [(3, .int q301), (0, .ref a0), (1, .int a1), (2, .int a2)]) rfl rfl ?_
    refine en_iload rfl rfl ?_
    refine ec_iconst cst_m1 rfl ?_
    rcases gi h with ⟨c304, h⟩ | ⟨c304, h⟩
    · refine en_icmp_ne_t c304 rfl ?_
      refine en_aload rfl rfl ?_
      refine ec_getI (ci := 10) (j := 65) ⟨rfl, rfl, rfl⟩ g300 rfl ?_
      refine ec_iconst cst_200 rfl ?_
      rcases gi h with ⟨c305, h⟩ | ⟨c305, h⟩
      · refine en_icmp_ne_t c305 rfl ?_
        refine en_aload rfl rfl ?_
        refine ec_getI (ci := 10) (j := 66) ⟨rfl, rfl, rfl⟩ g300 rfl ?_
        rcases gi h with ⟨c306, h⟩ | ⟨c306, h⟩
        · refine en_if_eq_t c306 rfl ?_
          refine en_aload rfl rfl ?_
          obtain ⟨r307, e308, h⟩ := gb h
          refine ec_getP (ci := 10) (j := 57) ⟨rfl, rfl, rfl⟩ g300 e308 rfl ?_
          refine en_iload rfl rfl ?_
          refine en_iload rfl rfl ?_
          refine ec_iconst cst_1 rfl ?_
          rcases gi h with ⟨c309, h⟩ | ⟨c309, h⟩
          · refine en_icmp_ne_t c309 rfl ?_
            refine ec_iconst cst_1 rfl ?_
            obtain ⟨g310, h⟩ := gd h
            obtain ⟨g311, h⟩ := gd h
            refine ec_iastore g310 g311 rfl ?_
            refine en_aload rfl rfl ?_
            obtain ⟨r312, e313, h⟩ := gb h
            refine ec_getP (ci := 10) (j := 70) ⟨rfl, rfl, rfl⟩ g300 e313 rfl ?_
            refine en_aload rfl rfl ?_
            refine ec_getI (ci := 10) (j := 65) ⟨rfl, rfl, rfl⟩ g300 rfl ?_
            refine en_iload rfl rfl ?_
            obtain ⟨g314, h⟩ := gd h
            obtain ⟨g315, h⟩ := gd h
            refine ec_iastore g314 g315 rfl ?_
            refine en_aload rfl rfl ?_
            obtain ⟨r316, e317, h⟩ := gb h
            refine ec_getP (ci := 10) (j := 71) ⟨rfl, rfl, rfl⟩ g300 e317 rfl ?_
            refine en_aload rfl rfl ?_
            refine ec_getI (ci := 10) (j := 65) ⟨rfl, rfl, rfl⟩ g300 rfl ?_
            refine en_iload rfl rfl ?_
            obtain ⟨g318, h⟩ := gd h
            obtain ⟨g319, h⟩ := gd h
            refine ec_iastore g318 g319 rfl ?_
            refine en_aload rfl rfl ?_
            obtain ⟨r320, e321, h⟩ := gb h
            refine ec_getP (ci := 10) (j := 73) ⟨rfl, rfl, rfl⟩ g300 e321 rfl ?_
            refine en_aload rfl rfl ?_
            refine ec_getI (ci := 10) (j := 65) ⟨rfl, rfl, rfl⟩ g300 rfl ?_
            refine en_iload rfl rfl ?_
            refine ec_iconst cst_1 rfl ?_
            rcases gi h with ⟨c322, h⟩ | ⟨c322, h⟩
            · refine en_icmp_ne_t c322 rfl ?_
              refine en_aload rfl rfl ?_
              refine ec_getI (ci := 10) (j := 76) ⟨rfl, rfl, rfl⟩ g300 rfl ?_
              obtain ⟨g323, h⟩ := gd h
              obtain ⟨g324, h⟩ := gd h
              refine ec_iastore g323 g324 rfl ?_
              refine ec_iconst cst_0 rfl ?_
              refine en_istore (l' := [(4, .int (0 : Int32)), (3, .int q301), (0, .ref a0), (1, .int a1), (2, .int a2)]) rfl rfl ?_
              obtain ⟨⟨q325, C327⟩, e326, h⟩ := gb h
              refine en_sub [2, 4, 1, 0] rfl rfl (lt_213_62 n _ _ _ _ _ _ e326 _ _ ?_)
              obtain ⟨u328, u329⟩ := q325
              dsimp only at h ⊢
              refine en_aload rfl rfl ?_
              obtain ⟨g330, h⟩ := gd h
              obtain ⟨r331, e332, h⟩ := gb h
              refine ec_getP (ci := 10) (j := 74) ⟨rfl, rfl, rfl⟩ g330 e332 rfl ?_
              refine en_iload rfl rfl ?_
              refine en_dup2 ⟨rfl, rfl⟩ rfl ?_
              obtain ⟨g333, h⟩ := gd h
              obtain ⟨g334, h⟩ := gd h
              refine ec_iaload g333 g334 rfl ?_
              refine ec_iconst cst_1 rfl ?_
              refine en_iadd rfl ?_
              obtain ⟨g335, h⟩ := gd h
              refine ec_iastore g333 g335 rfl ?_
              refine en_aload rfl rfl ?_
              refine en_dup rfl rfl ?_
              refine ec_getI (ci := 10) (j := 65) ⟨rfl, rfl, rfl⟩ g330 rfl ?_
              refine ec_iconst cst_1 rfl ?_
              refine en_iadd rfl ?_
              refine ec_putI (ci := 10) (j := 65) ⟨rfl, rfl, rfl⟩ g330 rfl ?_
              cases h
              exact en_vret rfl
            · refine en_icmp_ne_f c322 rfl ?_
              refine ec_iconst cst_0 rfl ?_
              refine en_goto rfl ?_
              obtain ⟨g336, h⟩ := gd h
              obtain ⟨g337, h⟩ := gd h
              refine ec_iastore g336 g337 rfl ?_
              refine ec_iconst cst_0 rfl ?_
              refine en_istore (l' := [(4, .int (0 : Int32)), (3, .int q301), (0, .ref a0), (1, .int a1), (2, .int a2)]) rfl rfl ?_
              obtain ⟨⟨q338, C340⟩, e339, h⟩ := gb h
              refine en_sub [2, 4, 1, 0] rfl rfl (lt_213_62 n _ _ _ _ _ _ e339 _ _ ?_)
              obtain ⟨u341, u342⟩ := q338
              dsimp only at h ⊢
              refine en_aload rfl rfl ?_
              obtain ⟨g343, h⟩ := gd h
              obtain ⟨r344, e345, h⟩ := gb h
              refine ec_getP (ci := 10) (j := 74) ⟨rfl, rfl, rfl⟩ g343 e345 rfl ?_
              refine en_iload rfl rfl ?_
              refine en_dup2 ⟨rfl, rfl⟩ rfl ?_
              obtain ⟨g346, h⟩ := gd h
              obtain ⟨g347, h⟩ := gd h
              refine ec_iaload g346 g347 rfl ?_
              refine ec_iconst cst_1 rfl ?_
              refine en_iadd rfl ?_
              obtain ⟨g348, h⟩ := gd h
              refine ec_iastore g346 g348 rfl ?_
              refine en_aload rfl rfl ?_
              refine en_dup rfl rfl ?_
              refine ec_getI (ci := 10) (j := 65) ⟨rfl, rfl, rfl⟩ g343 rfl ?_
              refine ec_iconst cst_1 rfl ?_
              refine en_iadd rfl ?_
              refine ec_putI (ci := 10) (j := 65) ⟨rfl, rfl, rfl⟩ g343 rfl ?_
              cases h
              exact en_vret rfl
          · refine en_icmp_ne_f c309 rfl ?_
            refine ec_iconst cst_0 rfl ?_
            refine en_goto rfl ?_
            obtain ⟨g349, h⟩ := gd h
            obtain ⟨g350, h⟩ := gd h
            refine ec_iastore g349 g350 rfl ?_
            refine en_aload rfl rfl ?_
            obtain ⟨r351, e352, h⟩ := gb h
            refine ec_getP (ci := 10) (j := 70) ⟨rfl, rfl, rfl⟩ g300 e352 rfl ?_
            refine en_aload rfl rfl ?_
            refine ec_getI (ci := 10) (j := 65) ⟨rfl, rfl, rfl⟩ g300 rfl ?_
            refine en_iload rfl rfl ?_
            obtain ⟨g353, h⟩ := gd h
            obtain ⟨g354, h⟩ := gd h
            refine ec_iastore g353 g354 rfl ?_
            refine en_aload rfl rfl ?_
            obtain ⟨r355, e356, h⟩ := gb h
            refine ec_getP (ci := 10) (j := 71) ⟨rfl, rfl, rfl⟩ g300 e356 rfl ?_
            refine en_aload rfl rfl ?_
            refine ec_getI (ci := 10) (j := 65) ⟨rfl, rfl, rfl⟩ g300 rfl ?_
            refine en_iload rfl rfl ?_
            obtain ⟨g357, h⟩ := gd h
            obtain ⟨g358, h⟩ := gd h
            refine ec_iastore g357 g358 rfl ?_
            refine en_aload rfl rfl ?_
            obtain ⟨r359, e360, h⟩ := gb h
            refine ec_getP (ci := 10) (j := 73) ⟨rfl, rfl, rfl⟩ g300 e360 rfl ?_
            refine en_aload rfl rfl ?_
            refine ec_getI (ci := 10) (j := 65) ⟨rfl, rfl, rfl⟩ g300 rfl ?_
            refine en_iload rfl rfl ?_
            refine ec_iconst cst_1 rfl ?_
            rcases gi h with ⟨c361, h⟩ | ⟨c361, h⟩
            · refine en_icmp_ne_t c361 rfl ?_
              refine en_aload rfl rfl ?_
              refine ec_getI (ci := 10) (j := 76) ⟨rfl, rfl, rfl⟩ g300 rfl ?_
              obtain ⟨g362, h⟩ := gd h
              obtain ⟨g363, h⟩ := gd h
              refine ec_iastore g362 g363 rfl ?_
              refine ec_iconst cst_0 rfl ?_
              refine en_istore (l' := [(4, .int (0 : Int32)), (3, .int q301), (0, .ref a0), (1, .int a1), (2, .int a2)]) rfl rfl ?_
              obtain ⟨⟨q364, C366⟩, e365, h⟩ := gb h
              refine en_sub [2, 4, 1, 0] rfl rfl (lt_213_62 n _ _ _ _ _ _ e365 _ _ ?_)
              obtain ⟨u367, u368⟩ := q364
              dsimp only at h ⊢
              refine en_aload rfl rfl ?_
              obtain ⟨g369, h⟩ := gd h
              obtain ⟨r370, e371, h⟩ := gb h
              refine ec_getP (ci := 10) (j := 74) ⟨rfl, rfl, rfl⟩ g369 e371 rfl ?_
              refine en_iload rfl rfl ?_
              refine en_dup2 ⟨rfl, rfl⟩ rfl ?_
              obtain ⟨g372, h⟩ := gd h
              obtain ⟨g373, h⟩ := gd h
              refine ec_iaload g372 g373 rfl ?_
              refine ec_iconst cst_1 rfl ?_
              refine en_iadd rfl ?_
              obtain ⟨g374, h⟩ := gd h
              refine ec_iastore g372 g374 rfl ?_
              refine en_aload rfl rfl ?_
              refine en_dup rfl rfl ?_
              refine ec_getI (ci := 10) (j := 65) ⟨rfl, rfl, rfl⟩ g369 rfl ?_
              refine ec_iconst cst_1 rfl ?_
              refine en_iadd rfl ?_
              refine ec_putI (ci := 10) (j := 65) ⟨rfl, rfl, rfl⟩ g369 rfl ?_
              cases h
              exact en_vret rfl
            · refine en_icmp_ne_f c361 rfl ?_
              refine ec_iconst cst_0 rfl ?_
              refine en_goto rfl ?_
              obtain ⟨g375, h⟩ := gd h
              obtain ⟨g376, h⟩ := gd h
              refine ec_iastore g375 g376 rfl ?_
              refine ec_iconst cst_0 rfl ?_
              refine en_istore (l' := [(4, .int (0 : Int32)), (3, .int q301), (0, .ref a0), (1, .int a1), (2, .int a2)]) rfl rfl ?_
              obtain ⟨⟨q377, C379⟩, e378, h⟩ := gb h
              refine en_sub [2, 4, 1, 0] rfl rfl (lt_213_62 n _ _ _ _ _ _ e378 _ _ ?_)
              obtain ⟨u380, u381⟩ := q377
              dsimp only at h ⊢
              refine en_aload rfl rfl ?_
              obtain ⟨g382, h⟩ := gd h
              obtain ⟨r383, e384, h⟩ := gb h
              refine ec_getP (ci := 10) (j := 74) ⟨rfl, rfl, rfl⟩ g382 e384 rfl ?_
              refine en_iload rfl rfl ?_
              refine en_dup2 ⟨rfl, rfl⟩ rfl ?_
              obtain ⟨g385, h⟩ := gd h
              obtain ⟨g386, h⟩ := gd h
              refine ec_iaload g385 g386 rfl ?_
              refine ec_iconst cst_1 rfl ?_
              refine en_iadd rfl ?_
              obtain ⟨g387, h⟩ := gd h
              refine ec_iastore g385 g387 rfl ?_
              refine en_aload rfl rfl ?_
              refine en_dup rfl rfl ?_
              refine ec_getI (ci := 10) (j := 65) ⟨rfl, rfl, rfl⟩ g382 rfl ?_
              refine ec_iconst cst_1 rfl ?_
              refine en_iadd rfl ?_
              refine ec_putI (ci := 10) (j := 65) ⟨rfl, rfl, rfl⟩ g382 rfl ?_
              cases h
              exact en_vret rfl
        · refine en_if_eq_f c306 rfl ?_
          cases h
          exact en_vret rfl
      · refine en_icmp_ne_f c305 rfl ?_
        refine en_aload rfl rfl ?_
        refine ec_iconst cst_4 rfl ?_
        refine ec_putI (ci := 10) (j := 66) ⟨rfl, rfl, rfl⟩ g300 rfl ?_
        refine en_aload rfl rfl ?_
        refine ec_getI (ci := 10) (j := 66) ⟨rfl, rfl, rfl⟩ g300 rfl ?_
        rcases gi h with ⟨c388, h⟩ | ⟨c388, h⟩
        · refine en_if_eq_t c388 rfl ?_
          refine en_aload rfl rfl ?_
          obtain ⟨r389, e390, h⟩ := gb h
          refine ec_getP (ci := 10) (j := 57) ⟨rfl, rfl, rfl⟩ g300 e390 rfl ?_
          refine en_iload rfl rfl ?_
          refine en_iload rfl rfl ?_
          refine ec_iconst cst_1 rfl ?_
          rcases gi h with ⟨c391, h⟩ | ⟨c391, h⟩
          · refine en_icmp_ne_t c391 rfl ?_
            refine ec_iconst cst_1 rfl ?_
            obtain ⟨g392, h⟩ := gd h
            obtain ⟨g393, h⟩ := gd h
            refine ec_iastore g392 g393 rfl ?_
            refine en_aload rfl rfl ?_
            obtain ⟨r394, e395, h⟩ := gb h
            refine ec_getP (ci := 10) (j := 70) ⟨rfl, rfl, rfl⟩ g300 e395 rfl ?_
            refine en_aload rfl rfl ?_
            refine ec_getI (ci := 10) (j := 65) ⟨rfl, rfl, rfl⟩ g300 rfl ?_
            refine en_iload rfl rfl ?_
            obtain ⟨g396, h⟩ := gd h
            obtain ⟨g397, h⟩ := gd h
            refine ec_iastore g396 g397 rfl ?_
            refine en_aload rfl rfl ?_
            obtain ⟨r398, e399, h⟩ := gb h
            refine ec_getP (ci := 10) (j := 71) ⟨rfl, rfl, rfl⟩ g300 e399 rfl ?_
            refine en_aload rfl rfl ?_
            refine ec_getI (ci := 10) (j := 65) ⟨rfl, rfl, rfl⟩ g300 rfl ?_
            refine en_iload rfl rfl ?_
            obtain ⟨g400, h⟩ := gd h
            obtain ⟨g401, h⟩ := gd h
            refine ec_iastore g400 g401 rfl ?_
            refine en_aload rfl rfl ?_
            obtain ⟨r402, e403, h⟩ := gb h
            refine ec_getP (ci := 10) (j := 73) ⟨rfl, rfl, rfl⟩ g300 e403 rfl ?_
            refine en_aload rfl rfl ?_
            refine ec_getI (ci := 10) (j := 65) ⟨rfl, rfl, rfl⟩ g300 rfl ?_
            refine en_iload rfl rfl ?_
            refine ec_iconst cst_1 rfl ?_
            rcases gi h with ⟨c404, h⟩ | ⟨c404, h⟩
            · refine en_icmp_ne_t c404 rfl ?_
              refine en_aload rfl rfl ?_
              refine ec_getI (ci := 10) (j := 76) ⟨rfl, rfl, rfl⟩ g300 rfl ?_
              obtain ⟨g405, h⟩ := gd h
              obtain ⟨g406, h⟩ := gd h
              refine ec_iastore g405 g406 rfl ?_
              refine ec_iconst cst_0 rfl ?_
              refine en_istore (l' := [(4, .int (0 : Int32)), (3, .int q301), (0, .ref a0), (1, .int a1), (2, .int a2)]) rfl rfl ?_
              obtain ⟨⟨q407, C409⟩, e408, h⟩ := gb h
              refine en_sub [2, 4, 1, 0] rfl rfl (lt_213_62 n _ _ _ _ _ _ e408 _ _ ?_)
              obtain ⟨u410, u411⟩ := q407
              dsimp only at h ⊢
              refine en_aload rfl rfl ?_
              obtain ⟨g412, h⟩ := gd h
              obtain ⟨r413, e414, h⟩ := gb h
              refine ec_getP (ci := 10) (j := 74) ⟨rfl, rfl, rfl⟩ g412 e414 rfl ?_
              refine en_iload rfl rfl ?_
              refine en_dup2 ⟨rfl, rfl⟩ rfl ?_
              obtain ⟨g415, h⟩ := gd h
              obtain ⟨g416, h⟩ := gd h
              refine ec_iaload g415 g416 rfl ?_
              refine ec_iconst cst_1 rfl ?_
              refine en_iadd rfl ?_
              obtain ⟨g417, h⟩ := gd h
              refine ec_iastore g415 g417 rfl ?_
              refine en_aload rfl rfl ?_
              refine en_dup rfl rfl ?_
              refine ec_getI (ci := 10) (j := 65) ⟨rfl, rfl, rfl⟩ g412 rfl ?_
              refine ec_iconst cst_1 rfl ?_
              refine en_iadd rfl ?_
              refine ec_putI (ci := 10) (j := 65) ⟨rfl, rfl, rfl⟩ g412 rfl ?_
              cases h
              exact en_vret rfl
            · refine en_icmp_ne_f c404 rfl ?_
              refine ec_iconst cst_0 rfl ?_
              refine en_goto rfl ?_
              obtain ⟨g418, h⟩ := gd h
              obtain ⟨g419, h⟩ := gd h
              refine ec_iastore g418 g419 rfl ?_
              refine ec_iconst cst_0 rfl ?_
              refine en_istore (l' := [(4, .int (0 : Int32)), (3, .int q301), (0, .ref a0), (1, .int a1), (2, .int a2)]) rfl rfl ?_
              obtain ⟨⟨q420, C422⟩, e421, h⟩ := gb h
              refine en_sub [2, 4, 1, 0] rfl rfl (lt_213_62 n _ _ _ _ _ _ e421 _ _ ?_)
              obtain ⟨u423, u424⟩ := q420
              dsimp only at h ⊢
              refine en_aload rfl rfl ?_
              obtain ⟨g425, h⟩ := gd h
              obtain ⟨r426, e427, h⟩ := gb h
              refine ec_getP (ci := 10) (j := 74) ⟨rfl, rfl, rfl⟩ g425 e427 rfl ?_
              refine en_iload rfl rfl ?_
              refine en_dup2 ⟨rfl, rfl⟩ rfl ?_
              obtain ⟨g428, h⟩ := gd h
              obtain ⟨g429, h⟩ := gd h
              refine ec_iaload g428 g429 rfl ?_
              refine ec_iconst cst_1 rfl ?_
              refine en_iadd rfl ?_
              obtain ⟨g430, h⟩ := gd h
              refine ec_iastore g428 g430 rfl ?_
              refine en_aload rfl rfl ?_
              refine en_dup rfl rfl ?_
              refine ec_getI (ci := 10) (j := 65) ⟨rfl, rfl, rfl⟩ g425 rfl ?_
              refine ec_iconst cst_1 rfl ?_
              refine en_iadd rfl ?_
              refine ec_putI (ci := 10) (j := 65) ⟨rfl, rfl, rfl⟩ g425 rfl ?_
              cases h
              exact en_vret rfl
          · refine en_icmp_ne_f c391 rfl ?_
            refine ec_iconst cst_0 rfl ?_
            refine en_goto rfl ?_
            obtain ⟨g431, h⟩ := gd h
            obtain ⟨g432, h⟩ := gd h
            refine ec_iastore g431 g432 rfl ?_
            refine en_aload rfl rfl ?_
            obtain ⟨r433, e434, h⟩ := gb h
            refine ec_getP (ci := 10) (j := 70) ⟨rfl, rfl, rfl⟩ g300 e434 rfl ?_
            refine en_aload rfl rfl ?_
            refine ec_getI (ci := 10) (j := 65) ⟨rfl, rfl, rfl⟩ g300 rfl ?_
            refine en_iload rfl rfl ?_
            obtain ⟨g435, h⟩ := gd h
            obtain ⟨g436, h⟩ := gd h
            refine ec_iastore g435 g436 rfl ?_
            refine en_aload rfl rfl ?_
            obtain ⟨r437, e438, h⟩ := gb h
            refine ec_getP (ci := 10) (j := 71) ⟨rfl, rfl, rfl⟩ g300 e438 rfl ?_
            refine en_aload rfl rfl ?_
            refine ec_getI (ci := 10) (j := 65) ⟨rfl, rfl, rfl⟩ g300 rfl ?_
            refine en_iload rfl rfl ?_
            obtain ⟨g439, h⟩ := gd h
            obtain ⟨g440, h⟩ := gd h
            refine ec_iastore g439 g440 rfl ?_
            refine en_aload rfl rfl ?_
            obtain ⟨r441, e442, h⟩ := gb h
            refine ec_getP (ci := 10) (j := 73) ⟨rfl, rfl, rfl⟩ g300 e442 rfl ?_
            refine en_aload rfl rfl ?_
            refine ec_getI (ci := 10) (j := 65) ⟨rfl, rfl, rfl⟩ g300 rfl ?_
            refine en_iload rfl rfl ?_
            refine ec_iconst cst_1 rfl ?_
            rcases gi h with ⟨c443, h⟩ | ⟨c443, h⟩
            · refine en_icmp_ne_t c443 rfl ?_
              refine en_aload rfl rfl ?_
              refine ec_getI (ci := 10) (j := 76) ⟨rfl, rfl, rfl⟩ g300 rfl ?_
              obtain ⟨g444, h⟩ := gd h
              obtain ⟨g445, h⟩ := gd h
              refine ec_iastore g444 g445 rfl ?_
              refine ec_iconst cst_0 rfl ?_
              refine en_istore (l' := [(4, .int (0 : Int32)), (3, .int q301), (0, .ref a0), (1, .int a1), (2, .int a2)]) rfl rfl ?_
              obtain ⟨⟨q446, C448⟩, e447, h⟩ := gb h
              refine en_sub [2, 4, 1, 0] rfl rfl (lt_213_62 n _ _ _ _ _ _ e447 _ _ ?_)
              obtain ⟨u449, u450⟩ := q446
              dsimp only at h ⊢
              refine en_aload rfl rfl ?_
              obtain ⟨g451, h⟩ := gd h
              obtain ⟨r452, e453, h⟩ := gb h
              refine ec_getP (ci := 10) (j := 74) ⟨rfl, rfl, rfl⟩ g451 e453 rfl ?_
              refine en_iload rfl rfl ?_
              refine en_dup2 ⟨rfl, rfl⟩ rfl ?_
              obtain ⟨g454, h⟩ := gd h
              obtain ⟨g455, h⟩ := gd h
              refine ec_iaload g454 g455 rfl ?_
              refine ec_iconst cst_1 rfl ?_
              refine en_iadd rfl ?_
              obtain ⟨g456, h⟩ := gd h
              refine ec_iastore g454 g456 rfl ?_
              refine en_aload rfl rfl ?_
              refine en_dup rfl rfl ?_
              refine ec_getI (ci := 10) (j := 65) ⟨rfl, rfl, rfl⟩ g451 rfl ?_
              refine ec_iconst cst_1 rfl ?_
              refine en_iadd rfl ?_
              refine ec_putI (ci := 10) (j := 65) ⟨rfl, rfl, rfl⟩ g451 rfl ?_
              cases h
              exact en_vret rfl
            · refine en_icmp_ne_f c443 rfl ?_
              refine ec_iconst cst_0 rfl ?_
              refine en_goto rfl ?_
              obtain ⟨g457, h⟩ := gd h
              obtain ⟨g458, h⟩ := gd h
              refine ec_iastore g457 g458 rfl ?_
              refine ec_iconst cst_0 rfl ?_
              refine en_istore (l' := [(4, .int (0 : Int32)), (3, .int q301), (0, .ref a0), (1, .int a1), (2, .int a2)]) rfl rfl ?_
              obtain ⟨⟨q459, C461⟩, e460, h⟩ := gb h
              refine en_sub [2, 4, 1, 0] rfl rfl (lt_213_62 n _ _ _ _ _ _ e460 _ _ ?_)
              obtain ⟨u462, u463⟩ := q459
              dsimp only at h ⊢
              refine en_aload rfl rfl ?_
              obtain ⟨g464, h⟩ := gd h
              obtain ⟨r465, e466, h⟩ := gb h
              refine ec_getP (ci := 10) (j := 74) ⟨rfl, rfl, rfl⟩ g464 e466 rfl ?_
              refine en_iload rfl rfl ?_
              refine en_dup2 ⟨rfl, rfl⟩ rfl ?_
              obtain ⟨g467, h⟩ := gd h
              obtain ⟨g468, h⟩ := gd h
              refine ec_iaload g467 g468 rfl ?_
              refine ec_iconst cst_1 rfl ?_
              refine en_iadd rfl ?_
              obtain ⟨g469, h⟩ := gd h
              refine ec_iastore g467 g469 rfl ?_
              refine en_aload rfl rfl ?_
              refine en_dup rfl rfl ?_
              refine ec_getI (ci := 10) (j := 65) ⟨rfl, rfl, rfl⟩ g464 rfl ?_
              refine ec_iconst cst_1 rfl ?_
              refine en_iadd rfl ?_
              refine ec_putI (ci := 10) (j := 65) ⟨rfl, rfl, rfl⟩ g464 rfl ?_
              cases h
              exact en_vret rfl
        · refine en_if_eq_f c388 rfl ?_
          cases h
          exact en_vret rfl
    · refine en_icmp_ne_f c304 rfl ?_
      refine en_aload rfl rfl ?_
      refine ec_iconst cst_3 rfl ?_
      refine ec_putI (ci := 10) (j := 66) ⟨rfl, rfl, rfl⟩ g300 rfl ?_
      refine en_goto rfl ?_
      refine en_aload rfl rfl ?_
      refine ec_getI (ci := 10) (j := 66) ⟨rfl, rfl, rfl⟩ g300 rfl ?_
      rcases gi h with ⟨c470, h⟩ | ⟨c470, h⟩
      · refine en_if_eq_t c470 rfl ?_
        refine en_aload rfl rfl ?_
        obtain ⟨r471, e472, h⟩ := gb h
        refine ec_getP (ci := 10) (j := 57) ⟨rfl, rfl, rfl⟩ g300 e472 rfl ?_
        refine en_iload rfl rfl ?_
        refine en_iload rfl rfl ?_
        refine ec_iconst cst_1 rfl ?_
        rcases gi h with ⟨c473, h⟩ | ⟨c473, h⟩
        · refine en_icmp_ne_t c473 rfl ?_
          refine ec_iconst cst_1 rfl ?_
          obtain ⟨g474, h⟩ := gd h
          obtain ⟨g475, h⟩ := gd h
          refine ec_iastore g474 g475 rfl ?_
          refine en_aload rfl rfl ?_
          obtain ⟨r476, e477, h⟩ := gb h
          refine ec_getP (ci := 10) (j := 70) ⟨rfl, rfl, rfl⟩ g300 e477 rfl ?_
          refine en_aload rfl rfl ?_
          refine ec_getI (ci := 10) (j := 65) ⟨rfl, rfl, rfl⟩ g300 rfl ?_
          refine en_iload rfl rfl ?_
          obtain ⟨g478, h⟩ := gd h
          obtain ⟨g479, h⟩ := gd h
          refine ec_iastore g478 g479 rfl ?_
          refine en_aload rfl rfl ?_
          obtain ⟨r480, e481, h⟩ := gb h
          refine ec_getP (ci := 10) (j := 71) ⟨rfl, rfl, rfl⟩ g300 e481 rfl ?_
          refine en_aload rfl rfl ?_
          refine ec_getI (ci := 10) (j := 65) ⟨rfl, rfl, rfl⟩ g300 rfl ?_
          refine en_iload rfl rfl ?_
          obtain ⟨g482, h⟩ := gd h
          obtain ⟨g483, h⟩ := gd h
          refine ec_iastore g482 g483 rfl ?_
          refine en_aload rfl rfl ?_
          obtain ⟨r484, e485, h⟩ := gb h
          refine ec_getP (ci := 10) (j := 73) ⟨rfl, rfl, rfl⟩ g300 e485 rfl ?_
          refine en_aload rfl rfl ?_
          refine ec_getI (ci := 10) (j := 65) ⟨rfl, rfl, rfl⟩ g300 rfl ?_
          refine en_iload rfl rfl ?_
          refine ec_iconst cst_1 rfl ?_
          rcases gi h with ⟨c486, h⟩ | ⟨c486, h⟩
          · refine en_icmp_ne_t c486 rfl ?_
            refine en_aload rfl rfl ?_
            refine ec_getI (ci := 10) (j := 76) ⟨rfl, rfl, rfl⟩ g300 rfl ?_
            obtain ⟨g487, h⟩ := gd h
            obtain ⟨g488, h⟩ := gd h
            refine ec_iastore g487 g488 rfl ?_
            refine ec_iconst cst_0 rfl ?_
            refine en_istore (l' := [(4, .int (0 : Int32)), (3, .int q301), (0, .ref a0), (1, .int a1), (2, .int a2)]) rfl rfl ?_
            obtain ⟨⟨q489, C491⟩, e490, h⟩ := gb h
            refine en_sub [2, 4, 1, 0] rfl rfl (lt_213_62 n _ _ _ _ _ _ e490 _ _ ?_)
            obtain ⟨u492, u493⟩ := q489
            dsimp only at h ⊢
            refine en_aload rfl rfl ?_
            obtain ⟨g494, h⟩ := gd h
            obtain ⟨r495, e496, h⟩ := gb h
            refine ec_getP (ci := 10) (j := 74) ⟨rfl, rfl, rfl⟩ g494 e496 rfl ?_
            refine en_iload rfl rfl ?_
            refine en_dup2 ⟨rfl, rfl⟩ rfl ?_
            obtain ⟨g497, h⟩ := gd h
            obtain ⟨g498, h⟩ := gd h
            refine ec_iaload g497 g498 rfl ?_
            refine ec_iconst cst_1 rfl ?_
            refine en_iadd rfl ?_
            obtain ⟨g499, h⟩ := gd h
            refine ec_iastore g497 g499 rfl ?_
            refine en_aload rfl rfl ?_
            refine en_dup rfl rfl ?_
            refine ec_getI (ci := 10) (j := 65) ⟨rfl, rfl, rfl⟩ g494 rfl ?_
            refine ec_iconst cst_1 rfl ?_
            refine en_iadd rfl ?_
            refine ec_putI (ci := 10) (j := 65) ⟨rfl, rfl, rfl⟩ g494 rfl ?_
            cases h
            exact en_vret rfl
          · refine en_icmp_ne_f c486 rfl ?_
            refine ec_iconst cst_0 rfl ?_
            refine en_goto rfl ?_
            obtain ⟨g500, h⟩ := gd h
            obtain ⟨g501, h⟩ := gd h
            refine ec_iastore g500 g501 rfl ?_
            refine ec_iconst cst_0 rfl ?_
            refine en_istore (l' := [(4, .int (0 : Int32)), (3, .int q301), (0, .ref a0), (1, .int a1), (2, .int a2)]) rfl rfl ?_
            obtain ⟨⟨q502, C504⟩, e503, h⟩ := gb h
            refine en_sub [2, 4, 1, 0] rfl rfl (lt_213_62 n _ _ _ _ _ _ e503 _ _ ?_)
            obtain ⟨u505, u506⟩ := q502
            dsimp only at h ⊢
            refine en_aload rfl rfl ?_
            obtain ⟨g507, h⟩ := gd h
            obtain ⟨r508, e509, h⟩ := gb h
            refine ec_getP (ci := 10) (j := 74) ⟨rfl, rfl, rfl⟩ g507 e509 rfl ?_
            refine en_iload rfl rfl ?_
            refine en_dup2 ⟨rfl, rfl⟩ rfl ?_
            obtain ⟨g510, h⟩ := gd h
            obtain ⟨g511, h⟩ := gd h
            refine ec_iaload g510 g511 rfl ?_
            refine ec_iconst cst_1 rfl ?_
            refine en_iadd rfl ?_
            obtain ⟨g512, h⟩ := gd h
            refine ec_iastore g510 g512 rfl ?_
            refine en_aload rfl rfl ?_
            refine en_dup rfl rfl ?_
            refine ec_getI (ci := 10) (j := 65) ⟨rfl, rfl, rfl⟩ g507 rfl ?_
            refine ec_iconst cst_1 rfl ?_
            refine en_iadd rfl ?_
            refine ec_putI (ci := 10) (j := 65) ⟨rfl, rfl, rfl⟩ g507 rfl ?_
            cases h
            exact en_vret rfl
        · refine en_icmp_ne_f c473 rfl ?_
          refine ec_iconst cst_0 rfl ?_
          refine en_goto rfl ?_
          obtain ⟨g513, h⟩ := gd h
          obtain ⟨g514, h⟩ := gd h
          refine ec_iastore g513 g514 rfl ?_
          refine en_aload rfl rfl ?_
          obtain ⟨r515, e516, h⟩ := gb h
          refine ec_getP (ci := 10) (j := 70) ⟨rfl, rfl, rfl⟩ g300 e516 rfl ?_
          refine en_aload rfl rfl ?_
          refine ec_getI (ci := 10) (j := 65) ⟨rfl, rfl, rfl⟩ g300 rfl ?_
          refine en_iload rfl rfl ?_
          obtain ⟨g517, h⟩ := gd h
          obtain ⟨g518, h⟩ := gd h
          refine ec_iastore g517 g518 rfl ?_
          refine en_aload rfl rfl ?_
          obtain ⟨r519, e520, h⟩ := gb h
          refine ec_getP (ci := 10) (j := 71) ⟨rfl, rfl, rfl⟩ g300 e520 rfl ?_
          refine en_aload rfl rfl ?_
          refine ec_getI (ci := 10) (j := 65) ⟨rfl, rfl, rfl⟩ g300 rfl ?_
          refine en_iload rfl rfl ?_
          obtain ⟨g521, h⟩ := gd h
          obtain ⟨g522, h⟩ := gd h
          refine ec_iastore g521 g522 rfl ?_
          refine en_aload rfl rfl ?_
          obtain ⟨r523, e524, h⟩ := gb h
          refine ec_getP (ci := 10) (j := 73) ⟨rfl, rfl, rfl⟩ g300 e524 rfl ?_
          refine en_aload rfl rfl ?_
          refine ec_getI (ci := 10) (j := 65) ⟨rfl, rfl, rfl⟩ g300 rfl ?_
          refine en_iload rfl rfl ?_
          refine ec_iconst cst_1 rfl ?_
          rcases gi h with ⟨c525, h⟩ | ⟨c525, h⟩
          · refine en_icmp_ne_t c525 rfl ?_
            refine en_aload rfl rfl ?_
            refine ec_getI (ci := 10) (j := 76) ⟨rfl, rfl, rfl⟩ g300 rfl ?_
            obtain ⟨g526, h⟩ := gd h
            obtain ⟨g527, h⟩ := gd h
            refine ec_iastore g526 g527 rfl ?_
            refine ec_iconst cst_0 rfl ?_
            refine en_istore (l' := [(4, .int (0 : Int32)), (3, .int q301), (0, .ref a0), (1, .int a1), (2, .int a2)]) rfl rfl ?_
            obtain ⟨⟨q528, C530⟩, e529, h⟩ := gb h
            refine en_sub [2, 4, 1, 0] rfl rfl (lt_213_62 n _ _ _ _ _ _ e529 _ _ ?_)
            obtain ⟨u531, u532⟩ := q528
            dsimp only at h ⊢
            refine en_aload rfl rfl ?_
            obtain ⟨g533, h⟩ := gd h
            obtain ⟨r534, e535, h⟩ := gb h
            refine ec_getP (ci := 10) (j := 74) ⟨rfl, rfl, rfl⟩ g533 e535 rfl ?_
            refine en_iload rfl rfl ?_
            refine en_dup2 ⟨rfl, rfl⟩ rfl ?_
            obtain ⟨g536, h⟩ := gd h
            obtain ⟨g537, h⟩ := gd h
            refine ec_iaload g536 g537 rfl ?_
            refine ec_iconst cst_1 rfl ?_
            refine en_iadd rfl ?_
            obtain ⟨g538, h⟩ := gd h
            refine ec_iastore g536 g538 rfl ?_
            refine en_aload rfl rfl ?_
            refine en_dup rfl rfl ?_
            refine ec_getI (ci := 10) (j := 65) ⟨rfl, rfl, rfl⟩ g533 rfl ?_
            refine ec_iconst cst_1 rfl ?_
            refine en_iadd rfl ?_
            refine ec_putI (ci := 10) (j := 65) ⟨rfl, rfl, rfl⟩ g533 rfl ?_
            cases h
            exact en_vret rfl
          · refine en_icmp_ne_f c525 rfl ?_
            refine ec_iconst cst_0 rfl ?_
            refine en_goto rfl ?_
            obtain ⟨g539, h⟩ := gd h
            obtain ⟨g540, h⟩ := gd h
            refine ec_iastore g539 g540 rfl ?_
            refine ec_iconst cst_0 rfl ?_
            refine en_istore (l' := [(4, .int (0 : Int32)), (3, .int q301), (0, .ref a0), (1, .int a1), (2, .int a2)]) rfl rfl ?_
            obtain ⟨⟨q541, C543⟩, e542, h⟩ := gb h
            refine en_sub [2, 4, 1, 0] rfl rfl (lt_213_62 n _ _ _ _ _ _ e542 _ _ ?_)
            obtain ⟨u544, u545⟩ := q541
            dsimp only at h ⊢
            refine en_aload rfl rfl ?_
            obtain ⟨g546, h⟩ := gd h
            obtain ⟨r547, e548, h⟩ := gb h
            refine ec_getP (ci := 10) (j := 74) ⟨rfl, rfl, rfl⟩ g546 e548 rfl ?_
            refine en_iload rfl rfl ?_
            refine en_dup2 ⟨rfl, rfl⟩ rfl ?_
            obtain ⟨g549, h⟩ := gd h
            obtain ⟨g550, h⟩ := gd h
            refine ec_iaload g549 g550 rfl ?_
            refine ec_iconst cst_1 rfl ?_
            refine en_iadd rfl ?_
            obtain ⟨g551, h⟩ := gd h
            refine ec_iastore g549 g551 rfl ?_
            refine en_aload rfl rfl ?_
            refine en_dup rfl rfl ?_
            refine ec_getI (ci := 10) (j := 65) ⟨rfl, rfl, rfl⟩ g546 rfl ?_
            refine ec_iconst cst_1 rfl ?_
            refine en_iadd rfl ?_
            refine ec_putI (ci := 10) (j := 65) ⟨rfl, rfl, rfl⟩ g546 rfl ?_
            cases h
            exact en_vret rfl
      · refine en_if_eq_f c470 rfl ?_
        cases h
        exact en_vret rfl
/-- BulkWriterModel.isNewOne(I)Z -/
def f_214 (n : Nat) (a0 : Nat) (a1 : Int32) (C : AmC) : Option (Int32 × AmC) := if isK a0 10 = true then (cP C a0 32).bind (fun r2 => if isK r2 12 = true then if amIn (cI C a0 59) (aLen r2) = true then (if (cI C r2 (Int32.toNatClampNeg (cI C a0 59))) = (2 : Int32) then some ((1 : Int32), C) else (if ¬ a1 = (-1 : Int32) then some ((0 : Int32), C) else some ((1 : Int32), C))) else none else none) else none
set_option maxRecDepth 20000 in
set_option maxHeartbeats 4000000 in
theorem t_214 {n : Nat} {a0 : Nat} {a1 : Int32} {C : AmC} {r : Int32} {C' : AmC} (h : f_214 n a0 a1 C = some (r, C')) : En false 214 0 [(0, .ref a0), (1, .int a1)] [] (mkM C) (.inl (some (.int r))) (mkM C') := by
  unfold f_214 at h
  refine en_aload rfl rfl ?_
  obtain ⟨g1, h⟩ := gd h
  obtain ⟨r2, e3, h⟩ := gb h
  refine ec_getP (ci := 10) (j := 32) ⟨rfl, rfl, rfl⟩ g1 e3 rfl ?_
  refine en_aload rfl rfl ?_
  refine ec_getI (ci := 10) (j := 59) ⟨rfl, rfl, rfl⟩ g1 rfl ?_
  obtain ⟨g4, h⟩ := gd h
  obtain ⟨g5, h⟩ := gd h
  refine ec_iaload g4 g5 rfl ?_
  refine ec_iconst cst_2 rfl ?_
  rcases gi h with ⟨c6, h⟩ | ⟨c6, h⟩
  · refine en_icmp_eq_t c6 rfl ?_
    refine ec_iconst cst_1 rfl ?_
    refine en_goto rfl ?_
    cases h
    exact en_zret (Or.inr rfl) rfl
  · refine en_icmp_eq_f c6 rfl ?_
    refine en_iload rfl rfl ?_
    refine ec_iconst cst_m1 rfl ?_
    rcases gi h with ⟨c7, h⟩ | ⟨c7, h⟩
    · refine en_icmp_ne_t c7 rfl ?_
      refine ec_iconst cst_0 rfl ?_
      cases h
      exact en_zret (Or.inl rfl) rfl
    · refine en_icmp_ne_f c7 rfl ?_
      refine ec_iconst cst_1 rfl ?_
      refine en_goto rfl ?_
      cases h
      exact en_zret (Or.inr rfl) rfl
/-- BulkWriterModel.isGoneBy(I)Z -/
def f_215 (n : Nat) (a0 : Nat) (a1 : Int32) (C : AmC) : Option (Int32 × AmC) := if isK a0 10 = true then (cP C a0 32).bind (fun r2 => if isK r2 12 = true then if amIn (cI C a0 59) (aLen r2) = true then (if (cI C r2 (Int32.toNatClampNeg (cI C a0 59))) = (1 : Int32) then some ((1 : Int32), C) else (cP C a0 32).bind (fun r7 => if isK r7 12 = true then if amIn (cI C a0 59) (aLen r7) = true then (if ¬ (cI C r7 (Int32.toNatClampNeg (cI C a0 59))) = (3 : Int32) then some ((0 : Int32), C) else (if a1 = (-1 : Int32) then some ((0 : Int32), C) else (cP C a0 33).bind (fun r13 => if isK r13 12 = true then if amIn (cI C a0 59) (aLen r13) = true then (if ¬ (cI C r13 (Int32.toNatClampNeg (cI C a0 59))) = (1 : Int32) then some ((0 : Int32), C) else some ((1 : Int32), C)) else none else none))) else none else none)) else none else none) else none
set_option maxRecDepth 20000 in
set_option maxHeartbeats 4000000 in
theorem t_215 {n : Nat} {a0 : Nat} {a1 : Int32} {C : AmC} {r : Int32} {C' : AmC} (h : f_215 n a0 a1 C = some (r, C')) : En false 215 0 [(0, .ref a0), (1, .int a1)] [] (mkM C) (.inl (some (.int r))) (mkM C') := by
  unfold f_215 at h
  refine en_aload rfl rfl ?_
  obtain ⟨g1, h⟩ := gd h
  obtain ⟨r2, e3, h⟩ := gb h
  refine ec_getP (ci := 10) (j := 32) ⟨rfl, rfl, rfl⟩ g1 e3 rfl ?_
  refine en_aload rfl rfl ?_
  refine ec_getI (ci := 10) (j := 59) ⟨rfl, rfl, rfl⟩ g1 rfl ?_
  obtain ⟨g4, h⟩ := gd h
  obtain ⟨g5, h⟩ := gd h
  refine ec_iaload g4 g5 rfl ?_
  refine ec_iconst cst_1 rfl ?_
  rcases gi h with ⟨c6, h⟩ | ⟨c6, h⟩
  · refine en_icmp_eq_t c6 rfl ?_
    refine ec_iconst cst_1 rfl ?_
    refine en_goto rfl ?_
    cases h
    exact en_zret (Or.inr rfl) rfl
  · refine en_icmp_eq_f c6 rfl ?_
    refine en_aload rfl rfl ?_
    obtain ⟨r7, e8, h⟩ := gb h
    refine ec_getP (ci := 10) (j := 32) ⟨rfl, rfl, rfl⟩ g1 e8 rfl ?_
    refine en_aload rfl rfl ?_
    refine ec_getI (ci := 10) (j := 59) ⟨rfl, rfl, rfl⟩ g1 rfl ?_
    obtain ⟨g9, h⟩ := gd h
    obtain ⟨g10, h⟩ := gd h
    refine ec_iaload g9 g10 rfl ?_
    refine ec_iconst cst_3 rfl ?_
    rcases gi h with ⟨c11, h⟩ | ⟨c11, h⟩
    · refine en_icmp_ne_t c11 rfl ?_
      refine ec_iconst cst_0 rfl ?_
      cases h
      exact en_zret (Or.inl rfl) rfl
    · refine en_icmp_ne_f c11 rfl ?_
      refine en_iload rfl rfl ?_
      refine ec_iconst cst_m1 rfl ?_
      rcases gi h with ⟨c12, h⟩ | ⟨c12, h⟩
      · refine en_icmp_eq_t c12 rfl ?_
        refine ec_iconst cst_0 rfl ?_
        cases h
        exact en_zret (Or.inl rfl) rfl
      · refine en_icmp_eq_f c12 rfl ?_
        refine en_aload rfl rfl ?_
        obtain ⟨r13, e14, h⟩ := gb h
        refine ec_getP (ci := 10) (j := 33) ⟨rfl, rfl, rfl⟩ g1 e14 rfl ?_
        refine en_aload rfl rfl ?_
        refine ec_getI (ci := 10) (j := 59) ⟨rfl, rfl, rfl⟩ g1 rfl ?_
        obtain ⟨g15, h⟩ := gd h
        obtain ⟨g16, h⟩ := gd h
        refine ec_iaload g15 g16 rfl ?_
        refine ec_iconst cst_1 rfl ?_
        rcases gi h with ⟨c17, h⟩ | ⟨c17, h⟩
        · refine en_icmp_ne_t c17 rfl ?_
          refine ec_iconst cst_0 rfl ?_
          cases h
          exact en_zret (Or.inl rfl) rfl
        · refine en_icmp_ne_f c17 rfl ?_
          refine ec_iconst cst_1 rfl ?_
          refine en_goto rfl ?_
          cases h
          exact en_zret (Or.inr rfl) rfl
/-- BulkWriterModel.isKept(I)Z -/
def f_216 (n : Nat) (a0 : Nat) (a1 : Int32) (C : AmC) : Option (Int32 × AmC) := if isK a0 10 = true then (cP C a0 32).bind (fun r2 => if isK r2 12 = true then if amIn (cI C a0 59) (aLen r2) = true then (if ¬ (cI C r2 (Int32.toNatClampNeg (cI C a0 59))) = (3 : Int32) then some ((0 : Int32), C) else (if a1 = (-1 : Int32) then some ((0 : Int32), C) else (cP C a0 33).bind (fun r8 => if isK r8 12 = true then if amIn (cI C a0 59) (aLen r8) = true then (if ¬ (cI C r8 (Int32.toNatClampNeg (cI C a0 59))) = (2 : Int32) then some ((0 : Int32), C) else some ((1 : Int32), C)) else none else none))) else none else none) else none
set_option maxRecDepth 20000 in
set_option maxHeartbeats 4000000 in
theorem t_216 {n : Nat} {a0 : Nat} {a1 : Int32} {C : AmC} {r : Int32} {C' : AmC} (h : f_216 n a0 a1 C = some (r, C')) : En false 216 0 [(0, .ref a0), (1, .int a1)] [] (mkM C) (.inl (some (.int r))) (mkM C') := by
  unfold f_216 at h
  refine en_aload rfl rfl ?_
  obtain ⟨g1, h⟩ := gd h
  obtain ⟨r2, e3, h⟩ := gb h
  refine ec_getP (ci := 10) (j := 32) ⟨rfl, rfl, rfl⟩ g1 e3 rfl ?_
  refine en_aload rfl rfl ?_
  refine ec_getI (ci := 10) (j := 59) ⟨rfl, rfl, rfl⟩ g1 rfl ?_
  obtain ⟨g4, h⟩ := gd h
  obtain ⟨g5, h⟩ := gd h
  refine ec_iaload g4 g5 rfl ?_
  refine ec_iconst cst_3 rfl ?_
  rcases gi h with ⟨c6, h⟩ | ⟨c6, h⟩
  · refine en_icmp_ne_t c6 rfl ?_
    refine ec_iconst cst_0 rfl ?_
    cases h
    exact en_zret (Or.inl rfl) rfl
  · refine en_icmp_ne_f c6 rfl ?_
    refine en_iload rfl rfl ?_
    refine ec_iconst cst_m1 rfl ?_
    rcases gi h with ⟨c7, h⟩ | ⟨c7, h⟩
    · refine en_icmp_eq_t c7 rfl ?_
      refine ec_iconst cst_0 rfl ?_
      cases h
      exact en_zret (Or.inl rfl) rfl
    · refine en_icmp_eq_f c7 rfl ?_
      refine en_aload rfl rfl ?_
      obtain ⟨r8, e9, h⟩ := gb h
      refine ec_getP (ci := 10) (j := 33) ⟨rfl, rfl, rfl⟩ g1 e9 rfl ?_
      refine en_aload rfl rfl ?_
      refine ec_getI (ci := 10) (j := 59) ⟨rfl, rfl, rfl⟩ g1 rfl ?_
      obtain ⟨g10, h⟩ := gd h
      obtain ⟨g11, h⟩ := gd h
      refine ec_iaload g10 g11 rfl ?_
      refine ec_iconst cst_2 rfl ?_
      rcases gi h with ⟨c12, h⟩ | ⟨c12, h⟩
      · refine en_icmp_ne_t c12 rfl ?_
        refine ec_iconst cst_0 rfl ?_
        cases h
        exact en_zret (Or.inl rfl) rfl
      · refine en_icmp_ne_f c12 rfl ?_
        refine ec_iconst cst_1 rfl ?_
        refine en_goto rfl ?_
        cases h
        exact en_zret (Or.inr rfl) rfl
/-- BulkWriterModel.makesOf(II)V -/
def f_217 (n : Nat) (a0 : Nat) (a1 : Int32) (a2 : Int32) (C : AmC) : Option (Unit × AmC) := if isK a0 10 = true then (f_215 n a0 a1 C).bind (fun z => match z with | (q2, C3) => (if ¬ q2 = 0 then some ((), uI C3 a0 76 (0 : Int32)) else (f_216 n a0 a1 C3).bind (fun z => match z with | (q6, C7) => (if q6 = 0 then (f_214 n a0 a1 C7).bind (fun z => match z with | (q10, C11) => (f_211 n a0 a1 a2 q10 C11).bind (fun z => match z with | (_, C14) => some ((), C14))) else some ((), uI C7 a0 76 (0 : Int32)))))) else none
set_option maxRecDepth 20000 in
set_option maxHeartbeats 4000000 in
theorem t_217 {n : Nat} {a0 : Nat} {a1 : Int32} {a2 : Int32} {C : AmC} {r : Unit} {C' : AmC} (h : f_217 n a0 a1 a2 C = some (r, C')) : En false 217 0 [(0, .ref a0), (1, .int a1), (2, .int a2)] [] (mkM C) (.inl none) (mkM C') := by
  unfold f_217 at h
  refine en_aload rfl rfl ?_
  refine en_iload rfl rfl ?_
  obtain ⟨g1, h⟩ := gd h
  obtain ⟨⟨q2, C3⟩, e4, h⟩ := gb h
  dsimp only at h
  refine ec_callV1 (k' := 215) (n := 2) (rc := 10) (a := a0) (as := [.int a1]) ⟨rfl, rfl⟩ rfl rfl (Nat.le_of_ble_eq_true rfl) (Nat.le_of_ble_eq_true rfl) (Nat.le_of_ble_eq_true rfl) g1 rfl (t_215 e4) ?_
  rcases gi h with ⟨c5, h⟩ | ⟨c5, h⟩
  · refine en_if_ne_t c5 rfl ?_
    refine en_aload rfl rfl ?_
    refine ec_iconst cst_0 rfl ?_
    refine ec_putI (ci := 10) (j := 76) ⟨rfl, rfl, rfl⟩ g1 rfl ?_
    refine en_goto rfl ?_
    cases h
    exact en_vret rfl
  · refine en_if_ne_f c5 rfl ?_
    refine en_aload rfl rfl ?_
    refine en_iload rfl rfl ?_
    obtain ⟨⟨q6, C7⟩, e8, h⟩ := gb h
    dsimp only at h
    refine ec_callV1 (k' := 216) (n := 2) (rc := 10) (a := a0) (as := [.int a1]) ⟨rfl, rfl⟩ rfl rfl (Nat.le_of_ble_eq_true rfl) (Nat.le_of_ble_eq_true rfl) (Nat.le_of_ble_eq_true rfl) g1 rfl (t_216 e8) ?_
    rcases gi h with ⟨c9, h⟩ | ⟨c9, h⟩
    · refine en_if_eq_t c9 rfl ?_
      refine en_aload rfl rfl ?_
      refine en_iload rfl rfl ?_
      refine en_iload rfl rfl ?_
      refine en_aload rfl rfl ?_
      refine en_iload rfl rfl ?_
      obtain ⟨⟨q10, C11⟩, e12, h⟩ := gb h
      dsimp only at h
      refine ec_callV1 (k' := 214) (n := 2) (rc := 10) (a := a0) (as := [.int a1]) ⟨rfl, rfl⟩ rfl rfl (Nat.le_of_ble_eq_true rfl) (Nat.le_of_ble_eq_true rfl) (Nat.le_of_ble_eq_true rfl) g1 rfl (t_214 e12) ?_
      obtain ⟨⟨q13, C14⟩, e15, h⟩ := gb h
      dsimp only at h
      refine ec_callV0 (k' := 211) (n := 4) (rc := 10) (a := a0) (as := [.int a1, .int a2, .int q10]) ⟨rfl, rfl⟩ rfl rfl (Nat.le_of_ble_eq_true rfl) (Nat.le_of_ble_eq_true rfl) (Nat.le_of_ble_eq_true rfl) g1 rfl (t_211 e15) ?_
      cases h
      exact en_vret rfl
    · refine en_if_eq_f c9 rfl ?_
      refine en_aload rfl rfl ?_
      refine ec_iconst cst_0 rfl ?_
      refine ec_putI (ci := 10) (j := 76) ⟨rfl, rfl, rfl⟩ g1 rfl ?_
      refine en_goto rfl ?_
      cases h
      exact en_vret rfl
/-- BulkWriterModel.writesOf(I)V -/
def f_218 (n : Nat) (a0 : Nat) (a1 : Int32) (C : AmC) : Option (Unit × AmC) := if isK a0 10 = true then (if ¬ (cI C a0 66) = 0 then some ((), C) else (f_216 n a0 a1 C).bind (fun z => match z with | (q3, C4) => (if ¬ q3 = 0 then some ((), C4) else (f_215 n a0 a1 C4).bind (fun z => match z with | (q7, C8) => (if q7 = 0 then (f_214 n a0 a1 C8).bind (fun z => match z with | (q11, C12) => (if q11 = 0 then (f_213 n a0 a1 (0 : Int32) C12).bind (fun z => match z with | (_, C16) => some ((), C16)) else (f_213 n a0 a1 (2 : Int32) C12).bind (fun z => match z with | (_, C19) => some ((), C19)))) else (f_213 n a0 a1 (1 : Int32) C8).bind (fun z => match z with | (_, C22) => some ((), C22))))))) else none
set_option maxRecDepth 20000 in
set_option maxHeartbeats 4000000 in
theorem t_218 {n : Nat} {a0 : Nat} {a1 : Int32} {C : AmC} {r : Unit} {C' : AmC} (h : f_218 n a0 a1 C = some (r, C')) : En false 218 0 [(0, .ref a0), (1, .int a1)] [] (mkM C) (.inl none) (mkM C') := by
  unfold f_218 at h
  refine en_aload rfl rfl ?_
  obtain ⟨g1, h⟩ := gd h
  refine ec_getI (ci := 10) (j := 66) ⟨rfl, rfl, rfl⟩ g1 rfl ?_
  rcases gi h with ⟨c2, h⟩ | ⟨c2, h⟩
  · refine en_if_ne_t c2 rfl ?_
    cases h
    exact en_vret rfl
  · refine en_if_ne_f c2 rfl ?_
    refine en_aload rfl rfl ?_
    refine en_iload rfl rfl ?_
    obtain ⟨⟨q3, C4⟩, e5, h⟩ := gb h
    dsimp only at h
    refine ec_callV1 (k' := 216) (n := 2) (rc := 10) (a := a0) (as := [.int a1]) ⟨rfl, rfl⟩ rfl rfl (Nat.le_of_ble_eq_true rfl) (Nat.le_of_ble_eq_true rfl) (Nat.le_of_ble_eq_true rfl) g1 rfl (t_216 e5) ?_
    rcases gi h with ⟨c6, h⟩ | ⟨c6, h⟩
    · refine en_if_ne_t c6 rfl ?_
      cases h
      exact en_vret rfl
    · refine en_if_ne_f c6 rfl ?_
      refine en_aload rfl rfl ?_
      refine en_iload rfl rfl ?_
      refine en_aload rfl rfl ?_
      refine en_iload rfl rfl ?_
      obtain ⟨⟨q7, C8⟩, e9, h⟩ := gb h
      dsimp only at h
      refine ec_callV1 (k' := 215) (n := 2) (rc := 10) (a := a0) (as := [.int a1]) ⟨rfl, rfl⟩ rfl rfl (Nat.le_of_ble_eq_true rfl) (Nat.le_of_ble_eq_true rfl) (Nat.le_of_ble_eq_true rfl) g1 rfl (t_215 e9) ?_
      rcases gi h with ⟨c10, h⟩ | ⟨c10, h⟩
      · refine en_if_eq_t c10 rfl ?_
        refine en_aload rfl rfl ?_
        refine en_iload rfl rfl ?_
        obtain ⟨⟨q11, C12⟩, e13, h⟩ := gb h
        dsimp only at h
        refine ec_callV1 (k' := 214) (n := 2) (rc := 10) (a := a0) (as := [.int a1]) ⟨rfl, rfl⟩ rfl rfl (Nat.le_of_ble_eq_true rfl) (Nat.le_of_ble_eq_true rfl) (Nat.le_of_ble_eq_true rfl) g1 rfl (t_214 e13) ?_
        rcases gi h with ⟨c14, h⟩ | ⟨c14, h⟩
        · refine en_if_eq_t c14 rfl ?_
          refine ec_iconst cst_0 rfl ?_
          obtain ⟨⟨q15, C16⟩, e17, h⟩ := gb h
          dsimp only at h
          refine ec_callV0 (k' := 213) (n := 3) (rc := 10) (a := a0) (as := [.int a1, .int (0 : Int32)]) ⟨rfl, rfl⟩ rfl rfl (Nat.le_of_ble_eq_true rfl) (Nat.le_of_ble_eq_true rfl) (Nat.le_of_ble_eq_true rfl) g1 rfl (t_213 e17) ?_
          cases h
          exact en_vret rfl
        · refine en_if_eq_f c14 rfl ?_
          refine ec_iconst cst_2 rfl ?_
          refine en_goto rfl ?_
          obtain ⟨⟨q18, C19⟩, e20, h⟩ := gb h
          dsimp only at h
          refine ec_callV0 (k' := 213) (n := 3) (rc := 10) (a := a0) (as := [.int a1, .int (2 : Int32)]) ⟨rfl, rfl⟩ rfl rfl (Nat.le_of_ble_eq_true rfl) (Nat.le_of_ble_eq_true rfl) (Nat.le_of_ble_eq_true rfl) g1 rfl (t_213 e20) ?_
          cases h
          exact en_vret rfl
      · refine en_if_eq_f c10 rfl ?_
        refine ec_iconst cst_1 rfl ?_
        refine en_goto rfl ?_
        obtain ⟨⟨q21, C22⟩, e23, h⟩ := gb h
        dsimp only at h
        refine ec_callV0 (k' := 213) (n := 3) (rc := 10) (a := a0) (as := [.int a1, .int (1 : Int32)]) ⟨rfl, rfl⟩ rfl rfl (Nat.le_of_ble_eq_true rfl) (Nat.le_of_ble_eq_true rfl) (Nat.le_of_ble_eq_true rfl) g1 rfl (t_213 e23) ?_
        cases h
        exact en_vret rfl
