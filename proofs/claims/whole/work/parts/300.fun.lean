/-- BulkWriter$Script.indexOf(I)I -/
def f_88 (n : Nat) (a0 : Int32) (C : AmC) : Option (Int32 × AmC) := (if a0 ≤ 0 then some ((-1 : Int32), C) else some (((a0 - (1 : Int32)) / (2 : Int32)), C))
set_option maxRecDepth 20000 in
set_option maxHeartbeats 4000000 in
theorem t_88 {n : Nat} {a0 : Int32} {C : AmC} {r : Int32} {C' : AmC} (h : f_88 n a0 C = some (r, C')) : En false 88 0 [(0, .int a0)] [] (mkM C) (.inl (some (.int r))) (mkM C') := by
  unfold f_88 at h
  refine en_iload rfl rfl ?_
  rcases gi h with ⟨c1, h⟩ | ⟨c1, h⟩
  · refine en_if_le_t c1 rfl ?_
    refine ec_iconst cst_m1 rfl ?_
    cases h
    exact en_iret rfl
  · refine en_if_le_f c1 rfl ?_
    refine en_iload rfl rfl ?_
    refine ec_iconst cst_1 rfl ?_
    refine en_isub rfl ?_
    refine ec_iconst cst_2 rfl ?_
    refine en_idiv (by decide) rfl ?_
    refine en_goto rfl ?_
    cases h
    exact en_iret rfl
/-- BulkWriter$Script.firstColumn(I)I -/
def f_93 (n : Nat) (a0 : Nat) (a1 : Int32) (C : AmC) : Option (Int32 × AmC) := (if a1 < 0 then some ((-1 : Int32), C) else if isK a0 6 = true then (if (cI C a0 2) ≤ a1 then some ((-1 : Int32), C) else (if (3 : Int32) ≤ a1 then some ((-1 : Int32), C) else (cP C a0 3).bind (fun r5 => if isK r5 12 = true then if amIn a1 (aLen r5) = true then some ((cI C r5 (Int32.toNatClampNeg a1)), C) else none else none))) else none)
set_option maxRecDepth 20000 in
set_option maxHeartbeats 4000000 in
theorem t_93 {n : Nat} {a0 : Nat} {a1 : Int32} {C : AmC} {r : Int32} {C' : AmC} (h : f_93 n a0 a1 C = some (r, C')) : En false 93 0 [(0, .ref a0), (1, .int a1)] [] (mkM C) (.inl (some (.int r))) (mkM C') := by
  unfold f_93 at h
  refine en_iload rfl rfl ?_
  rcases gi h with ⟨c1, h⟩ | ⟨c1, h⟩
  · refine en_if_lt_t c1 rfl ?_
    refine ec_iconst cst_m1 rfl ?_
    cases h
    exact en_iret rfl
  · refine en_if_lt_f c1 rfl ?_
    refine en_iload rfl rfl ?_
    refine en_aload rfl rfl ?_
    obtain ⟨g2, h⟩ := gd h
    refine ec_getI (ci := 6) (j := 2) ⟨rfl, rfl, rfl⟩ g2 rfl ?_
    rcases gi h with ⟨c3, h⟩ | ⟨c3, h⟩
    · refine en_icmp_ge_t c3 rfl ?_
      refine ec_iconst cst_m1 rfl ?_
      cases h
      exact en_iret rfl
    · refine en_icmp_ge_f c3 rfl ?_
      refine en_iload rfl rfl ?_
      refine ec_iconst cst_3 rfl ?_
      rcases gi h with ⟨c4, h⟩ | ⟨c4, h⟩
      · refine en_icmp_ge_t c4 rfl ?_
        refine ec_iconst cst_m1 rfl ?_
        cases h
        exact en_iret rfl
      · refine en_icmp_ge_f c4 rfl ?_
        refine en_aload rfl rfl ?_
        obtain ⟨r5, e6, h⟩ := gb h
        refine ec_getP (ci := 6) (j := 3) ⟨rfl, rfl, rfl⟩ g2 e6 rfl ?_
        refine en_iload rfl rfl ?_
        obtain ⟨g7, h⟩ := gd h
        obtain ⟨g8, h⟩ := gd h
        refine ec_iaload g7 g8 rfl ?_
        refine en_goto rfl ?_
        cases h
        exact en_iret rfl
/-- BulkWriter$Script.secondColumn(I)I -/
def f_94 (n : Nat) (a0 : Nat) (a1 : Int32) (C : AmC) : Option (Int32 × AmC) := (if a1 < 0 then some ((-1 : Int32), C) else if isK a0 6 = true then (if (cI C a0 2) ≤ a1 then some ((-1 : Int32), C) else (if (3 : Int32) ≤ a1 then some ((-1 : Int32), C) else (cP C a0 4).bind (fun r5 => if isK r5 12 = true then if amIn a1 (aLen r5) = true then some ((cI C r5 (Int32.toNatClampNeg a1)), C) else none else none))) else none)
set_option maxRecDepth 20000 in
set_option maxHeartbeats 4000000 in
theorem t_94 {n : Nat} {a0 : Nat} {a1 : Int32} {C : AmC} {r : Int32} {C' : AmC} (h : f_94 n a0 a1 C = some (r, C')) : En false 94 0 [(0, .ref a0), (1, .int a1)] [] (mkM C) (.inl (some (.int r))) (mkM C') := by
  unfold f_94 at h
  refine en_iload rfl rfl ?_
  rcases gi h with ⟨c1, h⟩ | ⟨c1, h⟩
  · refine en_if_lt_t c1 rfl ?_
    refine ec_iconst cst_m1 rfl ?_
    cases h
    exact en_iret rfl
  · refine en_if_lt_f c1 rfl ?_
    refine en_iload rfl rfl ?_
    refine en_aload rfl rfl ?_
    obtain ⟨g2, h⟩ := gd h
    refine ec_getI (ci := 6) (j := 2) ⟨rfl, rfl, rfl⟩ g2 rfl ?_
    rcases gi h with ⟨c3, h⟩ | ⟨c3, h⟩
    · refine en_icmp_ge_t c3 rfl ?_
      refine ec_iconst cst_m1 rfl ?_
      cases h
      exact en_iret rfl
    · refine en_icmp_ge_f c3 rfl ?_
      refine en_iload rfl rfl ?_
      refine ec_iconst cst_3 rfl ?_
      rcases gi h with ⟨c4, h⟩ | ⟨c4, h⟩
      · refine en_icmp_ge_t c4 rfl ?_
        refine ec_iconst cst_m1 rfl ?_
        cases h
        exact en_iret rfl
      · refine en_icmp_ge_f c4 rfl ?_
        refine en_aload rfl rfl ?_
        obtain ⟨r5, e6, h⟩ := gb h
        refine ec_getP (ci := 6) (j := 4) ⟨rfl, rfl, rfl⟩ g2 e6 rfl ?_
        refine en_iload rfl rfl ?_
        obtain ⟨g7, h⟩ := gd h
        obtain ⟨g8, h⟩ := gd h
        refine ec_iaload g7 g8 rfl ?_
        refine en_goto rfl ?_
        cases h
        exact en_iret rfl
/-- BulkWriter$Script.goesDown(I)Z -/
def f_89 (n : Nat) (a0 : Int32) (C : AmC) : Option (Int32 × AmC) := (if a0 ≤ 0 then some ((0 : Int32), C) else (if ¬ (a0 - a0 / (2 : Int32) * (2 : Int32)) = 0 then some ((0 : Int32), C) else some ((1 : Int32), C)))
set_option maxRecDepth 20000 in
set_option maxHeartbeats 4000000 in
theorem t_89 {n : Nat} {a0 : Int32} {C : AmC} {r : Int32} {C' : AmC} (h : f_89 n a0 C = some (r, C')) : En false 89 0 [(0, .int a0)] [] (mkM C) (.inl (some (.int r))) (mkM C') := by
  unfold f_89 at h
  refine en_iload rfl rfl ?_
  rcases gi h with ⟨c1, h⟩ | ⟨c1, h⟩
  · refine en_if_le_t c1 rfl ?_
    refine ec_iconst cst_0 rfl ?_
    cases h
    exact en_zret (Or.inl rfl) rfl
  · refine en_if_le_f c1 rfl ?_
    refine en_iload rfl rfl ?_
    refine ec_iconst cst_2 rfl ?_
    refine en_irem (by decide) rfl ?_
    rcases gi h with ⟨c2, h⟩ | ⟨c2, h⟩
    · refine en_if_ne_t c2 rfl ?_
      refine ec_iconst cst_0 rfl ?_
      cases h
      exact en_zret (Or.inl rfl) rfl
    · refine en_if_ne_f c2 rfl ?_
      refine ec_iconst cst_1 rfl ?_
      refine en_goto rfl ?_
      cases h
      exact en_zret (Or.inr rfl) rfl
/-- BulkWriter$Cursor.start(LBulkWriter$Script;I)V -/
def f_1 (n : Nat) (a0 : Nat) (a1 : Nat) (a2 : Int32) (C : AmC) : Option (Unit × AmC) := (f_88 n a2 C).bind (fun z => match z with | (q1, C2) => if isK a1 6 = true then (f_93 n a1 q1 C2).bind (fun z => match z with | (q5, C6) => if isK a0 0 = true then (f_94 n a1 q1 (uI C6 a0 0 q5)).bind (fun z => match z with | (q9, C10) => (f_89 n a2 (uI C10 a0 1 q9)).bind (fun z => match z with | (q12, C13) => if q12 = 0 ∨ q12 = 1 then some ((), uJ (uI (uI (uI C13 a0 2 q12) a0 3 (-9999 : Int32)) a0 4 (9999 : Int32)) a0 5 (-1152921504606846976 : Int64)) else none)) else none) else none)
set_option maxRecDepth 20000 in
set_option maxHeartbeats 4000000 in
theorem t_1 {n : Nat} {a0 : Nat} {a1 : Nat} {a2 : Int32} {C : AmC} {r : Unit} {C' : AmC} (h : f_1 n a0 a1 a2 C = some (r, C')) : En false 1 0 [(0, .ref a0), (1, .ref a1), (2, .int a2)] [] (mkM C) (.inl none) (mkM C') := by
  unfold f_1 at h
  refine en_iload rfl rfl ?_
  obtain ⟨⟨q1, C2⟩, e3, h⟩ := gb h
  dsimp only at h
  refine ec_callS1 (k' := 88) (n := 1) (as := [.int a2]) rfl rfl rfl (Nat.le_of_ble_eq_true rfl) (Nat.le_of_ble_eq_true rfl) (Nat.le_of_ble_eq_true rfl) rfl (t_88 e3) ?_
  refine en_istore (l' := [(3, .int q1), (0, .ref a0), (1, .ref a1), (2, .int a2)]) rfl rfl ?_
  refine en_aload rfl rfl ?_
  refine en_aload rfl rfl ?_
  refine en_iload rfl rfl ?_
  obtain ⟨g4, h⟩ := gd h
  obtain ⟨⟨q5, C6⟩, e7, h⟩ := gb h
  dsimp only at h
  refine ec_callV1 (k' := 93) (n := 2) (rc := 6) (a := a1) (as := [.int q1]) ⟨rfl, rfl⟩ rfl rfl (Nat.le_of_ble_eq_true rfl) (Nat.le_of_ble_eq_true rfl) (Nat.le_of_ble_eq_true rfl) g4 rfl (t_93 e7) ?_
  obtain ⟨g8, h⟩ := gd h
  refine ec_putI (ci := 0) (j := 0) ⟨rfl, rfl, rfl⟩ g8 rfl ?_
  refine en_aload rfl rfl ?_
  refine en_aload rfl rfl ?_
  refine en_iload rfl rfl ?_
  obtain ⟨⟨q9, C10⟩, e11, h⟩ := gb h
  dsimp only at h
  refine ec_callV1 (k' := 94) (n := 2) (rc := 6) (a := a1) (as := [.int q1]) ⟨rfl, rfl⟩ rfl rfl (Nat.le_of_ble_eq_true rfl) (Nat.le_of_ble_eq_true rfl) (Nat.le_of_ble_eq_true rfl) g4 rfl (t_94 e11) ?_
  refine ec_putI (ci := 0) (j := 1) ⟨rfl, rfl, rfl⟩ g8 rfl ?_
  refine en_aload rfl rfl ?_
  refine en_iload rfl rfl ?_
  obtain ⟨⟨q12, C13⟩, e14, h⟩ := gb h
  dsimp only at h
  refine ec_callS1 (k' := 89) (n := 1) (as := [.int a2]) rfl rfl rfl (Nat.le_of_ble_eq_true rfl) (Nat.le_of_ble_eq_true rfl) (Nat.le_of_ble_eq_true rfl) rfl (t_89 e14) ?_
  obtain ⟨g15, h⟩ := gd h
  refine ec_putZ (ci := 0) (j := 2) ⟨rfl, rfl, rfl⟩ g8 g15 rfl ?_
  refine en_aload rfl rfl ?_
  refine ec_iconst cst_m9999 rfl ?_
  refine ec_putI (ci := 0) (j := 3) ⟨rfl, rfl, rfl⟩ g8 rfl ?_
  refine en_aload rfl rfl ?_
  refine ec_iconst cst_9999 rfl ?_
  refine ec_putI (ci := 0) (j := 4) ⟨rfl, rfl, rfl⟩ g8 rfl ?_
  refine en_aload rfl rfl ?_
  refine ec_lconst cst_m1152921504606846976L rfl ?_
  refine ec_putJ (ci := 0) (j := 5) ⟨rfl, rfl, rfl⟩ g8 rfl ?_
  cases h
  exact en_vret rfl
/-- BulkWriter$Script.atomAt(II)I -/
def f_101 (n : Nat) (a0 : Nat) (a1 : Int32) (a2 : Int32) (C : AmC) : Option (Int32 × AmC) := (if a1 < 0 then some ((-1 : Int32), C) else if isK a0 6 = true then (if (cI C a0 15) ≤ a1 then some ((-1 : Int32), C) else (if (450 : Int32) ≤ a1 then some ((-1 : Int32), C) else (if 0 ≤ a2 then (cP C a0 16).bind (fun r6 => if isK r6 12 = true then if amIn a1 (aLen r6) = true then (if ((cI C r6 (Int32.toNatClampNeg a1)) + a2) < 0 then some ((-1 : Int32), C) else (cP C a0 16).bind (fun r11 => if isK r11 12 = true then if amIn (a1 + (1 : Int32)) (aLen r11) = true then (if (cI C r11 (Int32.toNatClampNeg (a1 + (1 : Int32)))) ≤ ((cI C r6 (Int32.toNatClampNeg a1)) + a2) then some ((-1 : Int32), C) else (if (450 : Int32) ≤ ((cI C r6 (Int32.toNatClampNeg a1)) + a2) then some ((-1 : Int32), C) else some (((cI C r6 (Int32.toNatClampNeg a1)) + a2), C))) else none else none)) else none else none) else some ((-1 : Int32), C)))) else none)
set_option maxRecDepth 20000 in
set_option maxHeartbeats 4000000 in
theorem t_101 {n : Nat} {a0 : Nat} {a1 : Int32} {a2 : Int32} {C : AmC} {r : Int32} {C' : AmC} (h : f_101 n a0 a1 a2 C = some (r, C')) : En false 101 0 [(0, .ref a0), (1, .int a1), (2, .int a2)] [] (mkM C) (.inl (some (.int r))) (mkM C') := by
  unfold f_101 at h
  refine en_iload rfl rfl ?_
  rcases gi h with ⟨c1, h⟩ | ⟨c1, h⟩
  · refine en_if_lt_t c1 rfl ?_
    refine ec_iconst cst_m1 rfl ?_
    cases h
    exact en_iret rfl
  · refine en_if_lt_f c1 rfl ?_
    refine en_iload rfl rfl ?_
    refine en_aload rfl rfl ?_
    obtain ⟨g2, h⟩ := gd h
    refine ec_getI (ci := 6) (j := 15) ⟨rfl, rfl, rfl⟩ g2 rfl ?_
    rcases gi h with ⟨c3, h⟩ | ⟨c3, h⟩
    · refine en_icmp_ge_t c3 rfl ?_
      refine ec_iconst cst_m1 rfl ?_
      cases h
      exact en_iret rfl
    · refine en_icmp_ge_f c3 rfl ?_
      refine en_iload rfl rfl ?_
      refine ec_iconst cst_450 rfl ?_
      rcases gi h with ⟨c4, h⟩ | ⟨c4, h⟩
      · refine en_icmp_ge_t c4 rfl ?_
        refine ec_iconst cst_m1 rfl ?_
        cases h
        exact en_iret rfl
      · refine en_icmp_ge_f c4 rfl ?_
        refine en_iload rfl rfl ?_
        rcases gi h with ⟨c5, h⟩ | ⟨c5, h⟩
        · refine en_if_ge_t c5 rfl ?_
          refine en_aload rfl rfl ?_
          obtain ⟨r6, e7, h⟩ := gb h
          refine ec_getP (ci := 6) (j := 16) ⟨rfl, rfl, rfl⟩ g2 e7 rfl ?_
          refine en_iload rfl rfl ?_
          obtain ⟨g8, h⟩ := gd h
          obtain ⟨g9, h⟩ := gd h
          refine ec_iaload g8 g9 rfl ?_
          refine en_iload rfl rfl ?_
          refine en_iadd rfl ?_
          refine en_istore (l' := [(3, .int ((cI C r6 (Int32.toNatClampNeg a1)) + a2)), (0, .ref a0), (1, .int a1), (2, .int a2)]) rfl rfl ?_
          refine en_iload rfl rfl ?_
          rcases gi h with ⟨c10, h⟩ | ⟨c10, h⟩
          · refine en_if_lt_t c10 rfl ?_
            refine ec_iconst cst_m1 rfl ?_
            cases h
            exact en_iret rfl
          · refine en_if_lt_f c10 rfl ?_
            refine en_iload rfl rfl ?_
            refine en_aload rfl rfl ?_
            obtain ⟨r11, e12, h⟩ := gb h
            refine ec_getP (ci := 6) (j := 16) ⟨rfl, rfl, rfl⟩ g2 e12 rfl ?_
            refine en_iload rfl rfl ?_
            refine ec_iconst cst_1 rfl ?_
            refine en_iadd rfl ?_
            obtain ⟨g13, h⟩ := gd h
            obtain ⟨g14, h⟩ := gd h
            refine ec_iaload g13 g14 rfl ?_
            rcases gi h with ⟨c15, h⟩ | ⟨c15, h⟩
            · refine en_icmp_ge_t c15 rfl ?_
              refine ec_iconst cst_m1 rfl ?_
              cases h
              exact en_iret rfl
            · refine en_icmp_ge_f c15 rfl ?_
              refine en_iload rfl rfl ?_
              refine ec_iconst cst_450 rfl ?_
              rcases gi h with ⟨c16, h⟩ | ⟨c16, h⟩
              · refine en_icmp_ge_t c16 rfl ?_
                refine ec_iconst cst_m1 rfl ?_
                cases h
                exact en_iret rfl
              · refine en_icmp_ge_f c16 rfl ?_
                refine en_iload rfl rfl ?_
                refine en_goto rfl ?_
                cases h
                exact en_iret rfl
        · refine en_if_ge_f c5 rfl ?_
          refine ec_iconst cst_m1 rfl ?_
          cases h
          exact en_iret rfl
/-- BulkWriter$Script.atomsOf(I)I -/
def f_100 (n : Nat) (a0 : Nat) (a1 : Int32) (C : AmC) : Option (Int32 × AmC) := (if a1 < 0 then some ((0 : Int32), C) else if isK a0 6 = true then (if (cI C a0 15) ≤ a1 then some ((0 : Int32), C) else (if (450 : Int32) ≤ a1 then some ((0 : Int32), C) else (cP C a0 16).bind (fun r5 => if isK r5 12 = true then if amIn (a1 + (1 : Int32)) (aLen r5) = true then (cP C a0 16).bind (fun r9 => if isK r9 12 = true then if amIn a1 (aLen r9) = true then some (((cI C r5 (Int32.toNatClampNeg (a1 + (1 : Int32)))) - (cI C r9 (Int32.toNatClampNeg a1))), C) else none else none) else none else none))) else none)
set_option maxRecDepth 20000 in
set_option maxHeartbeats 4000000 in
theorem t_100 {n : Nat} {a0 : Nat} {a1 : Int32} {C : AmC} {r : Int32} {C' : AmC} (h : f_100 n a0 a1 C = some (r, C')) : En false 100 0 [(0, .ref a0), (1, .int a1)] [] (mkM C) (.inl (some (.int r))) (mkM C') := by
  unfold f_100 at h
  refine en_iload rfl rfl ?_
  rcases gi h with ⟨c1, h⟩ | ⟨c1, h⟩
  · refine en_if_lt_t c1 rfl ?_
    refine ec_iconst cst_0 rfl ?_
    cases h
    exact en_iret rfl
  · refine en_if_lt_f c1 rfl ?_
    refine en_iload rfl rfl ?_
    refine en_aload rfl rfl ?_
    obtain ⟨g2, h⟩ := gd h
    refine ec_getI (ci := 6) (j := 15) ⟨rfl, rfl, rfl⟩ g2 rfl ?_
    rcases gi h with ⟨c3, h⟩ | ⟨c3, h⟩
    · refine en_icmp_ge_t c3 rfl ?_
      refine ec_iconst cst_0 rfl ?_
      cases h
      exact en_iret rfl
    · refine en_icmp_ge_f c3 rfl ?_
      refine en_iload rfl rfl ?_
      refine ec_iconst cst_450 rfl ?_
      rcases gi h with ⟨c4, h⟩ | ⟨c4, h⟩
      · refine en_icmp_ge_t c4 rfl ?_
        refine ec_iconst cst_0 rfl ?_
        cases h
        exact en_iret rfl
      · refine en_icmp_ge_f c4 rfl ?_
        refine en_aload rfl rfl ?_
        obtain ⟨r5, e6, h⟩ := gb h
        refine ec_getP (ci := 6) (j := 16) ⟨rfl, rfl, rfl⟩ g2 e6 rfl ?_
        refine en_iload rfl rfl ?_
        refine ec_iconst cst_1 rfl ?_
        refine en_iadd rfl ?_
        obtain ⟨g7, h⟩ := gd h
        obtain ⟨g8, h⟩ := gd h
        refine ec_iaload g7 g8 rfl ?_
        refine en_aload rfl rfl ?_
        obtain ⟨r9, e10, h⟩ := gb h
        refine ec_getP (ci := 6) (j := 16) ⟨rfl, rfl, rfl⟩ g2 e10 rfl ?_
        refine en_iload rfl rfl ?_
        obtain ⟨g11, h⟩ := gd h
        obtain ⟨g12, h⟩ := gd h
        refine ec_iaload g11 g12 rfl ?_
        refine en_isub rfl ?_
        refine en_goto rfl ?_
        cases h
        exact en_iret rfl
/-- BulkWriter$Cursor.narrow(LBulkWriter$Script;II)V -/
def f_3 (n : Nat) (a0 : Nat) (a1 : Nat) (a2 : Int32) (a3 : Int32) (C : AmC) : Option (Unit × AmC) := if isK a1 6 = true then (f_101 n a1 a2 (0 : Int32) C).bind (fun z => match z with | (q2, C3) => (f_101 n a1 (a2 + (1 : Int32)) (0 : Int32) C3).bind (fun z => match z with | (q5, C6) => (if q2 = (-1 : Int32) then some ((), C6) else (if q5 = (-1 : Int32) then some ((), C6) else (f_100 n a1 a2 C6).bind (fun z => match z with | (q10, C11) => (if ¬ q10 = (1 : Int32) then some ((), C11) else (f_100 n a1 (a2 + (1 : Int32)) C11).bind (fun z => match z with | (q14, C15) => (if q14 = (1 : Int32) then (cP C15 a1 13).bind (fun r18 => if isK r18 12 = true then if amIn q2 (aLen r18) = true then (if ¬ (cI C15 r18 (Int32.toNatClampNeg q2)) = (130 : Int32) then some ((), C15) else (cP C15 a1 14).bind (fun r23 => if isK r23 12 = true then if amIn q2 (aLen r23) = true then if isK a0 0 = true then (if ¬ (cI C15 r23 (Int32.toNatClampNeg q2)) = (cI C15 a0 0) then some ((), C15) else (cP C15 a1 13).bind (fun r29 => if isK r29 12 = true then if amIn q5 (aLen r29) = true then (if (cI C15 r29 (Int32.toNatClampNeg q5)) = (128 : Int32) then (cP C15 a1 14).bind (fun r34 => if isK r34 12 = true then if amIn q5 (aLen r34) = true then (if a3 = (60 : Int32) then (if a3 = (62 : Int32) then some ((), C15) else (if ¬ a3 = (60 : Int32) then some ((), uI C15 a0 4 (if (cI C15 r34 (Int32.toNatClampNeg q5)) < (cI C15 a0 4) then (cI C15 r34 (Int32.toNatClampNeg q5)) else (cI C15 a0 4))) else some ((), uI C15 a0 4 (if ((cI C15 r34 (Int32.toNatClampNeg q5)) - (1 : Int32)) < (cI C15 a0 4) then ((cI C15 r34 (Int32.toNatClampNeg q5)) - (1 : Int32)) else (cI C15 a0 4))))) else (if ¬ a3 = (62 : Int32) then (if a3 = (62 : Int32) then some ((), uI C15 a0 3 (if (cI C15 a0 3) < (cI C15 r34 (Int32.toNatClampNeg q5)) then (cI C15 r34 (Int32.toNatClampNeg q5)) else (cI C15 a0 3))) else (if ¬ a3 = (60 : Int32) then some ((), uI (uI C15 a0 3 (if (cI C15 a0 3) < (cI C15 r34 (Int32.toNatClampNeg q5)) then (cI C15 r34 (Int32.toNatClampNeg q5)) else (cI C15 a0 3))) a0 4 (if (cI C15 r34 (Int32.toNatClampNeg q5)) < (cI (uI C15 a0 3 (if (cI C15 a0 3) < (cI C15 r34 (Int32.toNatClampNeg q5)) then (cI C15 r34 (Int32.toNatClampNeg q5)) else (cI C15 a0 3))) a0 4) then (cI C15 r34 (Int32.toNatClampNeg q5)) else (cI (uI C15 a0 3 (if (cI C15 a0 3) < (cI C15 r34 (Int32.toNatClampNeg q5)) then (cI C15 r34 (Int32.toNatClampNeg q5)) else (cI C15 a0 3))) a0 4))) else some ((), uI (uI C15 a0 3 (if (cI C15 a0 3) < (cI C15 r34 (Int32.toNatClampNeg q5)) then (cI C15 r34 (Int32.toNatClampNeg q5)) else (cI C15 a0 3))) a0 4 (if ((cI C15 r34 (Int32.toNatClampNeg q5)) - (1 : Int32)) < (cI (uI C15 a0 3 (if (cI C15 a0 3) < (cI C15 r34 (Int32.toNatClampNeg q5)) then (cI C15 r34 (Int32.toNatClampNeg q5)) else (cI C15 a0 3))) a0 4) then ((cI C15 r34 (Int32.toNatClampNeg q5)) - (1 : Int32)) else (cI (uI C15 a0 3 (if (cI C15 a0 3) < (cI C15 r34 (Int32.toNatClampNeg q5)) then (cI C15 r34 (Int32.toNatClampNeg q5)) else (cI C15 a0 3))) a0 4))))) else (if a3 = (62 : Int32) then some ((), uI C15 a0 3 (if (cI C15 a0 3) < ((cI C15 r34 (Int32.toNatClampNeg q5)) + (1 : Int32)) then ((cI C15 r34 (Int32.toNatClampNeg q5)) + (1 : Int32)) else (cI C15 a0 3))) else (if ¬ a3 = (60 : Int32) then some ((), uI (uI C15 a0 3 (if (cI C15 a0 3) < ((cI C15 r34 (Int32.toNatClampNeg q5)) + (1 : Int32)) then ((cI C15 r34 (Int32.toNatClampNeg q5)) + (1 : Int32)) else (cI C15 a0 3))) a0 4 (if (cI C15 r34 (Int32.toNatClampNeg q5)) < (cI (uI C15 a0 3 (if (cI C15 a0 3) < ((cI C15 r34 (Int32.toNatClampNeg q5)) + (1 : Int32)) then ((cI C15 r34 (Int32.toNatClampNeg q5)) + (1 : Int32)) else (cI C15 a0 3))) a0 4) then (cI C15 r34 (Int32.toNatClampNeg q5)) else (cI (uI C15 a0 3 (if (cI C15 a0 3) < ((cI C15 r34 (Int32.toNatClampNeg q5)) + (1 : Int32)) then ((cI C15 r34 (Int32.toNatClampNeg q5)) + (1 : Int32)) else (cI C15 a0 3))) a0 4))) else some ((), uI (uI C15 a0 3 (if (cI C15 a0 3) < ((cI C15 r34 (Int32.toNatClampNeg q5)) + (1 : Int32)) then ((cI C15 r34 (Int32.toNatClampNeg q5)) + (1 : Int32)) else (cI C15 a0 3))) a0 4 (if ((cI C15 r34 (Int32.toNatClampNeg q5)) - (1 : Int32)) < (cI (uI C15 a0 3 (if (cI C15 a0 3) < ((cI C15 r34 (Int32.toNatClampNeg q5)) + (1 : Int32)) then ((cI C15 r34 (Int32.toNatClampNeg q5)) + (1 : Int32)) else (cI C15 a0 3))) a0 4) then ((cI C15 r34 (Int32.toNatClampNeg q5)) - (1 : Int32)) else (cI (uI C15 a0 3 (if (cI C15 a0 3) < ((cI C15 r34 (Int32.toNatClampNeg q5)) + (1 : Int32)) then ((cI C15 r34 (Int32.toNatClampNeg q5)) + (1 : Int32)) else (cI C15 a0 3))) a0 4))))))) else none else none) else some ((), C15)) else none else none)) else none else none else none)) else none else none) else some ((), C15))))))))) else none
set_option maxRecDepth 20000 in
set_option maxHeartbeats 4000000 in
theorem t_3 {n : Nat} {a0 : Nat} {a1 : Nat} {a2 : Int32} {a3 : Int32} {C : AmC} {r : Unit} {C' : AmC} (h : f_3 n a0 a1 a2 a3 C = some (r, C')) : En false 3 0 [(0, .ref a0), (1, .ref a1), (2, .int a2), (3, .int a3)] [] (mkM C) (.inl none) (mkM C') := by
  unfold f_3 at h
  refine en_aload rfl rfl ?_
  refine en_iload rfl rfl ?_
  refine ec_iconst cst_0 rfl ?_
  obtain ⟨g1, h⟩ := gd h
  obtain ⟨⟨q2, C3⟩, e4, h⟩ := gb h
  dsimp only at h
  refine ec_callV1 (k' := 101) (n := 3) (rc := 6) (a := a1) (as := [.int a2, .int (0 : Int32)]) ⟨rfl, rfl⟩ rfl rfl (Nat.le_of_ble_eq_true rfl) (Nat.le_of_ble_eq_true rfl) (Nat.le_of_ble_eq_true rfl) g1 rfl (t_101 e4) ?_
  refine en_istore (l' := [(4, .int q2), (0, .ref a0), (1, .ref a1), (2, .int a2), (3, .int a3)]) rfl rfl ?_
  refine en_aload rfl rfl ?_
  refine en_iload rfl rfl ?_
  refine ec_iconst cst_1 rfl ?_
  refine en_iadd rfl ?_
  refine ec_iconst cst_0 rfl ?_
  obtain ⟨⟨q5, C6⟩, e7, h⟩ := gb h
  dsimp only at h
  refine ec_callV1 (k' := 101) (n := 3) (rc := 6) (a := a1) (as := [.int (a2 + (1 : Int32)), .int (0 : Int32)]) ⟨rfl, rfl⟩ rfl rfl (Nat.le_of_ble_eq_true rfl) (Nat.le_of_ble_eq_true rfl) (Nat.le_of_ble_eq_true rfl) g1 rfl (t_101 e7) ?_
  refine en_istore (l' := [(5, .int q5), (4, .int q2), (0, .ref a0), (1, .ref a1), (2, .int a2), (3, .int a3)]) rfl rfl ?_
  refine en_iload rfl rfl ?_
  refine ec_iconst cst_m1 rfl ?_
  rcases gi h with ⟨c8, h⟩ | ⟨c8, h⟩
  · refine en_icmp_eq_t c8 rfl ?_
    cases h
    exact en_vret rfl
  · refine en_icmp_eq_f c8 rfl ?_
    refine en_iload rfl rfl ?_
    refine ec_iconst cst_m1 rfl ?_
    rcases gi h with ⟨c9, h⟩ | ⟨c9, h⟩
    · refine en_icmp_eq_t c9 rfl ?_
      cases h
      exact en_vret rfl
    · refine en_icmp_eq_f c9 rfl ?_
      refine en_aload rfl rfl ?_
      refine en_iload rfl rfl ?_
      obtain ⟨⟨q10, C11⟩, e12, h⟩ := gb h
      dsimp only at h
      refine ec_callV1 (k' := 100) (n := 2) (rc := 6) (a := a1) (as := [.int a2]) ⟨rfl, rfl⟩ rfl rfl (Nat.le_of_ble_eq_true rfl) (Nat.le_of_ble_eq_true rfl) (Nat.le_of_ble_eq_true rfl) g1 rfl (t_100 e12) ?_
      refine ec_iconst cst_1 rfl ?_
      rcases gi h with ⟨c13, h⟩ | ⟨c13, h⟩
      · refine en_icmp_ne_t c13 rfl ?_
        cases h
        exact en_vret rfl
      · refine en_icmp_ne_f c13 rfl ?_
        refine en_aload rfl rfl ?_
        refine en_iload rfl rfl ?_
        refine ec_iconst cst_1 rfl ?_
        refine en_iadd rfl ?_
        obtain ⟨⟨q14, C15⟩, e16, h⟩ := gb h
        dsimp only at h
        refine ec_callV1 (k' := 100) (n := 2) (rc := 6) (a := a1) (as := [.int (a2 + (1 : Int32))]) ⟨rfl, rfl⟩ rfl rfl (Nat.le_of_ble_eq_true rfl) (Nat.le_of_ble_eq_true rfl) (Nat.le_of_ble_eq_true rfl) g1 rfl (t_100 e16) ?_
        refine ec_iconst cst_1 rfl ?_
        rcases gi h with ⟨c17, h⟩ | ⟨c17, h⟩
        · refine en_icmp_eq_t c17 rfl ?_
          refine en_aload rfl rfl ?_
          obtain ⟨r18, e19, h⟩ := gb h
          refine ec_getP (ci := 6) (j := 13) ⟨rfl, rfl, rfl⟩ g1 e19 rfl ?_
          refine en_iload rfl rfl ?_
          obtain ⟨g20, h⟩ := gd h
          obtain ⟨g21, h⟩ := gd h
          refine ec_iaload g20 g21 rfl ?_
          refine ec_iconst cst_130 rfl ?_
          rcases gi h with ⟨c22, h⟩ | ⟨c22, h⟩
          · refine en_icmp_ne_t c22 rfl ?_
            cases h
            exact en_vret rfl
          · refine en_icmp_ne_f c22 rfl ?_
            refine en_aload rfl rfl ?_
            obtain ⟨r23, e24, h⟩ := gb h
            refine ec_getP (ci := 6) (j := 14) ⟨rfl, rfl, rfl⟩ g1 e24 rfl ?_
            refine en_iload rfl rfl ?_
            obtain ⟨g25, h⟩ := gd h
            obtain ⟨g26, h⟩ := gd h
            refine ec_iaload g25 g26 rfl ?_
            refine en_aload rfl rfl ?_
            obtain ⟨g27, h⟩ := gd h
            refine ec_getI (ci := 0) (j := 0) ⟨rfl, rfl, rfl⟩ g27 rfl ?_
            rcases gi h with ⟨c28, h⟩ | ⟨c28, h⟩
            · refine en_icmp_ne_t c28 rfl ?_
              cases h
              exact en_vret rfl
            · refine en_icmp_ne_f c28 rfl ?_
              refine en_aload rfl rfl ?_
              obtain ⟨r29, e30, h⟩ := gb h
              refine ec_getP (ci := 6) (j := 13) ⟨rfl, rfl, rfl⟩ g1 e30 rfl ?_
              refine en_iload rfl rfl ?_
              obtain ⟨g31, h⟩ := gd h
              obtain ⟨g32, h⟩ := gd h
              refine ec_iaload g31 g32 rfl ?_
              refine ec_iconst cst_128 rfl ?_
              rcases gi h with ⟨c33, h⟩ | ⟨c33, h⟩
              · refine en_icmp_eq_t c33 rfl ?_
                refine en_aload rfl rfl ?_
                obtain ⟨r34, e35, h⟩ := gb h
                refine ec_getP (ci := 6) (j := 14) ⟨rfl, rfl, rfl⟩ g1 e35 rfl ?_
                refine en_iload rfl rfl ?_
                obtain ⟨g36, h⟩ := gd h
                obtain ⟨g37, h⟩ := gd h
                refine ec_iaload g36 g37 rfl ?_
                refine en_istore (l' := [(6, .int (cI C15 r34 (Int32.toNatClampNeg q5))), (5, .int q5), (4, .int q2), (0, .ref a0), (1, .ref a1), (2, .int a2), (3, .int a3)]) rfl rfl ?_
                refine en_iload rfl rfl ?_
                refine ec_iconst cst_60 rfl ?_
                rcases gi h with ⟨c38, h⟩ | ⟨c38, h⟩
                · refine en_icmp_eq_t c38 rfl ?_
                  refine en_iload rfl rfl ?_
                  refine ec_iconst cst_62 rfl ?_
                  rcases gi h with ⟨c39, h⟩ | ⟨c39, h⟩
                  · refine en_icmp_eq_t c39 rfl ?_
                    cases h
                    exact en_vret rfl
                  · refine en_icmp_eq_f c39 rfl ?_
                    refine en_aload rfl rfl ?_
                    refine en_aload rfl rfl ?_
                    refine ec_getI (ci := 0) (j := 4) ⟨rfl, rfl, rfl⟩ g27 rfl ?_
                    refine en_iload rfl rfl ?_
                    refine ec_iconst cst_60 rfl ?_
                    rcases gi h with ⟨c40, h⟩ | ⟨c40, h⟩
                    · refine en_icmp_ne_t c40 rfl ?_
                      refine en_iload rfl rfl ?_
                      refine en_min (Nat.le_of_ble_eq_true rfl) rfl ?_
                      refine ec_putI (ci := 0) (j := 4) ⟨rfl, rfl, rfl⟩ g27 rfl ?_
                      cases h
                      exact en_vret rfl
                    · refine en_icmp_ne_f c40 rfl ?_
                      refine en_iload rfl rfl ?_
                      refine ec_iconst cst_1 rfl ?_
                      refine en_isub rfl ?_
                      refine en_goto rfl ?_
                      refine en_min (Nat.le_of_ble_eq_true rfl) rfl ?_
                      refine ec_putI (ci := 0) (j := 4) ⟨rfl, rfl, rfl⟩ g27 rfl ?_
                      cases h
                      exact en_vret rfl
                · refine en_icmp_eq_f c38 rfl ?_
                  refine en_aload rfl rfl ?_
                  refine en_aload rfl rfl ?_
                  refine ec_getI (ci := 0) (j := 3) ⟨rfl, rfl, rfl⟩ g27 rfl ?_
                  refine en_iload rfl rfl ?_
                  refine ec_iconst cst_62 rfl ?_
                  rcases gi h with ⟨c41, h⟩ | ⟨c41, h⟩
                  · refine en_icmp_ne_t c41 rfl ?_
                    refine en_iload rfl rfl ?_
                    refine en_max (Nat.le_of_ble_eq_true rfl) rfl ?_
                    refine ec_putI (ci := 0) (j := 3) ⟨rfl, rfl, rfl⟩ g27 rfl ?_
                    refine en_iload rfl rfl ?_
                    refine ec_iconst cst_62 rfl ?_
                    rcases gi h with ⟨c42, h⟩ | ⟨c42, h⟩
                    · refine en_icmp_eq_t c42 rfl ?_
                      cases h
                      exact en_vret rfl
                    · refine en_icmp_eq_f c42 rfl ?_
                      refine en_aload rfl rfl ?_
                      refine en_aload rfl rfl ?_
                      refine ec_getI (ci := 0) (j := 4) ⟨rfl, rfl, rfl⟩ g27 rfl ?_
                      refine en_iload rfl rfl ?_
                      refine ec_iconst cst_60 rfl ?_
                      rcases gi h with ⟨c43, h⟩ | ⟨c43, h⟩
                      · refine en_icmp_ne_t c43 rfl ?_
                        refine en_iload rfl rfl ?_
                        refine en_min (Nat.le_of_ble_eq_true rfl) rfl ?_
                        refine ec_putI (ci := 0) (j := 4) ⟨rfl, rfl, rfl⟩ g27 rfl ?_
                        cases h
                        exact en_vret rfl
                      · refine en_icmp_ne_f c43 rfl ?_
                        refine en_iload rfl rfl ?_
                        refine ec_iconst cst_1 rfl ?_
                        refine en_isub rfl ?_
                        refine en_goto rfl ?_
                        refine en_min (Nat.le_of_ble_eq_true rfl) rfl ?_
                        refine ec_putI (ci := 0) (j := 4) ⟨rfl, rfl, rfl⟩ g27 rfl ?_
                        cases h
                        exact en_vret rfl
                  · refine en_icmp_ne_f c41 rfl ?_
                    refine en_iload rfl rfl ?_
                    refine ec_iconst cst_1 rfl ?_
                    refine en_iadd rfl ?_
                    refine en_goto rfl ?_
                    refine en_max (Nat.le_of_ble_eq_true rfl) rfl ?_
                    refine ec_putI (ci := 0) (j := 3) ⟨rfl, rfl, rfl⟩ g27 rfl ?_
                    refine en_iload rfl rfl ?_
                    refine ec_iconst cst_62 rfl ?_
                    rcases gi h with ⟨c44, h⟩ | ⟨c44, h⟩
                    · refine en_icmp_eq_t c44 rfl ?_
                      cases h
                      exact en_vret rfl
                    · refine en_icmp_eq_f c44 rfl ?_
                      refine en_aload rfl rfl ?_
                      refine en_aload rfl rfl ?_
                      refine ec_getI (ci := 0) (j := 4) ⟨rfl, rfl, rfl⟩ g27 rfl ?_
                      refine en_iload rfl rfl ?_
                      refine ec_iconst cst_60 rfl ?_
                      rcases gi h with ⟨c45, h⟩ | ⟨c45, h⟩
                      · refine en_icmp_ne_t c45 rfl ?_
                        refine en_iload rfl rfl ?_
                        refine en_min (Nat.le_of_ble_eq_true rfl) rfl ?_
                        refine ec_putI (ci := 0) (j := 4) ⟨rfl, rfl, rfl⟩ g27 rfl ?_
                        cases h
                        exact en_vret rfl
                      · refine en_icmp_ne_f c45 rfl ?_
                        refine en_iload rfl rfl ?_
                        refine ec_iconst cst_1 rfl ?_
                        refine en_isub rfl ?_
                        refine en_goto rfl ?_
                        refine en_min (Nat.le_of_ble_eq_true rfl) rfl ?_
                        refine ec_putI (ci := 0) (j := 4) ⟨rfl, rfl, rfl⟩ g27 rfl ?_
                        cases h
                        exact en_vret rfl
              · refine en_icmp_eq_f c33 rfl ?_
                cases h
                exact en_vret rfl
        · refine en_icmp_eq_f c17 rfl ?_
          cases h
          exact en_vret rfl
def lp_2_22 : Nat → Nat → Nat → Int32 → Int32 → AmC → Option (((Unit)) × AmC)
  | 0, _, _, _, _, _ => none
  | n + 1, p0, p1, p4, p5, C => (if p4 ≤ p5 then some ((), C) else if isK p1 6 = true then (cP C p1 19).bind (fun r9 => if isK r9 12 = true then if amIn p5 (aLen r9) = true then (cP C p1 18).bind (fun r13 => if isK r13 12 = true then if amIn p5 (aLen r13) = true then if isK p0 0 = true then (f_3 n p0 p1 (cI C r9 (Int32.toNatClampNeg p5)) (cI C r13 (Int32.toNatClampNeg p5)) C).bind (fun z => match z with | (_, C19) => lp_2_22 n p0 p1 p4 (p5 + (1 : Int32)) C19) else none else none else none) else none else none) else none)
set_option maxRecDepth 20000 in
set_option maxHeartbeats 4000000 in
theorem lt_2_22 : ∀ (n : Nat) (p0 : Nat) (p1 : Nat) (p4 : Int32) (p5 : Int32) (C : AmC) (r : ((Unit)) × AmC), lp_2_22 n p0 p1 p4 p5 C = some r → ∀ (o : AmO) (M' : AmM), (match r with
        | (_, C') => En false 2 38 [] [] (mkM C') o M') → En false 2 22 [(0, .ref p0), (1, .ref p1), (4, .int p4), (5, .int p5)] [] (mkM C) o M' := by
  intro n
  induction n with
  | zero => intro p0 p1 p4 p5 C r h; cases h
  | succ n ih =>
    intro p0 p1 p4 p5 C r h o M' hk
    unfold lp_2_22 at h
    refine en_iload rfl rfl ?_
    refine en_iload rfl rfl ?_
    rcases gi h with ⟨c7, h⟩ | ⟨c7, h⟩
    · refine en_icmp_ge_t c7 rfl ?_
      cases h
      exact en_sub [] rfl rfl hk
    · refine en_icmp_ge_f c7 rfl ?_
      refine en_aload rfl rfl ?_
      refine en_aload rfl rfl ?_
      refine en_aload rfl rfl ?_
      obtain ⟨g8, h⟩ := gd h
      obtain ⟨r9, e10, h⟩ := gb h
      refine ec_getP (ci := 6) (j := 19) ⟨rfl, rfl, rfl⟩ g8 e10 rfl ?_
      refine en_iload rfl rfl ?_
      obtain ⟨g11, h⟩ := gd h
      obtain ⟨g12, h⟩ := gd h
      refine ec_iaload g11 g12 rfl ?_
      refine en_aload rfl rfl ?_
      obtain ⟨r13, e14, h⟩ := gb h
      refine ec_getP (ci := 6) (j := 18) ⟨rfl, rfl, rfl⟩ g8 e14 rfl ?_
      refine en_iload rfl rfl ?_
      obtain ⟨g15, h⟩ := gd h
      obtain ⟨g16, h⟩ := gd h
      refine ec_iaload g15 g16 rfl ?_
      obtain ⟨g17, h⟩ := gd h
      obtain ⟨⟨q18, C19⟩, e20, h⟩ := gb h
      dsimp only at h
      refine ec_callV0 (k' := 3) (n := 4) (rc := 0) (a := p0) (as := [.ref p1, .int (cI C r9 (Int32.toNatClampNeg p5)), .int (cI C r13 (Int32.toNatClampNeg p5))]) ⟨rfl, rfl⟩ rfl rfl (Nat.le_of_ble_eq_true rfl) (Nat.le_of_ble_eq_true rfl) (Nat.le_of_ble_eq_true rfl) g17 rfl (t_3 e20) ?_
      refine ec_iinc (l' := [(5, .int (p5 + (1 : Int32))), (0, .ref p0), (1, .ref p1), (4, .int p4)]) rfl cst_1 rfl rfl ?_
      refine en_goto rfl ?_
      refine en_sub [1, 2, 3, 0] rfl rfl ?_
      exact ih _ _ _ _ _ _ h o M' hk
/-- BulkWriter$Cursor.startWithin(LBulkWriter$Script;LBulkWriter$Statement;I)V -/
def f_2 (n : Nat) (a0 : Nat) (a1 : Nat) (a2 : Nat) (a3 : Int32) (C : AmC) : Option (Unit × AmC) := if isK a0 0 = true then (f_1 n a0 a1 a3 C).bind (fun z => match z with | (_, C3) => (if ¬ (cI C3 a0 0) = (-1 : Int32) then if isK a2 8 = true then (lp_2_22 n a0 a1 (if (450 : Int32) < ((cI C3 a2 7) + (cI C3 a2 8)) then (450 : Int32) else ((cI C3 a2 7) + (cI C3 a2 8))) (if (cI C3 a2 7) < (0 : Int32) then (0 : Int32) else (cI C3 a2 7)) C3).bind (fun q => match q with | (_, C23) => some ((), C23)) else none else some ((), C3))) else none
set_option maxRecDepth 20000 in
set_option maxHeartbeats 4000000 in
theorem t_2 {n : Nat} {a0 : Nat} {a1 : Nat} {a2 : Nat} {a3 : Int32} {C : AmC} {r : Unit} {C' : AmC} (h : f_2 n a0 a1 a2 a3 C = some (r, C')) : En false 2 0 [(0, .ref a0), (1, .ref a1), (2, .ref a2), (3, .int a3)] [] (mkM C) (.inl none) (mkM C') := by
  unfold f_2 at h
  refine en_aload rfl rfl ?_
  refine en_aload rfl rfl ?_
  refine en_iload rfl rfl ?_
  obtain ⟨g1, h⟩ := gd h
  obtain ⟨⟨q2, C3⟩, e4, h⟩ := gb h
  dsimp only at h
  refine ec_callV0 (k' := 1) (n := 3) (rc := 0) (a := a0) (as := [.ref a1, .int a3]) ⟨rfl, rfl⟩ rfl rfl (Nat.le_of_ble_eq_true rfl) (Nat.le_of_ble_eq_true rfl) (Nat.le_of_ble_eq_true rfl) g1 rfl (t_1 e4) ?_
  refine en_aload rfl rfl ?_
  refine ec_getI (ci := 0) (j := 0) ⟨rfl, rfl, rfl⟩ g1 rfl ?_
  refine ec_iconst cst_m1 rfl ?_
  rcases gi h with ⟨c5, h⟩ | ⟨c5, h⟩
  · refine en_icmp_ne_t c5 rfl ?_
    refine en_aload rfl rfl ?_
    obtain ⟨g6, h⟩ := gd h
    refine ec_getI (ci := 8) (j := 7) ⟨rfl, rfl, rfl⟩ g6 rfl ?_
    refine en_aload rfl rfl ?_
    refine ec_getI (ci := 8) (j := 8) ⟨rfl, rfl, rfl⟩ g6 rfl ?_
    refine en_iadd rfl ?_
    refine ec_iconst cst_450 rfl ?_
    refine en_min (Nat.le_of_ble_eq_true rfl) rfl ?_
    refine en_istore (l' := [(4, .int (if (450 : Int32) < ((cI C3 a2 7) + (cI C3 a2 8)) then (450 : Int32) else ((cI C3 a2 7) + (cI C3 a2 8)))), (0, .ref a0), (1, .ref a1), (2, .ref a2), (3, .int a3)]) rfl rfl ?_
    refine en_aload rfl rfl ?_
    refine ec_getI (ci := 8) (j := 7) ⟨rfl, rfl, rfl⟩ g6 rfl ?_
    refine ec_iconst cst_0 rfl ?_
    refine en_max (Nat.le_of_ble_eq_true rfl) rfl ?_
    refine en_istore (l' := [(5, .int (if (cI C3 a2 7) < (0 : Int32) then (0 : Int32) else (cI C3 a2 7))), (4, .int (if (450 : Int32) < ((cI C3 a2 7) + (cI C3 a2 8)) then (450 : Int32) else ((cI C3 a2 7) + (cI C3 a2 8)))), (0, .ref a0), (1, .ref a1), (2, .ref a2), (3, .int a3)]) rfl rfl ?_
    obtain ⟨⟨q21, C23⟩, e22, h⟩ := gb h
    refine en_sub [2, 3, 1, 0] rfl rfl (lt_2_22 n _ _ _ _ _ _ e22 _ _ ?_)
    dsimp only at h ⊢
    cases h
    exact en_vret rfl
  · refine en_icmp_ne_f c5 rfl ?_
    cases h
    exact en_vret rfl
/-- BulkWriter$Cursor.startForOther(LBulkWriter$Script;LBulkWriter$Statement;II)V -/
def f_4 (n : Nat) (a0 : Nat) (a1 : Nat) (a2 : Nat) (a3 : Int32) (a4 : Int32) (C : AmC) : Option (Unit × AmC) := if isK a0 0 = true then (f_1 n a0 a1 a3 C).bind (fun z => match z with | (_, C3) => (if (cI C3 a0 0) = (-1 : Int32) then some ((), C3) else if isK a2 8 = true then (if ¬ (cI C3 a0 0) = (cI C3 a2 3) then some ((), C3) else some ((), uI (uI C3 a0 3 a4) a0 4 a4)) else none)) else none
set_option maxRecDepth 20000 in
set_option maxHeartbeats 4000000 in
theorem t_4 {n : Nat} {a0 : Nat} {a1 : Nat} {a2 : Nat} {a3 : Int32} {a4 : Int32} {C : AmC} {r : Unit} {C' : AmC} (h : f_4 n a0 a1 a2 a3 a4 C = some (r, C')) : En false 4 0 [(0, .ref a0), (1, .ref a1), (2, .ref a2), (3, .int a3), (4, .int a4)] [] (mkM C) (.inl none) (mkM C') := by
  unfold f_4 at h
  refine en_aload rfl rfl ?_
  refine en_aload rfl rfl ?_
  refine en_iload rfl rfl ?_
  obtain ⟨g1, h⟩ := gd h
  obtain ⟨⟨q2, C3⟩, e4, h⟩ := gb h
  dsimp only at h
  refine ec_callV0 (k' := 1) (n := 3) (rc := 0) (a := a0) (as := [.ref a1, .int a3]) ⟨rfl, rfl⟩ rfl rfl (Nat.le_of_ble_eq_true rfl) (Nat.le_of_ble_eq_true rfl) (Nat.le_of_ble_eq_true rfl) g1 rfl (t_1 e4) ?_
  refine en_aload rfl rfl ?_
  refine ec_getI (ci := 0) (j := 0) ⟨rfl, rfl, rfl⟩ g1 rfl ?_
  refine ec_iconst cst_m1 rfl ?_
  rcases gi h with ⟨c5, h⟩ | ⟨c5, h⟩
  · refine en_icmp_eq_t c5 rfl ?_
    cases h
    exact en_vret rfl
  · refine en_icmp_eq_f c5 rfl ?_
    refine en_aload rfl rfl ?_
    refine ec_getI (ci := 0) (j := 0) ⟨rfl, rfl, rfl⟩ g1 rfl ?_
    refine en_aload rfl rfl ?_
    obtain ⟨g6, h⟩ := gd h
    refine ec_getI (ci := 8) (j := 3) ⟨rfl, rfl, rfl⟩ g6 rfl ?_
    rcases gi h with ⟨c7, h⟩ | ⟨c7, h⟩
    · refine en_icmp_ne_t c7 rfl ?_
      cases h
      exact en_vret rfl
    · refine en_icmp_ne_f c7 rfl ?_
      refine en_aload rfl rfl ?_
      refine en_iload rfl rfl ?_
      refine ec_putI (ci := 0) (j := 3) ⟨rfl, rfl, rfl⟩ g1 rfl ?_
      refine en_aload rfl rfl ?_
      refine en_iload rfl rfl ?_
      refine ec_putI (ci := 0) (j := 4) ⟨rfl, rfl, rfl⟩ g1 rfl ?_
      cases h
      exact en_vret rfl
/-- BulkWriter$Rows.has(I)Z -/
def f_75 (n : Nat) (a0 : Nat) (a1 : Int32) (C : AmC) : Option (Int32 × AmC) := (if a1 < 0 then some ((0 : Int32), C) else (if (30 : Int32) ≤ a1 then some ((0 : Int32), C) else if isK a0 5 = true then (if ¬ (((Int32.toUInt32 (cI C a0 1) >>> (Int32.toUInt32 a1 &&& Int32.toUInt32 31)).toInt32) &&& (1 : Int32)) = (1 : Int32) then some ((0 : Int32), C) else some ((1 : Int32), C)) else none))
set_option maxRecDepth 20000 in
set_option maxHeartbeats 4000000 in
theorem t_75 {n : Nat} {a0 : Nat} {a1 : Int32} {C : AmC} {r : Int32} {C' : AmC} (h : f_75 n a0 a1 C = some (r, C')) : En false 75 0 [(0, .ref a0), (1, .int a1)] [] (mkM C) (.inl (some (.int r))) (mkM C') := by
  unfold f_75 at h
  refine en_iload rfl rfl ?_
  rcases gi h with ⟨c1, h⟩ | ⟨c1, h⟩
  · refine en_if_lt_t c1 rfl ?_
    refine ec_iconst cst_0 rfl ?_
    cases h
    exact en_zret (Or.inl rfl) rfl
  · refine en_if_lt_f c1 rfl ?_
    refine en_iload rfl rfl ?_
    refine ec_iconst cst_30 rfl ?_
    rcases gi h with ⟨c2, h⟩ | ⟨c2, h⟩
    · refine en_icmp_ge_t c2 rfl ?_
      refine ec_iconst cst_0 rfl ?_
      cases h
      exact en_zret (Or.inl rfl) rfl
    · refine en_icmp_ge_f c2 rfl ?_
      refine en_aload rfl rfl ?_
      obtain ⟨g3, h⟩ := gd h
      refine ec_getI (ci := 5) (j := 1) ⟨rfl, rfl, rfl⟩ g3 rfl ?_
      refine en_iload rfl rfl ?_
      refine en_iushr rfl ?_
      refine ec_iconst cst_1 rfl ?_
      refine en_iand rfl ?_
      refine ec_iconst cst_1 rfl ?_
      rcases gi h with ⟨c4, h⟩ | ⟨c4, h⟩
      · refine en_icmp_ne_t c4 rfl ?_
        refine ec_iconst cst_0 rfl ?_
        cases h
        exact en_zret (Or.inl rfl) rfl
      · refine en_icmp_ne_f c4 rfl ?_
        refine ec_iconst cst_1 rfl ?_
        refine en_goto rfl ?_
        cases h
        exact en_zret (Or.inr rfl) rfl
/-- BulkWriter$Rows.get(II)I -/
def f_76 (n : Nat) (a0 : Nat) (a1 : Int32) (a2 : Int32) (C : AmC) : Option (Int32 × AmC) := (if a1 < 0 then some ((-100000 : Int32), C) else (if (30 : Int32) ≤ a1 then some ((-100000 : Int32), C) else if isK a0 5 = true then (if (((Int32.toUInt32 (cI C a0 1) >>> (Int32.toUInt32 a1 &&& Int32.toUInt32 31)).toInt32) &&& (1 : Int32)) = 0 then some ((-100000 : Int32), C) else (if a2 < 0 then some ((-100000 : Int32), C) else (if a2 < (4 : Int32) then (cP C a0 0).bind (fun r7 => if isK r7 12 = true then if amIn ((a1 * (4 : Int32)) + a2) (aLen r7) = true then some ((cI C r7 (Int32.toNatClampNeg ((a1 * (4 : Int32)) + a2))), C) else none else none) else some ((-100000 : Int32), C)))) else none))
set_option maxRecDepth 20000 in
set_option maxHeartbeats 4000000 in
theorem t_76 {n : Nat} {a0 : Nat} {a1 : Int32} {a2 : Int32} {C : AmC} {r : Int32} {C' : AmC} (h : f_76 n a0 a1 a2 C = some (r, C')) : En false 76 0 [(0, .ref a0), (1, .int a1), (2, .int a2)] [] (mkM C) (.inl (some (.int r))) (mkM C') := by
  unfold f_76 at h
  refine en_iload rfl rfl ?_
  rcases gi h with ⟨c1, h⟩ | ⟨c1, h⟩
  · refine en_if_lt_t c1 rfl ?_
    refine ec_iconst cst_m100000 rfl ?_
    cases h
    exact en_iret rfl
  · refine en_if_lt_f c1 rfl ?_
    refine en_iload rfl rfl ?_
    refine ec_iconst cst_30 rfl ?_
    rcases gi h with ⟨c2, h⟩ | ⟨c2, h⟩
    · refine en_icmp_ge_t c2 rfl ?_
      refine ec_iconst cst_m100000 rfl ?_
      cases h
      exact en_iret rfl
    · refine en_icmp_ge_f c2 rfl ?_
      refine en_aload rfl rfl ?_
      obtain ⟨g3, h⟩ := gd h
      refine ec_getI (ci := 5) (j := 1) ⟨rfl, rfl, rfl⟩ g3 rfl ?_
      refine en_iload rfl rfl ?_
      refine en_iushr rfl ?_
      refine ec_iconst cst_1 rfl ?_
      refine en_iand rfl ?_
      rcases gi h with ⟨c4, h⟩ | ⟨c4, h⟩
      · refine en_if_eq_t c4 rfl ?_
        refine ec_iconst cst_m100000 rfl ?_
        cases h
        exact en_iret rfl
      · refine en_if_eq_f c4 rfl ?_
        refine en_iload rfl rfl ?_
        rcases gi h with ⟨c5, h⟩ | ⟨c5, h⟩
        · refine en_if_lt_t c5 rfl ?_
          refine ec_iconst cst_m100000 rfl ?_
          cases h
          exact en_iret rfl
        · refine en_if_lt_f c5 rfl ?_
          refine en_iload rfl rfl ?_
          refine ec_iconst cst_4 rfl ?_
          rcases gi h with ⟨c6, h⟩ | ⟨c6, h⟩
          · refine en_icmp_lt_t c6 rfl ?_
            refine en_aload rfl rfl ?_
            obtain ⟨r7, e8, h⟩ := gb h
            refine ec_getP (ci := 5) (j := 0) ⟨rfl, rfl, rfl⟩ g3 e8 rfl ?_
            refine en_iload rfl rfl ?_
            refine ec_iconst cst_4 rfl ?_
            refine en_imul rfl ?_
            refine en_iload rfl rfl ?_
            refine en_iadd rfl ?_
            obtain ⟨g9, h⟩ := gd h
            obtain ⟨g10, h⟩ := gd h
            refine ec_iaload g9 g10 rfl ?_
            cases h
            exact en_iret rfl
          · refine en_icmp_lt_f c6 rfl ?_
            refine ec_iconst cst_m100000 rfl ?_
            cases h
            exact en_iret rfl
/-- BulkWriter$Cursor.rank(LBulkWriter$Rows;I)J -/
def f_7 (n : Nat) (a0 : Nat) (a1 : Nat) (a2 : Int32) (C : AmC) : Option (Int64 × AmC) := if isK a0 0 = true then (if ¬ (cI C a0 0) = (-1 : Int32) then if isK a1 5 = true then (f_76 n a1 a2 (cI C a0 0) C).bind (fun z => match z with | (q4, C5) => (if ¬ (cI C5 a0 1) = (-1 : Int32) then (f_76 n a1 a2 (cI C5 a0 1) C5).bind (fun z => match z with | (q8, C9) => (if (cI C9 a0 2) = 0 then some ((((((Int32.toInt64 (q4 + (9999 : Int32))) * (19999 : Int64)) + (Int32.toInt64 (q8 + (9999 : Int32)))) * (30 : Int64)) + (Int32.toInt64 a2)), C9) else some ((-(((((Int32.toInt64 (q4 + (9999 : Int32))) * (19999 : Int64)) + (Int32.toInt64 (q8 + (9999 : Int32)))) * (30 : Int64)) + (Int32.toInt64 a2))), C9))) else (if (cI C5 a0 2) = 0 then some ((((((Int32.toInt64 (q4 + (9999 : Int32))) * (19999 : Int64)) + (0 : Int64)) * (30 : Int64)) + (Int32.toInt64 a2)), C5) else some ((-(((((Int32.toInt64 (q4 + (9999 : Int32))) * (19999 : Int64)) + (0 : Int64)) * (30 : Int64)) + (Int32.toInt64 a2))), C5)))) else none else some ((Int32.toInt64 a2), C)) else none
set_option maxRecDepth 20000 in
set_option maxHeartbeats 4000000 in
theorem t_7 {n : Nat} {a0 : Nat} {a1 : Nat} {a2 : Int32} {C : AmC} {r : Int64} {C' : AmC} (h : f_7 n a0 a1 a2 C = some (r, C')) : En false 7 0 [(0, .ref a0), (1, .ref a1), (2, .int a2)] [] (mkM C) (.inl (some (.long r))) (mkM C') := by
  unfold f_7 at h
  refine en_aload rfl rfl ?_
  obtain ⟨g1, h⟩ := gd h
  refine ec_getI (ci := 0) (j := 0) ⟨rfl, rfl, rfl⟩ g1 rfl ?_
  refine ec_iconst cst_m1 rfl ?_
  rcases gi h with ⟨c2, h⟩ | ⟨c2, h⟩
  · refine en_icmp_ne_t c2 rfl ?_
    refine en_aload rfl rfl ?_
    refine en_iload rfl rfl ?_
    refine en_aload rfl rfl ?_
    refine ec_getI (ci := 0) (j := 0) ⟨rfl, rfl, rfl⟩ g1 rfl ?_
    obtain ⟨g3, h⟩ := gd h
    obtain ⟨⟨q4, C5⟩, e6, h⟩ := gb h
    dsimp only at h
    refine ec_callV1 (k' := 76) (n := 3) (rc := 5) (a := a1) (as := [.int a2, .int (cI C a0 0)]) ⟨rfl, rfl⟩ rfl rfl (Nat.le_of_ble_eq_true rfl) (Nat.le_of_ble_eq_true rfl) (Nat.le_of_ble_eq_true rfl) g3 rfl (t_76 e6) ?_
    refine ec_iconst cst_9999 rfl ?_
    refine en_iadd rfl ?_
    refine en_i2l rfl ?_
    refine en_lstore (l' := [(3, .long (Int32.toInt64 (q4 + (9999 : Int32)))), (0, .ref a0), (1, .ref a1), (2, .int a2)]) rfl rfl ?_
    refine en_aload rfl rfl ?_
    refine ec_getI (ci := 0) (j := 1) ⟨rfl, rfl, rfl⟩ g1 rfl ?_
    refine ec_iconst cst_m1 rfl ?_
    rcases gi h with ⟨c7, h⟩ | ⟨c7, h⟩
    · refine en_icmp_ne_t c7 rfl ?_
      refine en_aload rfl rfl ?_
      refine en_iload rfl rfl ?_
      refine en_aload rfl rfl ?_
      refine ec_getI (ci := 0) (j := 1) ⟨rfl, rfl, rfl⟩ g1 rfl ?_
      obtain ⟨⟨q8, C9⟩, e10, h⟩ := gb h
      dsimp only at h
      refine ec_callV1 (k' := 76) (n := 3) (rc := 5) (a := a1) (as := [.int a2, .int (cI C5 a0 1)]) ⟨rfl, rfl⟩ rfl rfl (Nat.le_of_ble_eq_true rfl) (Nat.le_of_ble_eq_true rfl) (Nat.le_of_ble_eq_true rfl) g3 rfl (t_76 e10) ?_
      refine ec_iconst cst_9999 rfl ?_
      refine en_iadd rfl ?_
      refine en_i2l rfl ?_
      refine en_lstore (l' := [(5, .long (Int32.toInt64 (q8 + (9999 : Int32)))), (3, .long (Int32.toInt64 (q4 + (9999 : Int32)))), (0, .ref a0), (1, .ref a1), (2, .int a2)]) rfl rfl ?_
      refine en_lload rfl rfl ?_
      refine ec_lconst cst_19999L rfl ?_
      refine en_lmul rfl ?_
      refine en_lload rfl rfl ?_
      refine en_ladd rfl ?_
      refine ec_lconst cst_30L rfl ?_
      refine en_lmul rfl ?_
      refine en_iload rfl rfl ?_
      refine en_i2l rfl ?_
      refine en_ladd rfl ?_
      refine en_lstore (l' := [(7, .long (((((Int32.toInt64 (q4 + (9999 : Int32))) * (19999 : Int64)) + (Int32.toInt64 (q8 + (9999 : Int32)))) * (30 : Int64)) + (Int32.toInt64 a2))), (5, .long (Int32.toInt64 (q8 + (9999 : Int32)))), (3, .long (Int32.toInt64 (q4 + (9999 : Int32)))), (0, .ref a0), (1, .ref a1), (2, .int a2)]) rfl rfl ?_
      refine en_aload rfl rfl ?_
      refine ec_getI (ci := 0) (j := 2) ⟨rfl, rfl, rfl⟩ g1 rfl ?_
      rcases gi h with ⟨c11, h⟩ | ⟨c11, h⟩
      · refine en_if_eq_t c11 rfl ?_
        refine en_lload rfl rfl ?_
        cases h
        exact en_lret rfl
      · refine en_if_eq_f c11 rfl ?_
        refine en_lload rfl rfl ?_
        refine en_lneg rfl ?_
        refine en_goto rfl ?_
        cases h
        exact en_lret rfl
    · refine en_icmp_ne_f c7 rfl ?_
      refine ec_lconst cst_0L rfl ?_
      refine en_goto rfl ?_
      refine en_lstore (l' := [(5, .long (0 : Int64)), (3, .long (Int32.toInt64 (q4 + (9999 : Int32)))), (0, .ref a0), (1, .ref a1), (2, .int a2)]) rfl rfl ?_
      refine en_lload rfl rfl ?_
      refine ec_lconst cst_19999L rfl ?_
      refine en_lmul rfl ?_
      refine en_lload rfl rfl ?_
      refine en_ladd rfl ?_
      refine ec_lconst cst_30L rfl ?_
      refine en_lmul rfl ?_
      refine en_iload rfl rfl ?_
      refine en_i2l rfl ?_
      refine en_ladd rfl ?_
      refine en_lstore (l' := [(7, .long (((((Int32.toInt64 (q4 + (9999 : Int32))) * (19999 : Int64)) + (0 : Int64)) * (30 : Int64)) + (Int32.toInt64 a2))), (5, .long (0 : Int64)), (3, .long (Int32.toInt64 (q4 + (9999 : Int32)))), (0, .ref a0), (1, .ref a1), (2, .int a2)]) rfl rfl ?_
      refine en_aload rfl rfl ?_
      refine ec_getI (ci := 0) (j := 2) ⟨rfl, rfl, rfl⟩ g1 rfl ?_
      rcases gi h with ⟨c12, h⟩ | ⟨c12, h⟩
      · refine en_if_eq_t c12 rfl ?_
        refine en_lload rfl rfl ?_
        cases h
        exact en_lret rfl
      · refine en_if_eq_f c12 rfl ?_
        refine en_lload rfl rfl ?_
        refine en_lneg rfl ?_
        refine en_goto rfl ?_
        cases h
        exact en_lret rfl
  · refine en_icmp_ne_f c2 rfl ?_
    refine en_iload rfl rfl ?_
    refine en_i2l rfl ?_
    cases h
    exact en_lret rfl
/-- BulkWriter$Cursor.isInRange(LBulkWriter$Rows;I)Z -/
def f_6 (n : Nat) (a0 : Nat) (a1 : Nat) (a2 : Int32) (C : AmC) : Option (Int32 × AmC) := if isK a0 0 = true then (if (cI C a0 0) = (-1 : Int32) then some ((1 : Int32), C) else if isK a1 5 = true then (f_76 n a1 a2 (cI C a0 0) C).bind (fun z => match z with | (q4, C5) => (if q4 < (cI C5 a0 3) then some ((0 : Int32), C5) else (f_76 n a1 a2 (cI C5 a0 0) C5).bind (fun z => match z with | (q8, C9) => (if (cI C9 a0 4) < q8 then some ((0 : Int32), C9) else some ((1 : Int32), C9))))) else none) else none
set_option maxRecDepth 20000 in
set_option maxHeartbeats 4000000 in
theorem t_6 {n : Nat} {a0 : Nat} {a1 : Nat} {a2 : Int32} {C : AmC} {r : Int32} {C' : AmC} (h : f_6 n a0 a1 a2 C = some (r, C')) : En false 6 0 [(0, .ref a0), (1, .ref a1), (2, .int a2)] [] (mkM C) (.inl (some (.int r))) (mkM C') := by
  unfold f_6 at h
  refine en_aload rfl rfl ?_
  obtain ⟨g1, h⟩ := gd h
  refine ec_getI (ci := 0) (j := 0) ⟨rfl, rfl, rfl⟩ g1 rfl ?_
  refine ec_iconst cst_m1 rfl ?_
  rcases gi h with ⟨c2, h⟩ | ⟨c2, h⟩
  · refine en_icmp_eq_t c2 rfl ?_
    refine ec_iconst cst_1 rfl ?_
    refine en_goto rfl ?_
    cases h
    exact en_zret (Or.inr rfl) rfl
  · refine en_icmp_eq_f c2 rfl ?_
    refine en_aload rfl rfl ?_
    refine en_iload rfl rfl ?_
    refine en_aload rfl rfl ?_
    refine ec_getI (ci := 0) (j := 0) ⟨rfl, rfl, rfl⟩ g1 rfl ?_
    obtain ⟨g3, h⟩ := gd h
    obtain ⟨⟨q4, C5⟩, e6, h⟩ := gb h
    dsimp only at h
    refine ec_callV1 (k' := 76) (n := 3) (rc := 5) (a := a1) (as := [.int a2, .int (cI C a0 0)]) ⟨rfl, rfl⟩ rfl rfl (Nat.le_of_ble_eq_true rfl) (Nat.le_of_ble_eq_true rfl) (Nat.le_of_ble_eq_true rfl) g3 rfl (t_76 e6) ?_
    refine en_aload rfl rfl ?_
    refine ec_getI (ci := 0) (j := 3) ⟨rfl, rfl, rfl⟩ g1 rfl ?_
    rcases gi h with ⟨c7, h⟩ | ⟨c7, h⟩
    · refine en_icmp_lt_t c7 rfl ?_
      refine ec_iconst cst_0 rfl ?_
      cases h
      exact en_zret (Or.inl rfl) rfl
    · refine en_icmp_lt_f c7 rfl ?_
      refine en_aload rfl rfl ?_
      refine en_iload rfl rfl ?_
      refine en_aload rfl rfl ?_
      refine ec_getI (ci := 0) (j := 0) ⟨rfl, rfl, rfl⟩ g1 rfl ?_
      obtain ⟨⟨q8, C9⟩, e10, h⟩ := gb h
      dsimp only at h
      refine ec_callV1 (k' := 76) (n := 3) (rc := 5) (a := a1) (as := [.int a2, .int (cI C5 a0 0)]) ⟨rfl, rfl⟩ rfl rfl (Nat.le_of_ble_eq_true rfl) (Nat.le_of_ble_eq_true rfl) (Nat.le_of_ble_eq_true rfl) g3 rfl (t_76 e10) ?_
      refine en_aload rfl rfl ?_
      refine ec_getI (ci := 0) (j := 4) ⟨rfl, rfl, rfl⟩ g1 rfl ?_
      rcases gi h with ⟨c11, h⟩ | ⟨c11, h⟩
      · refine en_icmp_gt_t c11 rfl ?_
        refine ec_iconst cst_0 rfl ?_
        cases h
        exact en_zret (Or.inl rfl) rfl
      · refine en_icmp_gt_f c11 rfl ?_
        refine ec_iconst cst_1 rfl ?_
        refine en_goto rfl ?_
        cases h
        exact en_zret (Or.inr rfl) rfl
def lp_5_6 : Nat → Nat → Nat → Int32 → Int64 → Int32 → AmC → Option (((Nat × Int32 × Int64)) × AmC)
  | 0, _, _, _, _, _, _ => none
  | n + 1, p0, p1, p2, p3, p5, C => (if (30 : Int32) ≤ p5 then some ((p0, p2, p3), C) else if isK p1 5 = true then (f_75 n p1 p5 C).bind (fun z => match z with | (q3, C4) => (if ¬ q3 = 0 then if isK p0 0 = true then (f_7 n p0 p1 p5 C4).bind (fun z => match z with | (q8, C9) => (if (lg_cmp q8 (cJ C9 p0 5)) ≤ 0 then lp_5_6 n p0 p1 p2 p3 (p5 + (1 : Int32)) C9 else (if 0 ≤ (lg_cmp q8 p3) then lp_5_6 n p0 p1 p2 p3 (p5 + (1 : Int32)) C9 else (f_6 n p0 p1 p5 C9).bind (fun z => match z with | (q13, C14) => (if q13 = 0 then lp_5_6 n p0 p1 p2 p3 (p5 + (1 : Int32)) C14 else lp_5_6 n p0 p1 p5 q8 (p5 + (1 : Int32)) C14))))) else none else lp_5_6 n p0 p1 p2 p3 (p5 + (1 : Int32)) C4)) else none)
set_option maxRecDepth 20000 in
set_option maxHeartbeats 4000000 in
theorem lt_5_6 : ∀ (n : Nat) (p0 : Nat) (p1 : Nat) (p2 : Int32) (p3 : Int64) (p5 : Int32) (C : AmC) (r : ((Nat × Int32 × Int64)) × AmC), lp_5_6 n p0 p1 p2 p3 p5 C = some r → ∀ (o : AmO) (M' : AmM), (match r with
        | ((w0, w2, w3), C') => En false 5 39 [(0, .ref w0), (2, .int w2), (3, .long w3)] [] (mkM C') o M') → En false 5 6 [(0, .ref p0), (1, .ref p1), (2, .int p2), (3, .long p3), (5, .int p5)] [] (mkM C) o M' := by
  intro n
  induction n with
  | zero => intro p0 p1 p2 p3 p5 C r h; cases h
  | succ n ih =>
    intro p0 p1 p2 p3 p5 C r h o M' hk
    unfold lp_5_6 at h
    refine en_iload rfl rfl ?_
    refine ec_iconst cst_30 rfl ?_
    rcases gi h with ⟨c1, h⟩ | ⟨c1, h⟩
    · refine en_icmp_ge_t c1 rfl ?_
      cases h
      exact en_sub [0, 2, 3] rfl rfl hk
    · refine en_icmp_ge_f c1 rfl ?_
      refine en_aload rfl rfl ?_
      refine en_iload rfl rfl ?_
      obtain ⟨g2, h⟩ := gd h
      obtain ⟨⟨q3, C4⟩, e5, h⟩ := gb h
      dsimp only at h
      refine ec_callV1 (k' := 75) (n := 2) (rc := 5) (a := p1) (as := [.int p5]) ⟨rfl, rfl⟩ rfl rfl (Nat.le_of_ble_eq_true rfl) (Nat.le_of_ble_eq_true rfl) (Nat.le_of_ble_eq_true rfl) g2 rfl (t_75 e5) ?_
      rcases gi h with ⟨c6, h⟩ | ⟨c6, h⟩
      · refine en_if_ne_t c6 rfl ?_
        refine en_aload rfl rfl ?_
        refine en_aload rfl rfl ?_
        refine en_iload rfl rfl ?_
        obtain ⟨g7, h⟩ := gd h
        obtain ⟨⟨q8, C9⟩, e10, h⟩ := gb h
        dsimp only at h
        refine ec_callV1 (k' := 7) (n := 3) (rc := 0) (a := p0) (as := [.ref p1, .int p5]) ⟨rfl, rfl⟩ rfl rfl (Nat.le_of_ble_eq_true rfl) (Nat.le_of_ble_eq_true rfl) (Nat.le_of_ble_eq_true rfl) g7 rfl (t_7 e10) ?_
        refine en_lstore (l' := [(6, .long q8), (0, .ref p0), (1, .ref p1), (2, .int p2), (3, .long p3), (5, .int p5)]) rfl rfl ?_
        refine en_lload rfl rfl ?_
        refine en_aload rfl rfl ?_
        refine ec_getJ (ci := 0) (j := 5) ⟨rfl, rfl, rfl⟩ g7 rfl ?_
        refine en_lcmp rfl ?_
        rcases gi h with ⟨c11, h⟩ | ⟨c11, h⟩
        · refine en_if_le_t c11 rfl ?_
          refine ec_iinc (l' := [(5, .int (p5 + (1 : Int32))), (6, .long q8), (0, .ref p0), (1, .ref p1), (2, .int p2), (3, .long p3)]) rfl cst_1 rfl rfl ?_
          refine en_goto rfl ?_
          refine en_sub [2, 3, 4, 5, 0] rfl rfl ?_
          exact ih _ _ _ _ _ _ _ h o M' hk
        · refine en_if_le_f c11 rfl ?_
          refine en_lload rfl rfl ?_
          refine en_lload rfl rfl ?_
          refine en_lcmp rfl ?_
          rcases gi h with ⟨c12, h⟩ | ⟨c12, h⟩
          · refine en_if_ge_t c12 rfl ?_
            refine ec_iinc (l' := [(5, .int (p5 + (1 : Int32))), (6, .long q8), (0, .ref p0), (1, .ref p1), (2, .int p2), (3, .long p3)]) rfl cst_1 rfl rfl ?_
            refine en_goto rfl ?_
            refine en_sub [2, 3, 4, 5, 0] rfl rfl ?_
            exact ih _ _ _ _ _ _ _ h o M' hk
          · refine en_if_ge_f c12 rfl ?_
            refine en_aload rfl rfl ?_
            refine en_aload rfl rfl ?_
            refine en_iload rfl rfl ?_
            obtain ⟨⟨q13, C14⟩, e15, h⟩ := gb h
            dsimp only at h
            refine ec_callV1 (k' := 6) (n := 3) (rc := 0) (a := p0) (as := [.ref p1, .int p5]) ⟨rfl, rfl⟩ rfl rfl (Nat.le_of_ble_eq_true rfl) (Nat.le_of_ble_eq_true rfl) (Nat.le_of_ble_eq_true rfl) g7 rfl (t_6 e15) ?_
            rcases gi h with ⟨c16, h⟩ | ⟨c16, h⟩
            · refine en_if_eq_t c16 rfl ?_
              refine ec_iinc (l' := [(5, .int (p5 + (1 : Int32))), (6, .long q8), (0, .ref p0), (1, .ref p1), (2, .int p2), (3, .long p3)]) rfl cst_1 rfl rfl ?_
              refine en_goto rfl ?_
              refine en_sub [2, 3, 4, 5, 0] rfl rfl ?_
              exact ih _ _ _ _ _ _ _ h o M' hk
            · refine en_if_eq_f c16 rfl ?_
              refine en_lload rfl rfl ?_
              refine en_lstore (l' := [(3, .long q8), (6, .long q8), (0, .ref p0), (1, .ref p1), (2, .int p2), (5, .int p5)]) rfl rfl ?_
              refine en_iload rfl rfl ?_
              refine en_istore (l' := [(2, .int p5), (3, .long q8), (6, .long q8), (0, .ref p0), (1, .ref p1), (5, .int p5)]) rfl rfl ?_
              refine ec_iinc (l' := [(5, .int (p5 + (1 : Int32))), (2, .int p5), (3, .long q8), (6, .long q8), (0, .ref p0), (1, .ref p1)]) rfl cst_1 rfl rfl ?_
              refine en_goto rfl ?_
              refine en_sub [4, 5, 1, 2, 0] rfl rfl ?_
              exact ih _ _ _ _ _ _ _ h o M' hk
      · refine en_if_ne_f c6 rfl ?_
        refine en_goto rfl ?_
        refine ec_iinc (l' := [(5, .int (p5 + (1 : Int32))), (0, .ref p0), (1, .ref p1), (2, .int p2), (3, .long p3)]) rfl cst_1 rfl rfl ?_
        refine en_goto rfl ?_
        refine en_sub [1, 2, 3, 4, 0] rfl rfl ?_
        exact ih _ _ _ _ _ _ _ h o M' hk
/-- BulkWriter$Cursor.next(LBulkWriter$Rows;)I -/
def f_5 (n : Nat) (a0 : Nat) (a1 : Nat) (C : AmC) : Option (Int32 × AmC) := (lp_5_6 n a0 a1 (-1 : Int32) (1152921504606846976 : Int64) (0 : Int32) C).bind (fun q => match q with | ((u20, u21, u22), C19) => (if u21 = (-1 : Int32) then some (u21, C19) else if isK u20 0 = true then some (u21, uJ C19 u20 5 u22) else none))
set_option maxRecDepth 20000 in
set_option maxHeartbeats 4000000 in
theorem t_5 {n : Nat} {a0 : Nat} {a1 : Nat} {C : AmC} {r : Int32} {C' : AmC} (h : f_5 n a0 a1 C = some (r, C')) : En false 5 0 [(0, .ref a0), (1, .ref a1)] [] (mkM C) (.inl (some (.int r))) (mkM C') := by
  unfold f_5 at h
  refine ec_iconst cst_m1 rfl ?_
  refine en_istore (l' := [(2, .int (-1 : Int32)), (0, .ref a0), (1, .ref a1)]) rfl rfl ?_
  refine ec_lconst cst_1152921504606846976L rfl ?_
  refine en_lstore (l' := [(3, .long (1152921504606846976 : Int64)), (2, .int (-1 : Int32)), (0, .ref a0), (1, .ref a1)]) rfl rfl ?_
  refine ec_iconst cst_0 rfl ?_
  refine en_istore (l' := [(5, .int (0 : Int32)), (3, .long (1152921504606846976 : Int64)), (2, .int (-1 : Int32)), (0, .ref a0), (1, .ref a1)]) rfl rfl ?_
  obtain ⟨⟨q17, C19⟩, e18, h⟩ := gb h
  refine en_sub [3, 4, 2, 1, 0] rfl rfl (lt_5_6 n _ _ _ _ _ _ _ e18 _ _ ?_)
  obtain ⟨u20, u21, u22⟩ := q17
  dsimp only at h ⊢
  refine en_iload rfl rfl ?_
  refine ec_iconst cst_m1 rfl ?_
  rcases gi h with ⟨c23, h⟩ | ⟨c23, h⟩
  · refine en_icmp_eq_t c23 rfl ?_
    refine en_iload rfl rfl ?_
    cases h
    exact en_iret rfl
  · refine en_icmp_eq_f c23 rfl ?_
    refine en_aload rfl rfl ?_
    refine en_lload rfl rfl ?_
    obtain ⟨g24, h⟩ := gd h
    refine ec_putJ (ci := 0) (j := 5) ⟨rfl, rfl, rfl⟩ g24 rfl ?_
    refine en_iload rfl rfl ?_
    cases h
    exact en_iret rfl
/-- BulkWriter$History.empty()V -/
def f_9 (n : Nat) (a0 : Nat) (C : AmC) : Option (Unit × AmC) := if isK a0 1 = true then some ((), uI (uI C a0 2 (0 : Int32)) a0 3 (0 : Int32)) else none
set_option maxRecDepth 20000 in
set_option maxHeartbeats 4000000 in
theorem t_9 {n : Nat} {a0 : Nat} {C : AmC} {r : Unit} {C' : AmC} (h : f_9 n a0 C = some (r, C')) : En false 9 0 [(0, .ref a0)] [] (mkM C) (.inl none) (mkM C') := by
  unfold f_9 at h
  refine en_aload rfl rfl ?_
  refine ec_iconst cst_0 rfl ?_
  obtain ⟨g1, h⟩ := gd h
  refine ec_putI (ci := 1) (j := 2) ⟨rfl, rfl, rfl⟩ g1 rfl ?_
  refine en_aload rfl rfl ?_
  refine ec_iconst cst_0 rfl ?_
  refine ec_putI (ci := 1) (j := 3) ⟨rfl, rfl, rfl⟩ g1 rfl ?_
  cases h
  exact en_vret rfl
/-- BulkWriter$History.copyFrom(LBulkWriter$History;)V -/
def f_10 (n : Nat) (a0 : Nat) (a1 : Nat) (C : AmC) : Option (Unit × AmC) := if isK a1 1 = true then (cP C a1 0).bind (fun r2 => if isK a0 1 = true then (cP C a0 0).bind (fun r5 => (cP C a0 0).bind (fun r7 => if isK r7 12 = true then if isK r2 12 = true then if isK r5 12 = true then if ¬ (0 : Int32) < 0 ∧ ¬ (0 : Int32) < 0 ∧ ¬ (Int32.ofNat (aLen r7)) < 0 ∧ Int32.toNatClampNeg (0 : Int32) + Int32.toNatClampNeg (Int32.ofNat (aLen r7)) ≤ aLen r2 ∧ Int32.toNatClampNeg (0 : Int32) + Int32.toNatClampNeg (Int32.ofNat (aLen r7)) ≤ aLen r5 then (cP (uA C r5 (va_cpy (cI C r2) (cI C r5) (Int32.toNatClampNeg (0 : Int32)) (Int32.toNatClampNeg (0 : Int32)) (Int32.toNatClampNeg (Int32.ofNat (aLen r7))))) a1 1).bind (fun r13 => (cP (uA C r5 (va_cpy (cI C r2) (cI C r5) (Int32.toNatClampNeg (0 : Int32)) (Int32.toNatClampNeg (0 : Int32)) (Int32.toNatClampNeg (Int32.ofNat (aLen r7))))) a0 1).bind (fun r15 => (cP (uA C r5 (va_cpy (cI C r2) (cI C r5) (Int32.toNatClampNeg (0 : Int32)) (Int32.toNatClampNeg (0 : Int32)) (Int32.toNatClampNeg (Int32.ofNat (aLen r7))))) a0 1).bind (fun r17 => if isK r17 12 = true then if isK r13 12 = true then if isK r15 12 = true then if ¬ (0 : Int32) < 0 ∧ ¬ (0 : Int32) < 0 ∧ ¬ (Int32.ofNat (aLen r17)) < 0 ∧ Int32.toNatClampNeg (0 : Int32) + Int32.toNatClampNeg (Int32.ofNat (aLen r17)) ≤ aLen r13 ∧ Int32.toNatClampNeg (0 : Int32) + Int32.toNatClampNeg (Int32.ofNat (aLen r17)) ≤ aLen r15 then some ((), uI (uI (uA (uA C r5 (va_cpy (cI C r2) (cI C r5) (Int32.toNatClampNeg (0 : Int32)) (Int32.toNatClampNeg (0 : Int32)) (Int32.toNatClampNeg (Int32.ofNat (aLen r7))))) r15 (va_cpy (cI (uA C r5 (va_cpy (cI C r2) (cI C r5) (Int32.toNatClampNeg (0 : Int32)) (Int32.toNatClampNeg (0 : Int32)) (Int32.toNatClampNeg (Int32.ofNat (aLen r7))))) r13) (cI (uA C r5 (va_cpy (cI C r2) (cI C r5) (Int32.toNatClampNeg (0 : Int32)) (Int32.toNatClampNeg (0 : Int32)) (Int32.toNatClampNeg (Int32.ofNat (aLen r7))))) r15) (Int32.toNatClampNeg (0 : Int32)) (Int32.toNatClampNeg (0 : Int32)) (Int32.toNatClampNeg (Int32.ofNat (aLen r17))))) a0 2 (cI (uA (uA C r5 (va_cpy (cI C r2) (cI C r5) (Int32.toNatClampNeg (0 : Int32)) (Int32.toNatClampNeg (0 : Int32)) (Int32.toNatClampNeg (Int32.ofNat (aLen r7))))) r15 (va_cpy (cI (uA C r5 (va_cpy (cI C r2) (cI C r5) (Int32.toNatClampNeg (0 : Int32)) (Int32.toNatClampNeg (0 : Int32)) (Int32.toNatClampNeg (Int32.ofNat (aLen r7))))) r13) (cI (uA C r5 (va_cpy (cI C r2) (cI C r5) (Int32.toNatClampNeg (0 : Int32)) (Int32.toNatClampNeg (0 : Int32)) (Int32.toNatClampNeg (Int32.ofNat (aLen r7))))) r15) (Int32.toNatClampNeg (0 : Int32)) (Int32.toNatClampNeg (0 : Int32)) (Int32.toNatClampNeg (Int32.ofNat (aLen r17))))) a1 2)) a0 3 (cI (uI (uA (uA C r5 (va_cpy (cI C r2) (cI C r5) (Int32.toNatClampNeg (0 : Int32)) (Int32.toNatClampNeg (0 : Int32)) (Int32.toNatClampNeg (Int32.ofNat (aLen r7))))) r15 (va_cpy (cI (uA C r5 (va_cpy (cI C r2) (cI C r5) (Int32.toNatClampNeg (0 : Int32)) (Int32.toNatClampNeg (0 : Int32)) (Int32.toNatClampNeg (Int32.ofNat (aLen r7))))) r13) (cI (uA C r5 (va_cpy (cI C r2) (cI C r5) (Int32.toNatClampNeg (0 : Int32)) (Int32.toNatClampNeg (0 : Int32)) (Int32.toNatClampNeg (Int32.ofNat (aLen r7))))) r15) (Int32.toNatClampNeg (0 : Int32)) (Int32.toNatClampNeg (0 : Int32)) (Int32.toNatClampNeg (Int32.ofNat (aLen r17))))) a0 2 (cI (uA (uA C r5 (va_cpy (cI C r2) (cI C r5) (Int32.toNatClampNeg (0 : Int32)) (Int32.toNatClampNeg (0 : Int32)) (Int32.toNatClampNeg (Int32.ofNat (aLen r7))))) r15 (va_cpy (cI (uA C r5 (va_cpy (cI C r2) (cI C r5) (Int32.toNatClampNeg (0 : Int32)) (Int32.toNatClampNeg (0 : Int32)) (Int32.toNatClampNeg (Int32.ofNat (aLen r7))))) r13) (cI (uA C r5 (va_cpy (cI C r2) (cI C r5) (Int32.toNatClampNeg (0 : Int32)) (Int32.toNatClampNeg (0 : Int32)) (Int32.toNatClampNeg (Int32.ofNat (aLen r7))))) r15) (Int32.toNatClampNeg (0 : Int32)) (Int32.toNatClampNeg (0 : Int32)) (Int32.toNatClampNeg (Int32.ofNat (aLen r17))))) a1 2)) a1 3)) else none else none else none else none))) else none else none else none else none)) else none) else none
set_option maxRecDepth 20000 in
set_option maxHeartbeats 4000000 in
theorem t_10 {n : Nat} {a0 : Nat} {a1 : Nat} {C : AmC} {r : Unit} {C' : AmC} (h : f_10 n a0 a1 C = some (r, C')) : En false 10 0 [(0, .ref a0), (1, .ref a1)] [] (mkM C) (.inl none) (mkM C') := by
  unfold f_10 at h
  refine en_aload rfl rfl ?_
  obtain ⟨g1, h⟩ := gd h
  obtain ⟨r2, e3, h⟩ := gb h
  refine ec_getP (ci := 1) (j := 0) ⟨rfl, rfl, rfl⟩ g1 e3 rfl ?_
  refine ec_iconst cst_0 rfl ?_
  refine en_aload rfl rfl ?_
  obtain ⟨g4, h⟩ := gd h
  obtain ⟨r5, e6, h⟩ := gb h
  refine ec_getP (ci := 1) (j := 0) ⟨rfl, rfl, rfl⟩ g4 e6 rfl ?_
  refine ec_iconst cst_0 rfl ?_
  refine en_aload rfl rfl ?_
  obtain ⟨r7, e8, h⟩ := gb h
  refine ec_getP (ci := 1) (j := 0) ⟨rfl, rfl, rfl⟩ g4 e8 rfl ?_
  obtain ⟨g9, h⟩ := gd h
  refine ec_alen g9 (by decide) rfl ?_
  obtain ⟨g10, h⟩ := gd h
  obtain ⟨g11, h⟩ := gd h
  obtain ⟨g12, h⟩ := gd h
  refine ec_copy g10 g11 g12 (Nat.le_of_ble_eq_true rfl) rfl ?_
  refine en_aload rfl rfl ?_
  obtain ⟨r13, e14, h⟩ := gb h
  refine ec_getP (ci := 1) (j := 1) ⟨rfl, rfl, rfl⟩ g1 e14 rfl ?_
  refine ec_iconst cst_0 rfl ?_
  refine en_aload rfl rfl ?_
  obtain ⟨r15, e16, h⟩ := gb h
  refine ec_getP (ci := 1) (j := 1) ⟨rfl, rfl, rfl⟩ g4 e16 rfl ?_
  refine ec_iconst cst_0 rfl ?_
  refine en_aload rfl rfl ?_
  obtain ⟨r17, e18, h⟩ := gb h
  refine ec_getP (ci := 1) (j := 1) ⟨rfl, rfl, rfl⟩ g4 e18 rfl ?_
  obtain ⟨g19, h⟩ := gd h
  refine ec_alen g19 (by decide) rfl ?_
  obtain ⟨g20, h⟩ := gd h
  obtain ⟨g21, h⟩ := gd h
  obtain ⟨g22, h⟩ := gd h
  refine ec_copy g20 g21 g22 (Nat.le_of_ble_eq_true rfl) rfl ?_
  refine en_aload rfl rfl ?_
  refine en_aload rfl rfl ?_
  refine ec_getI (ci := 1) (j := 2) ⟨rfl, rfl, rfl⟩ g1 rfl ?_
  refine ec_putI (ci := 1) (j := 2) ⟨rfl, rfl, rfl⟩ g4 rfl ?_
  refine en_aload rfl rfl ?_
  refine en_aload rfl rfl ?_
  refine ec_getI (ci := 1) (j := 3) ⟨rfl, rfl, rfl⟩ g1 rfl ?_
  refine ec_putI (ci := 1) (j := 3) ⟨rfl, rfl, rfl⟩ g4 rfl ?_
  cases h
  exact en_vret rfl
/-- BulkWriter$Rows.saveTo([II)V -/
def f_73 (n : Nat) (a0 : Nat) (a1 : Nat) (a2 : Int32) (C : AmC) : Option (Unit × AmC) := (if a2 < 0 then some ((), C) else if isK a1 12 = true then if isK a0 5 = true then (cP C a0 0).bind (fun r4 => if isK r4 12 = true then (if ((Int32.ofNat (aLen a1)) - (Int32.ofNat (aLen r4))) < a2 then some ((), C) else (cP C a0 0).bind (fun r8 => (cP C a0 0).bind (fun r10 => if isK r10 12 = true then if isK r8 12 = true then if ¬ (0 : Int32) < 0 ∧ ¬ a2 < 0 ∧ ¬ (Int32.ofNat (aLen r10)) < 0 ∧ Int32.toNatClampNeg (0 : Int32) + Int32.toNatClampNeg (Int32.ofNat (aLen r10)) ≤ aLen r8 ∧ Int32.toNatClampNeg a2 + Int32.toNatClampNeg (Int32.ofNat (aLen r10)) ≤ aLen a1 then some ((), uA C a1 (va_cpy (cI C r8) (cI C a1) (Int32.toNatClampNeg (0 : Int32)) (Int32.toNatClampNeg a2) (Int32.toNatClampNeg (Int32.ofNat (aLen r10))))) else none else none else none))) else none) else none else none)
set_option maxRecDepth 20000 in
set_option maxHeartbeats 4000000 in
theorem t_73 {n : Nat} {a0 : Nat} {a1 : Nat} {a2 : Int32} {C : AmC} {r : Unit} {C' : AmC} (h : f_73 n a0 a1 a2 C = some (r, C')) : En false 73 0 [(0, .ref a0), (1, .ref a1), (2, .int a2)] [] (mkM C) (.inl none) (mkM C') := by
  unfold f_73 at h
  refine en_iload rfl rfl ?_
  rcases gi h with ⟨c1, h⟩ | ⟨c1, h⟩
  · refine en_if_lt_t c1 rfl ?_
    cases h
    exact en_vret rfl
  · refine en_if_lt_f c1 rfl ?_
    refine en_iload rfl rfl ?_
    refine en_aload rfl rfl ?_
    obtain ⟨g2, h⟩ := gd h
    refine ec_alen g2 (by decide) rfl ?_
    refine en_aload rfl rfl ?_
    obtain ⟨g3, h⟩ := gd h
    obtain ⟨r4, e5, h⟩ := gb h
    refine ec_getP (ci := 5) (j := 0) ⟨rfl, rfl, rfl⟩ g3 e5 rfl ?_
    obtain ⟨g6, h⟩ := gd h
    refine ec_alen g6 (by decide) rfl ?_
    refine en_isub rfl ?_
    rcases gi h with ⟨c7, h⟩ | ⟨c7, h⟩
    · refine en_icmp_gt_t c7 rfl ?_
      cases h
      exact en_vret rfl
    · refine en_icmp_gt_f c7 rfl ?_
      refine en_aload rfl rfl ?_
      obtain ⟨r8, e9, h⟩ := gb h
      refine ec_getP (ci := 5) (j := 0) ⟨rfl, rfl, rfl⟩ g3 e9 rfl ?_
      refine ec_iconst cst_0 rfl ?_
      refine en_aload rfl rfl ?_
      refine en_iload rfl rfl ?_
      refine en_aload rfl rfl ?_
      obtain ⟨r10, e11, h⟩ := gb h
      refine ec_getP (ci := 5) (j := 0) ⟨rfl, rfl, rfl⟩ g3 e11 rfl ?_
      obtain ⟨g12, h⟩ := gd h
      refine ec_alen g12 (by decide) rfl ?_
      obtain ⟨g13, h⟩ := gd h
      obtain ⟨g14, h⟩ := gd h
      refine ec_copy g13 g2 g14 (Nat.le_of_ble_eq_true rfl) rfl ?_
      cases h
      exact en_vret rfl
/-- BulkWriter$History.push(LBulkWriter$Rows;)V -/
def f_11 (n : Nat) (a0 : Nat) (a1 : Nat) (C : AmC) : Option (Unit × AmC) := if isK a0 1 = true then (if (cI C a0 2) < 0 then some ((), C) else (if (cI C a0 2) < (40 : Int32) then (cP C a0 0).bind (fun r4 => if isK a1 5 = true then (f_73 n a1 r4 ((cI C a0 2) * (120 : Int32)) C).bind (fun z => match z with | (_, C8) => (cP C8 a0 1).bind (fun r10 => if isK r10 12 = true then if amIn (cI C8 a0 2) (aLen r10) = true then some ((), uI (uI (uI C8 r10 (Int32.toNatClampNeg (cI C8 a0 2)) (cI C8 a1 1)) a0 2 (((cI (uI C8 r10 (Int32.toNatClampNeg (cI C8 a0 2)) (cI C8 a1 1)) a0 2) + (1 : Int32)) - ((cI (uI C8 r10 (Int32.toNatClampNeg (cI C8 a0 2)) (cI C8 a1 1)) a0 2) + (1 : Int32)) / (40 : Int32) * (40 : Int32))) a0 3 (if (40 : Int32) < ((cI (uI (uI C8 r10 (Int32.toNatClampNeg (cI C8 a0 2)) (cI C8 a1 1)) a0 2 (((cI (uI C8 r10 (Int32.toNatClampNeg (cI C8 a0 2)) (cI C8 a1 1)) a0 2) + (1 : Int32)) - ((cI (uI C8 r10 (Int32.toNatClampNeg (cI C8 a0 2)) (cI C8 a1 1)) a0 2) + (1 : Int32)) / (40 : Int32) * (40 : Int32))) a0 3) + (1 : Int32)) then (40 : Int32) else ((cI (uI (uI C8 r10 (Int32.toNatClampNeg (cI C8 a0 2)) (cI C8 a1 1)) a0 2 (((cI (uI C8 r10 (Int32.toNatClampNeg (cI C8 a0 2)) (cI C8 a1 1)) a0 2) + (1 : Int32)) - ((cI (uI C8 r10 (Int32.toNatClampNeg (cI C8 a0 2)) (cI C8 a1 1)) a0 2) + (1 : Int32)) / (40 : Int32) * (40 : Int32))) a0 3) + (1 : Int32)))) else none else none)) else none) else some ((), C))) else none
set_option maxRecDepth 20000 in
set_option maxHeartbeats 4000000 in
theorem t_11 {n : Nat} {a0 : Nat} {a1 : Nat} {C : AmC} {r : Unit} {C' : AmC} (h : f_11 n a0 a1 C = some (r, C')) : En false 11 0 [(0, .ref a0), (1, .ref a1)] [] (mkM C) (.inl none) (mkM C') := by
  unfold f_11 at h
  refine en_aload rfl rfl ?_
  obtain ⟨g1, h⟩ := gd h
  refine ec_getI (ci := 1) (j := 2) ⟨rfl, rfl, rfl⟩ g1 rfl ?_
  rcases gi h with ⟨c2, h⟩ | ⟨c2, h⟩
  · refine en_if_lt_t c2 rfl ?_
    cases h
    exact en_vret rfl
  · refine en_if_lt_f c2 rfl ?_
    refine en_aload rfl rfl ?_
    refine ec_getI (ci := 1) (j := 2) ⟨rfl, rfl, rfl⟩ g1 rfl ?_
    refine ec_iconst cst_40 rfl ?_
    rcases gi h with ⟨c3, h⟩ | ⟨c3, h⟩
    · refine en_icmp_lt_t c3 rfl ?_
      refine en_aload rfl rfl ?_
      refine en_aload rfl rfl ?_
      obtain ⟨r4, e5, h⟩ := gb h
      refine ec_getP (ci := 1) (j := 0) ⟨rfl, rfl, rfl⟩ g1 e5 rfl ?_
      refine en_aload rfl rfl ?_
      refine ec_getI (ci := 1) (j := 2) ⟨rfl, rfl, rfl⟩ g1 rfl ?_
      refine ec_iconst cst_120 rfl ?_
      refine en_imul rfl ?_
      obtain ⟨g6, h⟩ := gd h
      obtain ⟨⟨q7, C8⟩, e9, h⟩ := gb h
      dsimp only at h
      refine ec_callV0 (k' := 73) (n := 3) (rc := 5) (a := a1) (as := [.ref r4, .int ((cI C a0 2) * (120 : Int32))]) ⟨rfl, rfl⟩ rfl rfl (Nat.le_of_ble_eq_true rfl) (Nat.le_of_ble_eq_true rfl) (Nat.le_of_ble_eq_true rfl) g6 rfl (t_73 e9) ?_
      refine en_aload rfl rfl ?_
      obtain ⟨r10, e11, h⟩ := gb h
      refine ec_getP (ci := 1) (j := 1) ⟨rfl, rfl, rfl⟩ g1 e11 rfl ?_
      refine en_aload rfl rfl ?_
      refine ec_getI (ci := 1) (j := 2) ⟨rfl, rfl, rfl⟩ g1 rfl ?_
      refine en_aload rfl rfl ?_
      refine ec_getI (ci := 5) (j := 1) ⟨rfl, rfl, rfl⟩ g6 rfl ?_
      obtain ⟨g12, h⟩ := gd h
      obtain ⟨g13, h⟩ := gd h
      refine ec_iastore g12 g13 rfl ?_
      refine en_aload rfl rfl ?_
      refine en_aload rfl rfl ?_
      refine ec_getI (ci := 1) (j := 2) ⟨rfl, rfl, rfl⟩ g1 rfl ?_
      refine ec_iconst cst_1 rfl ?_
      refine en_iadd rfl ?_
      refine ec_iconst cst_40 rfl ?_
      refine en_irem (by decide) rfl ?_
      refine ec_putI (ci := 1) (j := 2) ⟨rfl, rfl, rfl⟩ g1 rfl ?_
      refine en_aload rfl rfl ?_
      refine en_aload rfl rfl ?_
      refine ec_getI (ci := 1) (j := 3) ⟨rfl, rfl, rfl⟩ g1 rfl ?_
      refine ec_iconst cst_1 rfl ?_
      refine en_iadd rfl ?_
      refine ec_iconst cst_40 rfl ?_
      refine en_min (Nat.le_of_ble_eq_true rfl) rfl ?_
      refine ec_putI (ci := 1) (j := 3) ⟨rfl, rfl, rfl⟩ g1 rfl ?_
      cases h
      exact en_vret rfl
    · refine en_icmp_lt_f c3 rfl ?_
      cases h
      exact en_vret rfl
/-- BulkWriter$Rows.loadFrom([III)V -/
def f_74 (n : Nat) (a0 : Nat) (a1 : Nat) (a2 : Int32) (a3 : Int32) (C : AmC) : Option (Unit × AmC) := (if a2 < 0 then some ((), C) else if isK a1 12 = true then if isK a0 5 = true then (cP C a0 0).bind (fun r4 => if isK r4 12 = true then (if ((Int32.ofNat (aLen a1)) - (Int32.ofNat (aLen r4))) < a2 then some ((), C) else (cP C a0 0).bind (fun r8 => (cP C a0 0).bind (fun r10 => if isK r10 12 = true then if isK r8 12 = true then if ¬ a2 < 0 ∧ ¬ (0 : Int32) < 0 ∧ ¬ (Int32.ofNat (aLen r10)) < 0 ∧ Int32.toNatClampNeg a2 + Int32.toNatClampNeg (Int32.ofNat (aLen r10)) ≤ aLen a1 ∧ Int32.toNatClampNeg (0 : Int32) + Int32.toNatClampNeg (Int32.ofNat (aLen r10)) ≤ aLen r8 then some ((), uI (uA C r8 (va_cpy (cI C a1) (cI C r8) (Int32.toNatClampNeg a2) (Int32.toNatClampNeg (0 : Int32)) (Int32.toNatClampNeg (Int32.ofNat (aLen r10))))) a0 1 a3) else none else none else none))) else none) else none else none)
set_option maxRecDepth 20000 in
set_option maxHeartbeats 4000000 in
theorem t_74 {n : Nat} {a0 : Nat} {a1 : Nat} {a2 : Int32} {a3 : Int32} {C : AmC} {r : Unit} {C' : AmC} (h : f_74 n a0 a1 a2 a3 C = some (r, C')) : En false 74 0 [(0, .ref a0), (1, .ref a1), (2, .int a2), (3, .int a3)] [] (mkM C) (.inl none) (mkM C') := by
  unfold f_74 at h
  refine en_iload rfl rfl ?_
  rcases gi h with ⟨c1, h⟩ | ⟨c1, h⟩
  · refine en_if_lt_t c1 rfl ?_
    cases h
    exact en_vret rfl
  · refine en_if_lt_f c1 rfl ?_
    refine en_iload rfl rfl ?_
    refine en_aload rfl rfl ?_
    obtain ⟨g2, h⟩ := gd h
    refine ec_alen g2 (by decide) rfl ?_
    refine en_aload rfl rfl ?_
    obtain ⟨g3, h⟩ := gd h
    obtain ⟨r4, e5, h⟩ := gb h
    refine ec_getP (ci := 5) (j := 0) ⟨rfl, rfl, rfl⟩ g3 e5 rfl ?_
    obtain ⟨g6, h⟩ := gd h
    refine ec_alen g6 (by decide) rfl ?_
    refine en_isub rfl ?_
    rcases gi h with ⟨c7, h⟩ | ⟨c7, h⟩
    · refine en_icmp_gt_t c7 rfl ?_
      cases h
      exact en_vret rfl
    · refine en_icmp_gt_f c7 rfl ?_
      refine en_aload rfl rfl ?_
      refine en_iload rfl rfl ?_
      refine en_aload rfl rfl ?_
      obtain ⟨r8, e9, h⟩ := gb h
      refine ec_getP (ci := 5) (j := 0) ⟨rfl, rfl, rfl⟩ g3 e9 rfl ?_
      refine ec_iconst cst_0 rfl ?_
      refine en_aload rfl rfl ?_
      obtain ⟨r10, e11, h⟩ := gb h
      refine ec_getP (ci := 5) (j := 0) ⟨rfl, rfl, rfl⟩ g3 e11 rfl ?_
      obtain ⟨g12, h⟩ := gd h
      refine ec_alen g12 (by decide) rfl ?_
      obtain ⟨g13, h⟩ := gd h
      obtain ⟨g14, h⟩ := gd h
      refine ec_copy g2 g13 g14 (Nat.le_of_ble_eq_true rfl) rfl ?_
      refine en_aload rfl rfl ?_
      refine en_iload rfl rfl ?_
      refine ec_putI (ci := 5) (j := 1) ⟨rfl, rfl, rfl⟩ g3 rfl ?_
      cases h
      exact en_vret rfl
/-- BulkWriter$History.pop(LBulkWriter$Rows;)V -/
def f_12 (n : Nat) (a0 : Nat) (a1 : Nat) (C : AmC) : Option (Unit × AmC) := if isK a0 1 = true then (if (cI C a0 3) ≤ 0 then some ((), C) else (if 0 ≤ ((((cI C a0 2) + (40 : Int32)) - (1 : Int32)) - (((cI C a0 2) + (40 : Int32)) - (1 : Int32)) / (40 : Int32) * (40 : Int32)) then (cP C a0 0).bind (fun r4 => (cP C a0 1).bind (fun r6 => if isK r6 12 = true then if amIn ((((cI C a0 2) + (40 : Int32)) - (1 : Int32)) - (((cI C a0 2) + (40 : Int32)) - (1 : Int32)) / (40 : Int32) * (40 : Int32)) (aLen r6) = true then if isK a1 5 = true then (f_74 n a1 r4 (((((cI C a0 2) + (40 : Int32)) - (1 : Int32)) - (((cI C a0 2) + (40 : Int32)) - (1 : Int32)) / (40 : Int32) * (40 : Int32)) * (120 : Int32)) (cI C r6 (Int32.toNatClampNeg ((((cI C a0 2) + (40 : Int32)) - (1 : Int32)) - (((cI C a0 2) + (40 : Int32)) - (1 : Int32)) / (40 : Int32) * (40 : Int32)))) C).bind (fun z => match z with | (_, C12) => some ((), uI (uI C12 a0 2 ((((cI C a0 2) + (40 : Int32)) - (1 : Int32)) - (((cI C a0 2) + (40 : Int32)) - (1 : Int32)) / (40 : Int32) * (40 : Int32))) a0 3 ((cI (uI C12 a0 2 ((((cI C a0 2) + (40 : Int32)) - (1 : Int32)) - (((cI C a0 2) + (40 : Int32)) - (1 : Int32)) / (40 : Int32) * (40 : Int32))) a0 3) - (1 : Int32)))) else none else none else none)) else some ((), C))) else none
set_option maxRecDepth 20000 in
set_option maxHeartbeats 4000000 in
theorem t_12 {n : Nat} {a0 : Nat} {a1 : Nat} {C : AmC} {r : Unit} {C' : AmC} (h : f_12 n a0 a1 C = some (r, C')) : En false 12 0 [(0, .ref a0), (1, .ref a1)] [] (mkM C) (.inl none) (mkM C') := by
  unfold f_12 at h
  refine en_aload rfl rfl ?_
  obtain ⟨g1, h⟩ := gd h
  refine ec_getI (ci := 1) (j := 2) ⟨rfl, rfl, rfl⟩ g1 rfl ?_
  refine ec_iconst cst_40 rfl ?_
  refine en_iadd rfl ?_
  refine ec_iconst cst_1 rfl ?_
  refine en_isub rfl ?_
  refine ec_iconst cst_40 rfl ?_
  refine en_irem (by decide) rfl ?_
  refine en_istore (l' := [(2, .int ((((cI C a0 2) + (40 : Int32)) - (1 : Int32)) - (((cI C a0 2) + (40 : Int32)) - (1 : Int32)) / (40 : Int32) * (40 : Int32))), (0, .ref a0), (1, .ref a1)]) rfl rfl ?_
  refine en_aload rfl rfl ?_
  refine ec_getI (ci := 1) (j := 3) ⟨rfl, rfl, rfl⟩ g1 rfl ?_
  rcases gi h with ⟨c2, h⟩ | ⟨c2, h⟩
  · refine en_if_le_t c2 rfl ?_
    cases h
    exact en_vret rfl
  · refine en_if_le_f c2 rfl ?_
    refine en_iload rfl rfl ?_
    rcases gi h with ⟨c3, h⟩ | ⟨c3, h⟩
    · refine en_if_ge_t c3 rfl ?_
      refine en_aload rfl rfl ?_
      refine en_aload rfl rfl ?_
      obtain ⟨r4, e5, h⟩ := gb h
      refine ec_getP (ci := 1) (j := 0) ⟨rfl, rfl, rfl⟩ g1 e5 rfl ?_
      refine en_iload rfl rfl ?_
      refine ec_iconst cst_120 rfl ?_
      refine en_imul rfl ?_
      refine en_aload rfl rfl ?_
      obtain ⟨r6, e7, h⟩ := gb h
      refine ec_getP (ci := 1) (j := 1) ⟨rfl, rfl, rfl⟩ g1 e7 rfl ?_
      refine en_iload rfl rfl ?_
      obtain ⟨g8, h⟩ := gd h
      obtain ⟨g9, h⟩ := gd h
      refine ec_iaload g8 g9 rfl ?_
      obtain ⟨g10, h⟩ := gd h
      obtain ⟨⟨q11, C12⟩, e13, h⟩ := gb h
      dsimp only at h
      refine ec_callV0 (k' := 74) (n := 4) (rc := 5) (a := a1) (as := [.ref r4, .int (((((cI C a0 2) + (40 : Int32)) - (1 : Int32)) - (((cI C a0 2) + (40 : Int32)) - (1 : Int32)) / (40 : Int32) * (40 : Int32)) * (120 : Int32)), .int (cI C r6 (Int32.toNatClampNeg ((((cI C a0 2) + (40 : Int32)) - (1 : Int32)) - (((cI C a0 2) + (40 : Int32)) - (1 : Int32)) / (40 : Int32) * (40 : Int32))))]) ⟨rfl, rfl⟩ rfl rfl (Nat.le_of_ble_eq_true rfl) (Nat.le_of_ble_eq_true rfl) (Nat.le_of_ble_eq_true rfl) g10 rfl (t_74 e13) ?_
      refine en_aload rfl rfl ?_
      refine en_iload rfl rfl ?_
      refine ec_putI (ci := 1) (j := 2) ⟨rfl, rfl, rfl⟩ g1 rfl ?_
      refine en_aload rfl rfl ?_
      refine en_dup rfl rfl ?_
      refine ec_getI (ci := 1) (j := 3) ⟨rfl, rfl, rfl⟩ g1 rfl ?_
      refine ec_iconst cst_1 rfl ?_
      refine en_isub rfl ?_
      refine ec_putI (ci := 1) (j := 3) ⟨rfl, rfl, rfl⟩ g1 rfl ?_
      cases h
      exact en_vret rfl
    · refine en_if_ge_f c3 rfl ?_
      cases h
      exact en_vret rfl
/-- BulkWriter$Parser.isLetter(I)Z -/
def f_16 (n : Nat) (a0 : Int32) (C : AmC) : Option (Int32 × AmC) := (if a0 < (97 : Int32) then some ((0 : Int32), C) else (if (122 : Int32) < a0 then some ((0 : Int32), C) else some ((1 : Int32), C)))
set_option maxRecDepth 20000 in
set_option maxHeartbeats 4000000 in
theorem t_16 {n : Nat} {a0 : Int32} {C : AmC} {r : Int32} {C' : AmC} (h : f_16 n a0 C = some (r, C')) : En false 16 0 [(0, .int a0)] [] (mkM C) (.inl (some (.int r))) (mkM C') := by
  unfold f_16 at h
  refine en_iload rfl rfl ?_
  refine ec_iconst cst_97 rfl ?_
  rcases gi h with ⟨c1, h⟩ | ⟨c1, h⟩
  · refine en_icmp_lt_t c1 rfl ?_
    refine ec_iconst cst_0 rfl ?_
    cases h
    exact en_zret (Or.inl rfl) rfl
  · refine en_icmp_lt_f c1 rfl ?_
    refine en_iload rfl rfl ?_
    refine ec_iconst cst_122 rfl ?_
    rcases gi h with ⟨c2, h⟩ | ⟨c2, h⟩
    · refine en_icmp_gt_t c2 rfl ?_
      refine ec_iconst cst_0 rfl ?_
      cases h
      exact en_zret (Or.inl rfl) rfl
    · refine en_icmp_gt_f c2 rfl ?_
      refine ec_iconst cst_1 rfl ?_
      refine en_goto rfl ?_
      cases h
      exact en_zret (Or.inr rfl) rfl
/-- BulkWriter$Parser.addToken(III)V -/
def f_19 (n : Nat) (a0 : Nat) (a1 : Int32) (a2 : Int32) (a3 : Int32) (C : AmC) : Option (Unit × AmC) := if isK a0 2 = true then (if (cI C a0 3) < 0 then some ((), C) else (if (cI C a0 3) ≤ (900 : Int32) then (cP C a0 0).bind (fun r4 => if isK r4 12 = true then if amIn (cI C a0 3) (aLen r4) = true then (cP (uI C r4 (Int32.toNatClampNeg (cI C a0 3)) a1) a0 1).bind (fun r8 => if isK r8 12 = true then if amIn (cI (uI C r4 (Int32.toNatClampNeg (cI C a0 3)) a1) a0 3) (aLen r8) = true then (cP (uI (uI C r4 (Int32.toNatClampNeg (cI C a0 3)) a1) r8 (Int32.toNatClampNeg (cI (uI C r4 (Int32.toNatClampNeg (cI C a0 3)) a1) a0 3)) a2) a0 2).bind (fun r12 => if isK r12 12 = true then if amIn (cI (uI (uI C r4 (Int32.toNatClampNeg (cI C a0 3)) a1) r8 (Int32.toNatClampNeg (cI (uI C r4 (Int32.toNatClampNeg (cI C a0 3)) a1) a0 3)) a2) a0 3) (aLen r12) = true then some ((), uI (uI (uI (uI C r4 (Int32.toNatClampNeg (cI C a0 3)) a1) r8 (Int32.toNatClampNeg (cI (uI C r4 (Int32.toNatClampNeg (cI C a0 3)) a1) a0 3)) a2) r12 (Int32.toNatClampNeg (cI (uI (uI C r4 (Int32.toNatClampNeg (cI C a0 3)) a1) r8 (Int32.toNatClampNeg (cI (uI C r4 (Int32.toNatClampNeg (cI C a0 3)) a1) a0 3)) a2) a0 3)) a3) a0 3 ((cI (uI (uI (uI C r4 (Int32.toNatClampNeg (cI C a0 3)) a1) r8 (Int32.toNatClampNeg (cI (uI C r4 (Int32.toNatClampNeg (cI C a0 3)) a1) a0 3)) a2) r12 (Int32.toNatClampNeg (cI (uI (uI C r4 (Int32.toNatClampNeg (cI C a0 3)) a1) r8 (Int32.toNatClampNeg (cI (uI C r4 (Int32.toNatClampNeg (cI C a0 3)) a1) a0 3)) a2) a0 3)) a3) a0 3) + (1 : Int32))) else none else none) else none else none) else none else none) else some ((), C))) else none
set_option maxRecDepth 20000 in
set_option maxHeartbeats 4000000 in
theorem t_19 {n : Nat} {a0 : Nat} {a1 : Int32} {a2 : Int32} {a3 : Int32} {C : AmC} {r : Unit} {C' : AmC} (h : f_19 n a0 a1 a2 a3 C = some (r, C')) : En false 19 0 [(0, .ref a0), (1, .int a1), (2, .int a2), (3, .int a3)] [] (mkM C) (.inl none) (mkM C') := by
  unfold f_19 at h
  refine en_aload rfl rfl ?_
  obtain ⟨g1, h⟩ := gd h
  refine ec_getI (ci := 2) (j := 3) ⟨rfl, rfl, rfl⟩ g1 rfl ?_
  rcases gi h with ⟨c2, h⟩ | ⟨c2, h⟩
  · refine en_if_lt_t c2 rfl ?_
    cases h
    exact en_vret rfl
  · refine en_if_lt_f c2 rfl ?_
    refine en_aload rfl rfl ?_
    refine ec_getI (ci := 2) (j := 3) ⟨rfl, rfl, rfl⟩ g1 rfl ?_
    refine ec_iconst cst_900 rfl ?_
    rcases gi h with ⟨c3, h⟩ | ⟨c3, h⟩
    · refine en_icmp_le_t c3 rfl ?_
      refine en_aload rfl rfl ?_
      obtain ⟨r4, e5, h⟩ := gb h
      refine ec_getP (ci := 2) (j := 0) ⟨rfl, rfl, rfl⟩ g1 e5 rfl ?_
      refine en_aload rfl rfl ?_
      refine ec_getI (ci := 2) (j := 3) ⟨rfl, rfl, rfl⟩ g1 rfl ?_
      refine en_iload rfl rfl ?_
      obtain ⟨g6, h⟩ := gd h
      obtain ⟨g7, h⟩ := gd h
      refine ec_iastore g6 g7 rfl ?_
      refine en_aload rfl rfl ?_
      obtain ⟨r8, e9, h⟩ := gb h
      refine ec_getP (ci := 2) (j := 1) ⟨rfl, rfl, rfl⟩ g1 e9 rfl ?_
      refine en_aload rfl rfl ?_
      refine ec_getI (ci := 2) (j := 3) ⟨rfl, rfl, rfl⟩ g1 rfl ?_
      refine en_iload rfl rfl ?_
      obtain ⟨g10, h⟩ := gd h
      obtain ⟨g11, h⟩ := gd h
      refine ec_iastore g10 g11 rfl ?_
      refine en_aload rfl rfl ?_
      obtain ⟨r12, e13, h⟩ := gb h
      refine ec_getP (ci := 2) (j := 2) ⟨rfl, rfl, rfl⟩ g1 e13 rfl ?_
      refine en_aload rfl rfl ?_
      refine ec_getI (ci := 2) (j := 3) ⟨rfl, rfl, rfl⟩ g1 rfl ?_
      refine en_iload rfl rfl ?_
      obtain ⟨g14, h⟩ := gd h
      obtain ⟨g15, h⟩ := gd h
      refine ec_iastore g14 g15 rfl ?_
      refine en_aload rfl rfl ?_
      refine en_dup rfl rfl ?_
      refine ec_getI (ci := 2) (j := 3) ⟨rfl, rfl, rfl⟩ g1 rfl ?_
      refine ec_iconst cst_1 rfl ?_
      refine en_iadd rfl ?_
      refine ec_putI (ci := 2) (j := 3) ⟨rfl, rfl, rfl⟩ g1 rfl ?_
      cases h
      exact en_vret rfl
    · refine en_icmp_le_f c3 rfl ?_
      cases h
      exact en_vret rfl
def lp_22_8 : Nat → Nat → Int32 → Int32 → Int32 → Int32 → Int32 → Int32 → AmC → Option (((Int32) ⊕ (Unit)) × AmC)
  | 0, _, _, _, _, _, _, _, _ => none
  | n + 1, p0, p1, p2, p3, p4, p5, p6, C => (if (95 : Int32) ≤ p6 then some ((.inr ()), C) else if amIn p6 95 = true then (if (amWc (Int32.toNatClampNeg p6)) = (32 : Int32) then (if p5 = 0 then lp_22_8 n p0 p1 p2 (p3 + (1 : Int32)) p1 (1 : Int32) (p6 + (1 : Int32)) C else (if ¬ p4 = p2 then lp_22_8 n p0 p1 p2 (p3 + (1 : Int32)) p1 (1 : Int32) (p6 + (1 : Int32)) C else some ((.inl p3), C))) else (if p5 = 0 then lp_22_8 n p0 p1 p2 p3 (p4 + (1 : Int32)) (0 : Int32) (p6 + (1 : Int32)) C else (if p4 < 0 then lp_22_8 n p0 p1 p2 p3 (p4 + (1 : Int32)) (0 : Int32) (p6 + (1 : Int32)) C else (if p2 ≤ p4 then lp_22_8 n p0 p1 p2 p3 (p4 + (1 : Int32)) (0 : Int32) (p6 + (1 : Int32)) C else if isK p0 11 = true then (if (Int32.ofNat (aLen p0)) ≤ p4 then lp_22_8 n p0 p1 p2 p3 (p4 + (1 : Int32)) (0 : Int32) (p6 + (1 : Int32)) C else if amIn p4 (aLen p0) = true then (if ¬ (cI C p0 (Int32.toNatClampNeg p4)) = (amWc (Int32.toNatClampNeg p6)) then lp_22_8 n p0 p1 p2 p3 (p4 + (1 : Int32)) (0 : Int32) (p6 + (1 : Int32)) C else lp_22_8 n p0 p1 p2 p3 (p4 + (1 : Int32)) (1 : Int32) (p6 + (1 : Int32)) C) else none) else none)))) else none)
set_option maxRecDepth 20000 in
set_option maxHeartbeats 4000000 in
theorem lt_22_8 : ∀ (n : Nat) (p0 : Nat) (p1 : Int32) (p2 : Int32) (p3 : Int32) (p4 : Int32) (p5 : Int32) (p6 : Int32) (C : AmC) (r : ((Int32) ⊕ (Unit)) × AmC), lp_22_8 n p0 p1 p2 p3 p4 p5 p6 C = some r → ∀ (o : AmO) (M' : AmM), (match r with
        | ((.inl w3), C') => En false 22 46 [(3, .int w3)] [] (mkM C') o M'
        | ((.inr _), C') => En false 22 55 [] [] (mkM C') o M') → En false 22 8 [(0, .ref p0), (1, .int p1), (2, .int p2), (3, .int p3), (4, .int p4), (5, .int p5), (6, .int p6)] [] (mkM C) o M' := by
  intro n
  induction n with
  | zero => intro p0 p1 p2 p3 p4 p5 p6 C r h; cases h
  | succ n ih =>
    intro p0 p1 p2 p3 p4 p5 p6 C r h o M' hk
    unfold lp_22_8 at h
    refine en_iload rfl rfl ?_
    refine en_lds rfl ?_
    refine en_slen (Nat.le_of_ble_eq_true rfl) rfl ?_
    rcases gi h with ⟨c1, h⟩ | ⟨c1, h⟩
    · refine en_icmp_ge_t c1 rfl ?_
      cases h
      exact en_sub [] rfl rfl hk
    · refine en_icmp_ge_f c1 rfl ?_
      refine en_lds rfl ?_
      refine en_iload rfl rfl ?_
      obtain ⟨g2, h⟩ := gd h
      refine en_schar g2 (Nat.le_of_ble_eq_true rfl) rfl ?_
      refine en_istore (l' := [(7, .int (amWc (Int32.toNatClampNeg p6))), (0, .ref p0), (1, .int p1), (2, .int p2), (3, .int p3), (4, .int p4), (5, .int p5), (6, .int p6)]) rfl rfl ?_
      refine en_iload rfl rfl ?_
      refine ec_iconst cst_32 rfl ?_
      rcases gi h with ⟨c3, h⟩ | ⟨c3, h⟩
      · refine en_icmp_eq_t c3 rfl ?_
        refine en_iload rfl rfl ?_
        rcases gi h with ⟨c4, h⟩ | ⟨c4, h⟩
        · refine en_if_eq_t c4 rfl ?_
          refine ec_iinc (l' := [(3, .int (p3 + (1 : Int32))), (7, .int (amWc (Int32.toNatClampNeg p6))), (0, .ref p0), (1, .int p1), (2, .int p2), (4, .int p4), (5, .int p5), (6, .int p6)]) rfl cst_1 rfl rfl ?_
          refine en_iload rfl rfl ?_
          refine en_istore (l' := [(4, .int p1), (3, .int (p3 + (1 : Int32))), (7, .int (amWc (Int32.toNatClampNeg p6))), (0, .ref p0), (1, .int p1), (2, .int p2), (5, .int p5), (6, .int p6)]) rfl rfl ?_
          refine ec_iconst cst_1 rfl ?_
          refine en_istore (l' := [(5, .int (1 : Int32)), (4, .int p1), (3, .int (p3 + (1 : Int32))), (7, .int (amWc (Int32.toNatClampNeg p6))), (0, .ref p0), (1, .int p1), (2, .int p2), (6, .int p6)]) rfl rfl ?_
          refine ec_iinc (l' := [(6, .int (p6 + (1 : Int32))), (5, .int (1 : Int32)), (4, .int p1), (3, .int (p3 + (1 : Int32))), (7, .int (amWc (Int32.toNatClampNeg p6))), (0, .ref p0), (1, .int p1), (2, .int p2)]) rfl cst_1 rfl rfl ?_
          refine en_goto rfl ?_
          refine en_sub [5, 6, 7, 3, 2, 1, 0] rfl rfl ?_
          exact ih _ _ _ _ _ _ _ _ _ h o M' hk
        · refine en_if_eq_f c4 rfl ?_
          refine en_iload rfl rfl ?_
          refine en_iload rfl rfl ?_
          rcases gi h with ⟨c5, h⟩ | ⟨c5, h⟩
          · refine en_icmp_ne_t c5 rfl ?_
            refine ec_iinc (l' := [(3, .int (p3 + (1 : Int32))), (7, .int (amWc (Int32.toNatClampNeg p6))), (0, .ref p0), (1, .int p1), (2, .int p2), (4, .int p4), (5, .int p5), (6, .int p6)]) rfl cst_1 rfl rfl ?_
            refine en_iload rfl rfl ?_
            refine en_istore (l' := [(4, .int p1), (3, .int (p3 + (1 : Int32))), (7, .int (amWc (Int32.toNatClampNeg p6))), (0, .ref p0), (1, .int p1), (2, .int p2), (5, .int p5), (6, .int p6)]) rfl rfl ?_
            refine ec_iconst cst_1 rfl ?_
            refine en_istore (l' := [(5, .int (1 : Int32)), (4, .int p1), (3, .int (p3 + (1 : Int32))), (7, .int (amWc (Int32.toNatClampNeg p6))), (0, .ref p0), (1, .int p1), (2, .int p2), (6, .int p6)]) rfl rfl ?_
            refine ec_iinc (l' := [(6, .int (p6 + (1 : Int32))), (5, .int (1 : Int32)), (4, .int p1), (3, .int (p3 + (1 : Int32))), (7, .int (amWc (Int32.toNatClampNeg p6))), (0, .ref p0), (1, .int p1), (2, .int p2)]) rfl cst_1 rfl rfl ?_
            refine en_goto rfl ?_
            refine en_sub [5, 6, 7, 3, 2, 1, 0] rfl rfl ?_
            exact ih _ _ _ _ _ _ _ _ _ h o M' hk
          · refine en_icmp_ne_f c5 rfl ?_
            cases h
            exact en_sub [4] rfl rfl hk
      · refine en_icmp_eq_f c3 rfl ?_
        refine en_iload rfl rfl ?_
        rcases gi h with ⟨c6, h⟩ | ⟨c6, h⟩
        · refine en_if_eq_t c6 rfl ?_
          refine ec_iconst cst_0 rfl ?_
          refine en_istore (l' := [(5, .int (0 : Int32)), (7, .int (amWc (Int32.toNatClampNeg p6))), (0, .ref p0), (1, .int p1), (2, .int p2), (3, .int p3), (4, .int p4), (6, .int p6)]) rfl rfl ?_
          refine ec_iinc (l' := [(4, .int (p4 + (1 : Int32))), (5, .int (0 : Int32)), (7, .int (amWc (Int32.toNatClampNeg p6))), (0, .ref p0), (1, .int p1), (2, .int p2), (3, .int p3), (6, .int p6)]) rfl cst_1 rfl rfl ?_
          refine en_goto rfl ?_
          refine ec_iinc (l' := [(6, .int (p6 + (1 : Int32))), (4, .int (p4 + (1 : Int32))), (5, .int (0 : Int32)), (7, .int (amWc (Int32.toNatClampNeg p6))), (0, .ref p0), (1, .int p1), (2, .int p2), (3, .int p3)]) rfl cst_1 rfl rfl ?_
          refine en_goto rfl ?_
          refine en_sub [4, 5, 6, 7, 1, 2, 0] rfl rfl ?_
          exact ih _ _ _ _ _ _ _ _ _ h o M' hk
        · refine en_if_eq_f c6 rfl ?_
          refine en_iload rfl rfl ?_
          rcases gi h with ⟨c7, h⟩ | ⟨c7, h⟩
          · refine en_if_lt_t c7 rfl ?_
            refine ec_iconst cst_0 rfl ?_
            refine en_istore (l' := [(5, .int (0 : Int32)), (7, .int (amWc (Int32.toNatClampNeg p6))), (0, .ref p0), (1, .int p1), (2, .int p2), (3, .int p3), (4, .int p4), (6, .int p6)]) rfl rfl ?_
            refine ec_iinc (l' := [(4, .int (p4 + (1 : Int32))), (5, .int (0 : Int32)), (7, .int (amWc (Int32.toNatClampNeg p6))), (0, .ref p0), (1, .int p1), (2, .int p2), (3, .int p3), (6, .int p6)]) rfl cst_1 rfl rfl ?_
            refine en_goto rfl ?_
            refine ec_iinc (l' := [(6, .int (p6 + (1 : Int32))), (4, .int (p4 + (1 : Int32))), (5, .int (0 : Int32)), (7, .int (amWc (Int32.toNatClampNeg p6))), (0, .ref p0), (1, .int p1), (2, .int p2), (3, .int p3)]) rfl cst_1 rfl rfl ?_
            refine en_goto rfl ?_
            refine en_sub [4, 5, 6, 7, 1, 2, 0] rfl rfl ?_
            exact ih _ _ _ _ _ _ _ _ _ h o M' hk
          · refine en_if_lt_f c7 rfl ?_
            refine en_iload rfl rfl ?_
            refine en_iload rfl rfl ?_
            rcases gi h with ⟨c8, h⟩ | ⟨c8, h⟩
            · refine en_icmp_ge_t c8 rfl ?_
              refine ec_iconst cst_0 rfl ?_
              refine en_istore (l' := [(5, .int (0 : Int32)), (7, .int (amWc (Int32.toNatClampNeg p6))), (0, .ref p0), (1, .int p1), (2, .int p2), (3, .int p3), (4, .int p4), (6, .int p6)]) rfl rfl ?_
              refine ec_iinc (l' := [(4, .int (p4 + (1 : Int32))), (5, .int (0 : Int32)), (7, .int (amWc (Int32.toNatClampNeg p6))), (0, .ref p0), (1, .int p1), (2, .int p2), (3, .int p3), (6, .int p6)]) rfl cst_1 rfl rfl ?_
              refine en_goto rfl ?_
              refine ec_iinc (l' := [(6, .int (p6 + (1 : Int32))), (4, .int (p4 + (1 : Int32))), (5, .int (0 : Int32)), (7, .int (amWc (Int32.toNatClampNeg p6))), (0, .ref p0), (1, .int p1), (2, .int p2), (3, .int p3)]) rfl cst_1 rfl rfl ?_
              refine en_goto rfl ?_
              refine en_sub [4, 5, 6, 7, 1, 2, 0] rfl rfl ?_
              exact ih _ _ _ _ _ _ _ _ _ h o M' hk
            · refine en_icmp_ge_f c8 rfl ?_
              refine en_iload rfl rfl ?_
              refine en_aload rfl rfl ?_
              obtain ⟨g9, h⟩ := gd h
              refine ec_alen g9 (by decide) rfl ?_
              rcases gi h with ⟨c10, h⟩ | ⟨c10, h⟩
              · refine en_icmp_ge_t c10 rfl ?_
                refine ec_iconst cst_0 rfl ?_
                refine en_istore (l' := [(5, .int (0 : Int32)), (7, .int (amWc (Int32.toNatClampNeg p6))), (0, .ref p0), (1, .int p1), (2, .int p2), (3, .int p3), (4, .int p4), (6, .int p6)]) rfl rfl ?_
                refine ec_iinc (l' := [(4, .int (p4 + (1 : Int32))), (5, .int (0 : Int32)), (7, .int (amWc (Int32.toNatClampNeg p6))), (0, .ref p0), (1, .int p1), (2, .int p2), (3, .int p3), (6, .int p6)]) rfl cst_1 rfl rfl ?_
                refine en_goto rfl ?_
                refine ec_iinc (l' := [(6, .int (p6 + (1 : Int32))), (4, .int (p4 + (1 : Int32))), (5, .int (0 : Int32)), (7, .int (amWc (Int32.toNatClampNeg p6))), (0, .ref p0), (1, .int p1), (2, .int p2), (3, .int p3)]) rfl cst_1 rfl rfl ?_
                refine en_goto rfl ?_
                refine en_sub [4, 5, 6, 7, 1, 2, 0] rfl rfl ?_
                exact ih _ _ _ _ _ _ _ _ _ h o M' hk
              · refine en_icmp_ge_f c10 rfl ?_
                refine en_aload rfl rfl ?_
                refine en_iload rfl rfl ?_
                obtain ⟨g11, h⟩ := gd h
                refine ec_baload g9 (by decide) g11 rfl ?_
                refine en_iload rfl rfl ?_
                rcases gi h with ⟨c12, h⟩ | ⟨c12, h⟩
                · refine en_icmp_ne_t c12 rfl ?_
                  refine ec_iconst cst_0 rfl ?_
                  refine en_istore (l' := [(5, .int (0 : Int32)), (7, .int (amWc (Int32.toNatClampNeg p6))), (0, .ref p0), (1, .int p1), (2, .int p2), (3, .int p3), (4, .int p4), (6, .int p6)]) rfl rfl ?_
                  refine ec_iinc (l' := [(4, .int (p4 + (1 : Int32))), (5, .int (0 : Int32)), (7, .int (amWc (Int32.toNatClampNeg p6))), (0, .ref p0), (1, .int p1), (2, .int p2), (3, .int p3), (6, .int p6)]) rfl cst_1 rfl rfl ?_
                  refine en_goto rfl ?_
                  refine ec_iinc (l' := [(6, .int (p6 + (1 : Int32))), (4, .int (p4 + (1 : Int32))), (5, .int (0 : Int32)), (7, .int (amWc (Int32.toNatClampNeg p6))), (0, .ref p0), (1, .int p1), (2, .int p2), (3, .int p3)]) rfl cst_1 rfl rfl ?_
                  refine en_goto rfl ?_
                  refine en_sub [4, 5, 6, 7, 1, 2, 0] rfl rfl ?_
                  exact ih _ _ _ _ _ _ _ _ _ h o M' hk
                · refine en_icmp_ne_f c12 rfl ?_
                  refine ec_iconst cst_1 rfl ?_
                  refine en_goto rfl ?_
                  refine en_istore (l' := [(5, .int (1 : Int32)), (7, .int (amWc (Int32.toNatClampNeg p6))), (0, .ref p0), (1, .int p1), (2, .int p2), (3, .int p3), (4, .int p4), (6, .int p6)]) rfl rfl ?_
                  refine ec_iinc (l' := [(4, .int (p4 + (1 : Int32))), (5, .int (1 : Int32)), (7, .int (amWc (Int32.toNatClampNeg p6))), (0, .ref p0), (1, .int p1), (2, .int p2), (3, .int p3), (6, .int p6)]) rfl cst_1 rfl rfl ?_
                  refine en_goto rfl ?_
                  refine ec_iinc (l' := [(6, .int (p6 + (1 : Int32))), (4, .int (p4 + (1 : Int32))), (5, .int (1 : Int32)), (7, .int (amWc (Int32.toNatClampNeg p6))), (0, .ref p0), (1, .int p1), (2, .int p2), (3, .int p3)]) rfl cst_1 rfl rfl ?_
                  refine en_goto rfl ?_
                  refine en_sub [4, 5, 6, 7, 1, 2, 0] rfl rfl ?_
                  exact ih _ _ _ _ _ _ _ _ _ h o M' hk
/-- BulkWriter$Parser.wordKind([BII)I -/
def f_22 (n : Nat) (a0 : Nat) (a1 : Int32) (a2 : Int32) (C : AmC) : Option (Int32 × AmC) := (lp_22_8 n a0 a1 a2 (200 : Int32) a1 (1 : Int32) (0 : Int32) C).bind (fun q => match q with | ((.inl u16), C15) => some (u16, C15) | ((.inr _), C15) => some ((131 : Int32), C15))
set_option maxRecDepth 20000 in
set_option maxHeartbeats 4000000 in
theorem t_22 {n : Nat} {a0 : Nat} {a1 : Int32} {a2 : Int32} {C : AmC} {r : Int32} {C' : AmC} (h : f_22 n a0 a1 a2 C = some (r, C')) : En false 22 0 [(0, .ref a0), (1, .int a1), (2, .int a2)] [] (mkM C) (.inl (some (.int r))) (mkM C') := by
  unfold f_22 at h
  refine ec_iconst cst_200 rfl ?_
  refine en_istore (l' := [(3, .int (200 : Int32)), (0, .ref a0), (1, .int a1), (2, .int a2)]) rfl rfl ?_
  refine en_iload rfl rfl ?_
  refine en_istore (l' := [(4, .int a1), (3, .int (200 : Int32)), (0, .ref a0), (1, .int a1), (2, .int a2)]) rfl rfl ?_
  refine ec_iconst cst_1 rfl ?_
  refine en_istore (l' := [(5, .int (1 : Int32)), (4, .int a1), (3, .int (200 : Int32)), (0, .ref a0), (1, .int a1), (2, .int a2)]) rfl rfl ?_
  refine ec_iconst cst_0 rfl ?_
  refine en_istore (l' := [(6, .int (0 : Int32)), (5, .int (1 : Int32)), (4, .int a1), (3, .int (200 : Int32)), (0, .ref a0), (1, .int a1), (2, .int a2)]) rfl rfl ?_
  obtain ⟨⟨q13, C15⟩, e14, h⟩ := gb h
  refine en_sub [4, 5, 6, 3, 2, 1, 0] rfl rfl (lt_22_8 n _ _ _ _ _ _ _ _ _ e14 _ _ ?_)
  rcases q13 with u16 | ⟨⟩
  · dsimp only at h ⊢
    refine en_iload rfl rfl ?_
    cases h
    exact en_iret rfl
  · dsimp only at h ⊢
    refine ec_iconst cst_131 rfl ?_
    cases h
    exact en_iret rfl
/-- BulkWriter$Parser.addWord([BII)V -/
def f_21 (n : Nat) (a0 : Nat) (a1 : Nat) (a2 : Int32) (a3 : Int32) (C : AmC) : Option (Unit × AmC) := (if ¬ a3 = (a2 + (1 : Int32)) then (f_22 n a1 a2 a3 C).bind (fun z => match z with | (q2, C3) => if isK a0 2 = true then (f_19 n a0 q2 a2 (0 : Int32) C3).bind (fun z => match z with | (_, C7) => some ((), C7)) else none) else (if a2 < 0 then (f_22 n a1 a2 a3 C).bind (fun z => match z with | (q10, C11) => if isK a0 2 = true then (f_19 n a0 q10 a2 (0 : Int32) C11).bind (fun z => match z with | (_, C15) => some ((), C15)) else none) else if isK a1 11 = true then (if (Int32.ofNat (aLen a1)) ≤ a2 then (f_22 n a1 a2 a3 C).bind (fun z => match z with | (q19, C20) => if isK a0 2 = true then (f_19 n a0 q19 a2 (0 : Int32) C20).bind (fun z => match z with | (_, C24) => some ((), C24)) else none) else if amIn a2 (aLen a1) = true then (if (100 : Int32) < (cI C a1 (Int32.toNatClampNeg a2)) then (f_22 n a1 a2 a3 C).bind (fun z => match z with | (q28, C29) => if isK a0 2 = true then (f_19 n a0 q28 a2 (0 : Int32) C29).bind (fun z => match z with | (_, C33) => some ((), C33)) else none) else if amIn a2 (aLen a1) = true then if isK a0 2 = true then (f_19 n a0 (130 : Int32) a2 ((cI C a1 (Int32.toNatClampNeg a2)) - (97 : Int32)) C).bind (fun z => match z with | (_, C38) => some ((), C38)) else none else none) else none) else none))
set_option maxRecDepth 20000 in
set_option maxHeartbeats 4000000 in
theorem t_21 {n : Nat} {a0 : Nat} {a1 : Nat} {a2 : Int32} {a3 : Int32} {C : AmC} {r : Unit} {C' : AmC} (h : f_21 n a0 a1 a2 a3 C = some (r, C')) : En false 21 0 [(0, .ref a0), (1, .ref a1), (2, .int a2), (3, .int a3)] [] (mkM C) (.inl none) (mkM C') := by
  unfold f_21 at h
  refine en_iload rfl rfl ?_
  refine en_iload rfl rfl ?_
  refine ec_iconst cst_1 rfl ?_
  refine en_iadd rfl ?_
  rcases gi h with ⟨c1, h⟩ | ⟨c1, h⟩
  · refine en_icmp_ne_t c1 rfl ?_
    refine ec_iconst cst_0 rfl ?_
    refine en_istore (l' := [(4, .int (0 : Int32)), (0, .ref a0), (1, .ref a1), (2, .int a2), (3, .int a3)]) rfl rfl ?_
    refine en_iload rfl rfl ?_
    refine en_if_eq_t (by decide) rfl ?_
    refine en_aload rfl rfl ?_
    refine en_aload rfl rfl ?_
    refine en_iload rfl rfl ?_
    refine en_iload rfl rfl ?_
    obtain ⟨⟨q2, C3⟩, e4, h⟩ := gb h
    dsimp only at h
    refine ec_callS1 (k' := 22) (n := 3) (as := [.ref a1, .int a2, .int a3]) rfl rfl rfl (Nat.le_of_ble_eq_true rfl) (Nat.le_of_ble_eq_true rfl) (Nat.le_of_ble_eq_true rfl) rfl (t_22 e4) ?_
    refine en_iload rfl rfl ?_
    refine ec_iconst cst_0 rfl ?_
    obtain ⟨g5, h⟩ := gd h
    obtain ⟨⟨q6, C7⟩, e8, h⟩ := gb h
    dsimp only at h
    refine ec_callV0 (k' := 19) (n := 4) (rc := 2) (a := a0) (as := [.int q2, .int a2, .int (0 : Int32)]) ⟨rfl, rfl⟩ rfl rfl (Nat.le_of_ble_eq_true rfl) (Nat.le_of_ble_eq_true rfl) (Nat.le_of_ble_eq_true rfl) g5 rfl (t_19 e8) ?_
    cases h
    exact en_vret rfl
  · refine en_icmp_ne_f c1 rfl ?_
    refine en_iload rfl rfl ?_
    rcases gi h with ⟨c9, h⟩ | ⟨c9, h⟩
    · refine en_if_lt_t c9 rfl ?_
      refine ec_iconst cst_0 rfl ?_
      refine en_istore (l' := [(4, .int (0 : Int32)), (0, .ref a0), (1, .ref a1), (2, .int a2), (3, .int a3)]) rfl rfl ?_
      refine en_iload rfl rfl ?_
      refine en_if_eq_t (by decide) rfl ?_
      refine en_aload rfl rfl ?_
      refine en_aload rfl rfl ?_
      refine en_iload rfl rfl ?_
      refine en_iload rfl rfl ?_
      obtain ⟨⟨q10, C11⟩, e12, h⟩ := gb h
      dsimp only at h
      refine ec_callS1 (k' := 22) (n := 3) (as := [.ref a1, .int a2, .int a3]) rfl rfl rfl (Nat.le_of_ble_eq_true rfl) (Nat.le_of_ble_eq_true rfl) (Nat.le_of_ble_eq_true rfl) rfl (t_22 e12) ?_
      refine en_iload rfl rfl ?_
      refine ec_iconst cst_0 rfl ?_
      obtain ⟨g13, h⟩ := gd h
      obtain ⟨⟨q14, C15⟩, e16, h⟩ := gb h
      dsimp only at h
      refine ec_callV0 (k' := 19) (n := 4) (rc := 2) (a := a0) (as := [.int q10, .int a2, .int (0 : Int32)]) ⟨rfl, rfl⟩ rfl rfl (Nat.le_of_ble_eq_true rfl) (Nat.le_of_ble_eq_true rfl) (Nat.le_of_ble_eq_true rfl) g13 rfl (t_19 e16) ?_
      cases h
      exact en_vret rfl
    · refine en_if_lt_f c9 rfl ?_
      refine en_iload rfl rfl ?_
      refine en_aload rfl rfl ?_
      obtain ⟨g17, h⟩ := gd h
      refine ec_alen g17 (by decide) rfl ?_
      rcases gi h with ⟨c18, h⟩ | ⟨c18, h⟩
      · refine en_icmp_ge_t c18 rfl ?_
        refine ec_iconst cst_0 rfl ?_
        refine en_istore (l' := [(4, .int (0 : Int32)), (0, .ref a0), (1, .ref a1), (2, .int a2), (3, .int a3)]) rfl rfl ?_
        refine en_iload rfl rfl ?_
        refine en_if_eq_t (by decide) rfl ?_
        refine en_aload rfl rfl ?_
        refine en_aload rfl rfl ?_
        refine en_iload rfl rfl ?_
        refine en_iload rfl rfl ?_
        obtain ⟨⟨q19, C20⟩, e21, h⟩ := gb h
        dsimp only at h
        refine ec_callS1 (k' := 22) (n := 3) (as := [.ref a1, .int a2, .int a3]) rfl rfl rfl (Nat.le_of_ble_eq_true rfl) (Nat.le_of_ble_eq_true rfl) (Nat.le_of_ble_eq_true rfl) rfl (t_22 e21) ?_
        refine en_iload rfl rfl ?_
        refine ec_iconst cst_0 rfl ?_
        obtain ⟨g22, h⟩ := gd h
        obtain ⟨⟨q23, C24⟩, e25, h⟩ := gb h
        dsimp only at h
        refine ec_callV0 (k' := 19) (n := 4) (rc := 2) (a := a0) (as := [.int q19, .int a2, .int (0 : Int32)]) ⟨rfl, rfl⟩ rfl rfl (Nat.le_of_ble_eq_true rfl) (Nat.le_of_ble_eq_true rfl) (Nat.le_of_ble_eq_true rfl) g22 rfl (t_19 e25) ?_
        cases h
        exact en_vret rfl
      · refine en_icmp_ge_f c18 rfl ?_
        refine en_aload rfl rfl ?_
        refine en_iload rfl rfl ?_
        obtain ⟨g26, h⟩ := gd h
        refine ec_baload g17 (by decide) g26 rfl ?_
        refine ec_iconst cst_100 rfl ?_
        rcases gi h with ⟨c27, h⟩ | ⟨c27, h⟩
        · refine en_icmp_gt_t c27 rfl ?_
          refine ec_iconst cst_0 rfl ?_
          refine en_istore (l' := [(4, .int (0 : Int32)), (0, .ref a0), (1, .ref a1), (2, .int a2), (3, .int a3)]) rfl rfl ?_
          refine en_iload rfl rfl ?_
          refine en_if_eq_t (by decide) rfl ?_
          refine en_aload rfl rfl ?_
          refine en_aload rfl rfl ?_
          refine en_iload rfl rfl ?_
          refine en_iload rfl rfl ?_
          obtain ⟨⟨q28, C29⟩, e30, h⟩ := gb h
          dsimp only at h
          refine ec_callS1 (k' := 22) (n := 3) (as := [.ref a1, .int a2, .int a3]) rfl rfl rfl (Nat.le_of_ble_eq_true rfl) (Nat.le_of_ble_eq_true rfl) (Nat.le_of_ble_eq_true rfl) rfl (t_22 e30) ?_
          refine en_iload rfl rfl ?_
          refine ec_iconst cst_0 rfl ?_
          obtain ⟨g31, h⟩ := gd h
          obtain ⟨⟨q32, C33⟩, e34, h⟩ := gb h
          dsimp only at h
          refine ec_callV0 (k' := 19) (n := 4) (rc := 2) (a := a0) (as := [.int q28, .int a2, .int (0 : Int32)]) ⟨rfl, rfl⟩ rfl rfl (Nat.le_of_ble_eq_true rfl) (Nat.le_of_ble_eq_true rfl) (Nat.le_of_ble_eq_true rfl) g31 rfl (t_19 e34) ?_
          cases h
          exact en_vret rfl
        · refine en_icmp_gt_f c27 rfl ?_
          refine ec_iconst cst_1 rfl ?_
          refine en_goto rfl ?_
          refine en_istore (l' := [(4, .int (1 : Int32)), (0, .ref a0), (1, .ref a1), (2, .int a2), (3, .int a3)]) rfl rfl ?_
          refine en_iload rfl rfl ?_
          refine en_if_eq_f (by decide) rfl ?_
          refine en_aload rfl rfl ?_
          refine ec_iconst cst_130 rfl ?_
          refine en_iload rfl rfl ?_
          refine en_aload rfl rfl ?_
          refine en_iload rfl rfl ?_
          obtain ⟨g35, h⟩ := gd h
          refine ec_baload g17 (by decide) g35 rfl ?_
          refine ec_iconst cst_97 rfl ?_
          refine en_isub rfl ?_
          obtain ⟨g36, h⟩ := gd h
          obtain ⟨⟨q37, C38⟩, e39, h⟩ := gb h
          dsimp only at h
          refine ec_callV0 (k' := 19) (n := 4) (rc := 2) (a := a0) (as := [.int (130 : Int32), .int a2, .int ((cI C a1 (Int32.toNatClampNeg a2)) - (97 : Int32))]) ⟨rfl, rfl⟩ rfl rfl (Nat.le_of_ble_eq_true rfl) (Nat.le_of_ble_eq_true rfl) (Nat.le_of_ble_eq_true rfl) g36 rfl (t_19 e39) ?_
          refine en_goto rfl ?_
          cases h
          exact en_vret rfl
/-- BulkWriter$Parser.isDigit(I)Z -/
def f_17 (n : Nat) (a0 : Int32) (C : AmC) : Option (Int32 × AmC) := (if a0 < (48 : Int32) then some ((0 : Int32), C) else (if (57 : Int32) < a0 then some ((0 : Int32), C) else some ((1 : Int32), C)))
set_option maxRecDepth 20000 in
set_option maxHeartbeats 4000000 in
theorem t_17 {n : Nat} {a0 : Int32} {C : AmC} {r : Int32} {C' : AmC} (h : f_17 n a0 C = some (r, C')) : En false 17 0 [(0, .int a0)] [] (mkM C) (.inl (some (.int r))) (mkM C') := by
  unfold f_17 at h
  refine en_iload rfl rfl ?_
  refine ec_iconst cst_48 rfl ?_
  rcases gi h with ⟨c1, h⟩ | ⟨c1, h⟩
  · refine en_icmp_lt_t c1 rfl ?_
    refine ec_iconst cst_0 rfl ?_
    cases h
    exact en_zret (Or.inl rfl) rfl
  · refine en_icmp_lt_f c1 rfl ?_
    refine en_iload rfl rfl ?_
    refine ec_iconst cst_57 rfl ?_
    rcases gi h with ⟨c2, h⟩ | ⟨c2, h⟩
    · refine en_icmp_gt_t c2 rfl ?_
      refine ec_iconst cst_0 rfl ?_
      cases h
      exact en_zret (Or.inl rfl) rfl
    · refine en_icmp_gt_f c2 rfl ?_
      refine ec_iconst cst_1 rfl ?_
      refine en_goto rfl ?_
      cases h
      exact en_zret (Or.inr rfl) rfl
def lp_20_6 : Nat → Nat → Nat → Int32 → Int32 → Int32 → Int32 → AmC → Option (((Nat × Int32 × Int32 × Int32)) × AmC)
  | 0, _, _, _, _, _, _, _ => none
  | n + 1, p0, p1, p2, p3, p4, p5, C => (if p3 ≤ p5 then some ((p0, p2, p3, p4), C) else (if (p2 + (4 : Int32)) ≤ p5 then some ((p0, p2, p3, p4), C) else if isK p1 11 = true then (if (Int32.ofNat (aLen p1)) ≤ p5 then some ((p0, p2, p3, p4), C) else if amIn p5 (aLen p1) = true then lp_20_6 n p0 p1 p2 p3 (((p4 * (10 : Int32)) + (cI C p1 (Int32.toNatClampNeg p5))) - (48 : Int32)) (p5 + (1 : Int32)) C else none) else none))
set_option maxRecDepth 20000 in
set_option maxHeartbeats 4000000 in
theorem lt_20_6 : ∀ (n : Nat) (p0 : Nat) (p1 : Nat) (p2 : Int32) (p3 : Int32) (p4 : Int32) (p5 : Int32) (C : AmC) (r : ((Nat × Int32 × Int32 × Int32)) × AmC), lp_20_6 n p0 p1 p2 p3 p4 p5 C = some r → ∀ (o : AmO) (M' : AmM), (match r with
        | ((w0, w2, w3, w4), C') => En false 20 30 [(0, .ref w0), (2, .int w2), (3, .int w3), (4, .int w4)] [] (mkM C') o M') → En false 20 6 [(0, .ref p0), (1, .ref p1), (2, .int p2), (3, .int p3), (4, .int p4), (5, .int p5)] [] (mkM C) o M' := by
  intro n
  induction n with
  | zero => intro p0 p1 p2 p3 p4 p5 C r h; cases h
  | succ n ih =>
    intro p0 p1 p2 p3 p4 p5 C r h o M' hk
    unfold lp_20_6 at h
    refine en_iload rfl rfl ?_
    refine en_iload rfl rfl ?_
    rcases gi h with ⟨c1, h⟩ | ⟨c1, h⟩
    · refine en_icmp_ge_t c1 rfl ?_
      cases h
      exact en_sub [0, 2, 3, 4] rfl rfl hk
    · refine en_icmp_ge_f c1 rfl ?_
      refine en_iload rfl rfl ?_
      refine en_iload rfl rfl ?_
      refine ec_iconst cst_4 rfl ?_
      refine en_iadd rfl ?_
      rcases gi h with ⟨c2, h⟩ | ⟨c2, h⟩
      · refine en_icmp_ge_t c2 rfl ?_
        cases h
        exact en_sub [0, 2, 3, 4] rfl rfl hk
      · refine en_icmp_ge_f c2 rfl ?_
        refine en_iload rfl rfl ?_
        refine en_aload rfl rfl ?_
        obtain ⟨g3, h⟩ := gd h
        refine ec_alen g3 (by decide) rfl ?_
        rcases gi h with ⟨c4, h⟩ | ⟨c4, h⟩
        · refine en_icmp_ge_t c4 rfl ?_
          cases h
          exact en_sub [0, 2, 3, 4] rfl rfl hk
        · refine en_icmp_ge_f c4 rfl ?_
          refine en_iload rfl rfl ?_
          refine ec_iconst cst_10 rfl ?_
          refine en_imul rfl ?_
          refine en_aload rfl rfl ?_
          refine en_iload rfl rfl ?_
          obtain ⟨g5, h⟩ := gd h
          refine ec_baload g3 (by decide) g5 rfl ?_
          refine en_iadd rfl ?_
          refine ec_iconst cst_48 rfl ?_
          refine en_isub rfl ?_
          refine en_istore (l' := [(4, .int (((p4 * (10 : Int32)) + (cI C p1 (Int32.toNatClampNeg p5))) - (48 : Int32))), (0, .ref p0), (1, .ref p1), (2, .int p2), (3, .int p3), (5, .int p5)]) rfl rfl ?_
          refine ec_iinc (l' := [(5, .int (p5 + (1 : Int32))), (4, .int (((p4 * (10 : Int32)) + (cI C p1 (Int32.toNatClampNeg p5))) - (48 : Int32))), (0, .ref p0), (1, .ref p1), (2, .int p2), (3, .int p3)]) rfl cst_1 rfl rfl ?_
          refine en_goto rfl ?_
          refine en_sub [2, 3, 4, 5, 1, 0] rfl rfl ?_
          exact ih _ _ _ _ _ _ _ _ h o M' hk
/-- BulkWriter$Parser.addNumber([BII)V -/
def f_20 (n : Nat) (a0 : Nat) (a1 : Nat) (a2 : Int32) (a3 : Int32) (C : AmC) : Option (Unit × AmC) := (lp_20_6 n a0 a1 a2 a3 (0 : Int32) (if a2 < (0 : Int32) then (0 : Int32) else a2) C).bind (fun q => match q with | ((u9, u10, u11, u12), C8) => (if (u11 - u10) ≤ (4 : Int32) then if isK u9 2 = true then (f_19 n u9 (128 : Int32) u10 u12 C8).bind (fun z => match z with | (_, C16) => some ((), C16)) else none else if isK u9 2 = true then (f_19 n u9 (129 : Int32) u10 u12 C8).bind (fun z => match z with | (_, C20) => some ((), C20)) else none))
set_option maxRecDepth 20000 in
set_option maxHeartbeats 4000000 in
theorem t_20 {n : Nat} {a0 : Nat} {a1 : Nat} {a2 : Int32} {a3 : Int32} {C : AmC} {r : Unit} {C' : AmC} (h : f_20 n a0 a1 a2 a3 C = some (r, C')) : En false 20 0 [(0, .ref a0), (1, .ref a1), (2, .int a2), (3, .int a3)] [] (mkM C) (.inl none) (mkM C') := by
  unfold f_20 at h
  refine ec_iconst cst_0 rfl ?_
  refine en_istore (l' := [(4, .int (0 : Int32)), (0, .ref a0), (1, .ref a1), (2, .int a2), (3, .int a3)]) rfl rfl ?_
  refine en_iload rfl rfl ?_
  refine ec_iconst cst_0 rfl ?_
  refine en_max (Nat.le_of_ble_eq_true rfl) rfl ?_
  refine en_istore (l' := [(5, .int (if a2 < (0 : Int32) then (0 : Int32) else a2)), (4, .int (0 : Int32)), (0, .ref a0), (1, .ref a1), (2, .int a2), (3, .int a3)]) rfl rfl ?_
  obtain ⟨⟨q6, C8⟩, e7, h⟩ := gb h
  refine en_sub [2, 3, 4, 5, 1, 0] rfl rfl (lt_20_6 n _ _ _ _ _ _ _ _ e7 _ _ ?_)
  obtain ⟨u9, u10, u11, u12⟩ := q6
  dsimp only at h ⊢
  refine en_aload rfl rfl ?_
  refine en_iload rfl rfl ?_
  refine en_iload rfl rfl ?_
  refine en_isub rfl ?_
  refine ec_iconst cst_4 rfl ?_
  rcases gi h with ⟨c13, h⟩ | ⟨c13, h⟩
  · refine en_icmp_le_t c13 rfl ?_
    refine ec_iconst cst_128 rfl ?_
    refine en_iload rfl rfl ?_
    refine en_iload rfl rfl ?_
    obtain ⟨g14, h⟩ := gd h
    obtain ⟨⟨q15, C16⟩, e17, h⟩ := gb h
    dsimp only at h
    refine ec_callV0 (k' := 19) (n := 4) (rc := 2) (a := u9) (as := [.int (128 : Int32), .int u10, .int u12]) ⟨rfl, rfl⟩ rfl rfl (Nat.le_of_ble_eq_true rfl) (Nat.le_of_ble_eq_true rfl) (Nat.le_of_ble_eq_true rfl) g14 rfl (t_19 e17) ?_
    cases h
    exact en_vret rfl
  · refine en_icmp_le_f c13 rfl ?_
    refine ec_iconst cst_129 rfl ?_
    refine en_goto rfl ?_
    refine en_iload rfl rfl ?_
    refine en_iload rfl rfl ?_
    obtain ⟨g18, h⟩ := gd h
    obtain ⟨⟨q19, C20⟩, e21, h⟩ := gb h
    dsimp only at h
    refine ec_callV0 (k' := 19) (n := 4) (rc := 2) (a := u9) (as := [.int (129 : Int32), .int u10, .int u12]) ⟨rfl, rfl⟩ rfl rfl (Nat.le_of_ble_eq_true rfl) (Nat.le_of_ble_eq_true rfl) (Nat.le_of_ble_eq_true rfl) g18 rfl (t_19 e21) ?_
    cases h
    exact en_vret rfl
/-- BulkWriter$Parser.isSign(I)Z -/
def f_18 (n : Nat) (a0 : Int32) (C : AmC) : Option (Int32 × AmC) := (if a0 = (59 : Int32) then some ((1 : Int32), C) else (if a0 = (44 : Int32) then some ((1 : Int32), C) else (if a0 = (43 : Int32) then some ((1 : Int32), C) else (if a0 = (45 : Int32) then some ((1 : Int32), C) else (if a0 = (42 : Int32) then some ((1 : Int32), C) else (if a0 = (60 : Int32) then some ((1 : Int32), C) else (if a0 = (61 : Int32) then some ((1 : Int32), C) else (if ¬ a0 = (62 : Int32) then some ((0 : Int32), C) else some ((1 : Int32), C)))))))))
set_option maxRecDepth 20000 in
set_option maxHeartbeats 4000000 in
theorem t_18 {n : Nat} {a0 : Int32} {C : AmC} {r : Int32} {C' : AmC} (h : f_18 n a0 C = some (r, C')) : En false 18 0 [(0, .int a0)] [] (mkM C) (.inl (some (.int r))) (mkM C') := by
  unfold f_18 at h
  refine en_iload rfl rfl ?_
  refine ec_iconst cst_59 rfl ?_
  rcases gi h with ⟨c1, h⟩ | ⟨c1, h⟩
  · refine en_icmp_eq_t c1 rfl ?_
    refine ec_iconst cst_1 rfl ?_
    refine en_goto rfl ?_
    cases h
    exact en_zret (Or.inr rfl) rfl
  · refine en_icmp_eq_f c1 rfl ?_
    refine en_iload rfl rfl ?_
    refine ec_iconst cst_44 rfl ?_
    rcases gi h with ⟨c2, h⟩ | ⟨c2, h⟩
    · refine en_icmp_eq_t c2 rfl ?_
      refine ec_iconst cst_1 rfl ?_
      refine en_goto rfl ?_
      cases h
      exact en_zret (Or.inr rfl) rfl
    · refine en_icmp_eq_f c2 rfl ?_
      refine en_iload rfl rfl ?_
      refine ec_iconst cst_43 rfl ?_
      rcases gi h with ⟨c3, h⟩ | ⟨c3, h⟩
      · refine en_icmp_eq_t c3 rfl ?_
        refine ec_iconst cst_1 rfl ?_
        refine en_goto rfl ?_
        cases h
        exact en_zret (Or.inr rfl) rfl
      · refine en_icmp_eq_f c3 rfl ?_
        refine en_iload rfl rfl ?_
        refine ec_iconst cst_45 rfl ?_
        rcases gi h with ⟨c4, h⟩ | ⟨c4, h⟩
        · refine en_icmp_eq_t c4 rfl ?_
          refine ec_iconst cst_1 rfl ?_
          refine en_goto rfl ?_
          cases h
          exact en_zret (Or.inr rfl) rfl
        · refine en_icmp_eq_f c4 rfl ?_
          refine en_iload rfl rfl ?_
          refine ec_iconst cst_42 rfl ?_
          rcases gi h with ⟨c5, h⟩ | ⟨c5, h⟩
          · refine en_icmp_eq_t c5 rfl ?_
            refine ec_iconst cst_1 rfl ?_
            refine en_goto rfl ?_
            cases h
            exact en_zret (Or.inr rfl) rfl
          · refine en_icmp_eq_f c5 rfl ?_
            refine en_iload rfl rfl ?_
            refine ec_iconst cst_60 rfl ?_
            rcases gi h with ⟨c6, h⟩ | ⟨c6, h⟩
            · refine en_icmp_eq_t c6 rfl ?_
              refine ec_iconst cst_1 rfl ?_
              refine en_goto rfl ?_
              cases h
              exact en_zret (Or.inr rfl) rfl
            · refine en_icmp_eq_f c6 rfl ?_
              refine en_iload rfl rfl ?_
              refine ec_iconst cst_61 rfl ?_
              rcases gi h with ⟨c7, h⟩ | ⟨c7, h⟩
              · refine en_icmp_eq_t c7 rfl ?_
                refine ec_iconst cst_1 rfl ?_
                refine en_goto rfl ?_
                cases h
                exact en_zret (Or.inr rfl) rfl
              · refine en_icmp_eq_f c7 rfl ?_
                refine en_iload rfl rfl ?_
                refine ec_iconst cst_62 rfl ?_
                rcases gi h with ⟨c8, h⟩ | ⟨c8, h⟩
                · refine en_icmp_ne_t c8 rfl ?_
                  refine ec_iconst cst_0 rfl ?_
                  cases h
                  exact en_zret (Or.inl rfl) rfl
                · refine en_icmp_ne_f c8 rfl ?_
                  refine ec_iconst cst_1 rfl ?_
                  refine en_goto rfl ?_
                  cases h
                  exact en_zret (Or.inr rfl) rfl
def lp_15_43 : Nat → Nat → Nat → Int32 → Int32 → Int32 → Int32 → AmC → Option (((Nat × Nat × Int32 × Int32 × Int32 × Int32)) × AmC)
  | 0, _, _, _, _, _, _, _ => none
  | n + 1, p0, p1, p2, p3, p4, p6, C => (if p2 ≤ p6 then some ((p0, p1, p2, p3, p4, p6), C) else if isK p1 11 = true then if amIn p6 (aLen p1) = true then (f_17 n (cI C p1 (Int32.toNatClampNeg p6)) C).bind (fun z => match z with | (q31, C32) => (if q31 = 0 then some ((p0, p1, p2, p3, p4, p6), C32) else lp_15_43 n p0 p1 p2 p3 p4 (p6 + (1 : Int32)) C32)) else none else none)
set_option maxRecDepth 20000 in
set_option maxHeartbeats 4000000 in
theorem lt_15_43 : ∀ (n : Nat) (p0 : Nat) (p1 : Nat) (p2 : Int32) (p3 : Int32) (p4 : Int32) (p6 : Int32) (C : AmC) (r : ((Nat × Nat × Int32 × Int32 × Int32 × Int32)) × AmC), lp_15_43 n p0 p1 p2 p3 p4 p6 C = some r → ∀ (o : AmO) (M' : AmM), (match r with
        | ((w0, w1, w2, w3, w4, w6), C') => En false 15 53 [(0, .ref w0), (1, .ref w1), (2, .int w2), (3, .int w3), (4, .int w4), (6, .int w6)] [] (mkM C') o M') → En false 15 43 [(0, .ref p0), (1, .ref p1), (2, .int p2), (3, .int p3), (4, .int p4), (6, .int p6)] [] (mkM C) o M' := by
  intro n
  induction n with
  | zero => intro p0 p1 p2 p3 p4 p6 C r h; cases h
  | succ n ih =>
    intro p0 p1 p2 p3 p4 p6 C r h o M' hk
    unfold lp_15_43 at h
    refine en_iload rfl rfl ?_
    refine en_iload rfl rfl ?_
    rcases gi h with ⟨c28, h⟩ | ⟨c28, h⟩
    · refine en_icmp_ge_t c28 rfl ?_
      cases h
      exact en_sub [0, 1, 2, 3, 4, 5] rfl rfl hk
    · refine en_icmp_ge_f c28 rfl ?_
      refine en_aload rfl rfl ?_
      refine en_iload rfl rfl ?_
      obtain ⟨g29, h⟩ := gd h
      obtain ⟨g30, h⟩ := gd h
      refine ec_baload g29 (by decide) g30 rfl ?_
      obtain ⟨⟨q31, C32⟩, e33, h⟩ := gb h
      dsimp only at h
      refine ec_callS1 (k' := 17) (n := 1) (as := [.int (cI C p1 (Int32.toNatClampNeg p6))]) rfl rfl rfl (Nat.le_of_ble_eq_true rfl) (Nat.le_of_ble_eq_true rfl) (Nat.le_of_ble_eq_true rfl) rfl (t_17 e33) ?_
      rcases gi h with ⟨c34, h⟩ | ⟨c34, h⟩
      · refine en_if_eq_t c34 rfl ?_
        cases h
        exact en_sub [0, 1, 2, 3, 4, 5] rfl rfl hk
      · refine en_if_eq_f c34 rfl ?_
        refine ec_iinc (l' := [(6, .int (p6 + (1 : Int32))), (0, .ref p0), (1, .ref p1), (2, .int p2), (3, .int p3), (4, .int p4)]) rfl cst_1 rfl rfl ?_
        refine en_goto rfl ?_
        refine en_sub [1, 2, 3, 4, 5, 0] rfl rfl ?_
        exact ih _ _ _ _ _ _ _ _ h o M' hk
def lp_15_24 : Nat → Nat → Nat → Int32 → Int32 → Int32 → Int32 → AmC → Option (((Nat × Nat × Int32 × Int32 × Int32 × Int32)) × AmC)
  | 0, _, _, _, _, _, _, _ => none
  | n + 1, p0, p1, p2, p3, p4, p6, C => (if p2 ≤ p6 then some ((p0, p1, p2, p3, p4, p6), C) else if isK p1 11 = true then if amIn p6 (aLen p1) = true then (f_16 n (cI C p1 (Int32.toNatClampNeg p6)) C).bind (fun z => match z with | (q51, C52) => (if q51 = 0 then some ((p0, p1, p2, p3, p4, p6), C52) else lp_15_24 n p0 p1 p2 p3 p4 (p6 + (1 : Int32)) C52)) else none else none)
set_option maxRecDepth 20000 in
set_option maxHeartbeats 4000000 in
theorem lt_15_24 : ∀ (n : Nat) (p0 : Nat) (p1 : Nat) (p2 : Int32) (p3 : Int32) (p4 : Int32) (p6 : Int32) (C : AmC) (r : ((Nat × Nat × Int32 × Int32 × Int32 × Int32)) × AmC), lp_15_24 n p0 p1 p2 p3 p4 p6 C = some r → ∀ (o : AmO) (M' : AmM), (match r with
        | ((w0, w1, w2, w3, w4, w6), C') => En false 15 34 [(0, .ref w0), (1, .ref w1), (2, .int w2), (3, .int w3), (4, .int w4), (6, .int w6)] [] (mkM C') o M') → En false 15 24 [(0, .ref p0), (1, .ref p1), (2, .int p2), (3, .int p3), (4, .int p4), (6, .int p6)] [] (mkM C) o M' := by
  intro n
  induction n with
  | zero => intro p0 p1 p2 p3 p4 p6 C r h; cases h
  | succ n ih =>
    intro p0 p1 p2 p3 p4 p6 C r h o M' hk
    unfold lp_15_24 at h
    refine en_iload rfl rfl ?_
    refine en_iload rfl rfl ?_
    rcases gi h with ⟨c48, h⟩ | ⟨c48, h⟩
    · refine en_icmp_ge_t c48 rfl ?_
      cases h
      exact en_sub [0, 1, 2, 3, 4, 5] rfl rfl hk
    · refine en_icmp_ge_f c48 rfl ?_
      refine en_aload rfl rfl ?_
      refine en_iload rfl rfl ?_
      obtain ⟨g49, h⟩ := gd h
      obtain ⟨g50, h⟩ := gd h
      refine ec_baload g49 (by decide) g50 rfl ?_
      obtain ⟨⟨q51, C52⟩, e53, h⟩ := gb h
      dsimp only at h
      refine ec_callS1 (k' := 16) (n := 1) (as := [.int (cI C p1 (Int32.toNatClampNeg p6))]) rfl rfl rfl (Nat.le_of_ble_eq_true rfl) (Nat.le_of_ble_eq_true rfl) (Nat.le_of_ble_eq_true rfl) rfl (t_16 e53) ?_
      rcases gi h with ⟨c54, h⟩ | ⟨c54, h⟩
      · refine en_if_eq_t c54 rfl ?_
        cases h
        exact en_sub [0, 1, 2, 3, 4, 5] rfl rfl hk
      · refine en_if_eq_f c54 rfl ?_
        refine ec_iinc (l' := [(6, .int (p6 + (1 : Int32))), (0, .ref p0), (1, .ref p1), (2, .int p2), (3, .int p3), (4, .int p4)]) rfl cst_1 rfl rfl ?_
        refine en_goto rfl ?_
        refine en_sub [1, 2, 3, 4, 5, 0] rfl rfl ?_
        exact ih _ _ _ _ _ _ _ _ h o M' hk
def lp_15_7 : Nat → Nat → Nat → Int32 → Int32 → Int32 → AmC → Option (((Nat × Int32)) × AmC)
  | 0, _, _, _, _, _, _ => none
  | n + 1, p0, p1, p2, p3, p4, C => (if (900 : Int32) ≤ p4 then some ((p0, p2), C) else (if p2 ≤ p3 then some ((p0, p2), C) else if isK p1 11 = true then if amIn p3 (aLen p1) = true then (f_16 n (cI C p1 (Int32.toNatClampNeg p3)) C).bind (fun z => match z with | (q6, C7) => (if q6 = 0 then (f_17 n (cI C p1 (Int32.toNatClampNeg p3)) C7).bind (fun z => match z with | (q10, C11) => (if q10 = 0 then (if (cI C p1 (Int32.toNatClampNeg p3)) = (32 : Int32) then lp_15_7 n p0 p1 p2 (p3 + (1 : Int32)) (p4 + (1 : Int32)) C11 else (if (cI C p1 (Int32.toNatClampNeg p3)) = (10 : Int32) then lp_15_7 n p0 p1 p2 (p3 + (1 : Int32)) (p4 + (1 : Int32)) C11 else (f_18 n (cI C p1 (Int32.toNatClampNeg p3)) C11).bind (fun z => match z with | (q16, C17) => (if q16 = 0 then if isK p0 2 = true then (f_19 n p0 (131 : Int32) p3 (0 : Int32) C17).bind (fun z => match z with | (_, C22) => lp_15_7 n p0 p1 p2 (p3 + (1 : Int32)) (p4 + (1 : Int32)) C22) else none else if isK p0 2 = true then (f_19 n p0 (cI C p1 (Int32.toNatClampNeg p3)) p3 (0 : Int32) C17).bind (fun z => match z with | (_, C26) => lp_15_7 n p0 p1 p2 (p3 + (1 : Int32)) (p4 + (1 : Int32)) C26) else none)))) else (lp_15_43 n p0 p1 p2 p3 p4 (p3 + (1 : Int32)) C11).bind (fun q => match q with | ((u38, u39, u40, u41, u42, u43), C37) => if isK u38 2 = true then (f_20 n u38 u39 u41 u43 C37).bind (fun z => match z with | (_, C46) => lp_15_7 n u38 u39 u40 u43 (u42 + (1 : Int32)) C46) else none))) else (lp_15_24 n p0 p1 p2 p3 p4 (p3 + (1 : Int32)) C7).bind (fun q => match q with | ((u58, u59, u60, u61, u62, u63), C57) => if isK u58 2 = true then (f_21 n u58 u59 u61 u63 C57).bind (fun z => match z with | (_, C66) => lp_15_7 n u58 u59 u60 u63 (u62 + (1 : Int32)) C66) else none))) else none else none))
set_option maxRecDepth 20000 in
set_option maxHeartbeats 4000000 in
theorem lt_15_7 : ∀ (n : Nat) (p0 : Nat) (p1 : Nat) (p2 : Int32) (p3 : Int32) (p4 : Int32) (C : AmC) (r : ((Nat × Int32)) × AmC), lp_15_7 n p0 p1 p2 p3 p4 C = some r → ∀ (o : AmO) (M' : AmM), (match r with
        | ((w0, w2), C') => En false 15 79 [(0, .ref w0), (2, .int w2)] [] (mkM C') o M') → En false 15 7 [(0, .ref p0), (1, .ref p1), (2, .int p2), (3, .int p3), (4, .int p4)] [] (mkM C) o M' := by
  intro n
  induction n with
  | zero => intro p0 p1 p2 p3 p4 C r h; cases h
  | succ n ih =>
    intro p0 p1 p2 p3 p4 C r h o M' hk
    unfold lp_15_7 at h
    refine en_iload rfl rfl ?_
    refine ec_iconst cst_900 rfl ?_
    rcases gi h with ⟨c2, h⟩ | ⟨c2, h⟩
    · refine en_icmp_ge_t c2 rfl ?_
      cases h
      exact en_sub [0, 2] rfl rfl hk
    · refine en_icmp_ge_f c2 rfl ?_
      refine en_iload rfl rfl ?_
      refine en_iload rfl rfl ?_
      rcases gi h with ⟨c3, h⟩ | ⟨c3, h⟩
      · refine en_icmp_ge_t c3 rfl ?_
        cases h
        exact en_sub [0, 2] rfl rfl hk
      · refine en_icmp_ge_f c3 rfl ?_
        refine en_aload rfl rfl ?_
        refine en_iload rfl rfl ?_
        obtain ⟨g4, h⟩ := gd h
        obtain ⟨g5, h⟩ := gd h
        refine ec_baload g4 (by decide) g5 rfl ?_
        refine en_istore (l' := [(5, .int (cI C p1 (Int32.toNatClampNeg p3))), (0, .ref p0), (1, .ref p1), (2, .int p2), (3, .int p3), (4, .int p4)]) rfl rfl ?_
        refine en_iload rfl rfl ?_
        refine ec_iconst cst_1 rfl ?_
        refine en_iadd rfl ?_
        refine en_istore (l' := [(6, .int (p3 + (1 : Int32))), (5, .int (cI C p1 (Int32.toNatClampNeg p3))), (0, .ref p0), (1, .ref p1), (2, .int p2), (3, .int p3), (4, .int p4)]) rfl rfl ?_
        refine en_iload rfl rfl ?_
        obtain ⟨⟨q6, C7⟩, e8, h⟩ := gb h
        dsimp only at h
        refine ec_callS1 (k' := 16) (n := 1) (as := [.int (cI C p1 (Int32.toNatClampNeg p3))]) rfl rfl rfl (Nat.le_of_ble_eq_true rfl) (Nat.le_of_ble_eq_true rfl) (Nat.le_of_ble_eq_true rfl) rfl (t_16 e8) ?_
        rcases gi h with ⟨c9, h⟩ | ⟨c9, h⟩
        · refine en_if_eq_t c9 rfl ?_
          refine en_iload rfl rfl ?_
          obtain ⟨⟨q10, C11⟩, e12, h⟩ := gb h
          dsimp only at h
          refine ec_callS1 (k' := 17) (n := 1) (as := [.int (cI C p1 (Int32.toNatClampNeg p3))]) rfl rfl rfl (Nat.le_of_ble_eq_true rfl) (Nat.le_of_ble_eq_true rfl) (Nat.le_of_ble_eq_true rfl) rfl (t_17 e12) ?_
          rcases gi h with ⟨c13, h⟩ | ⟨c13, h⟩
          · refine en_if_eq_t c13 rfl ?_
            refine en_iload rfl rfl ?_
            refine ec_iconst cst_32 rfl ?_
            rcases gi h with ⟨c14, h⟩ | ⟨c14, h⟩
            · refine en_icmp_eq_t c14 rfl ?_
              refine en_iload rfl rfl ?_
              refine en_istore (l' := [(3, .int (p3 + (1 : Int32))), (6, .int (p3 + (1 : Int32))), (5, .int (cI C p1 (Int32.toNatClampNeg p3))), (0, .ref p0), (1, .ref p1), (2, .int p2), (4, .int p4)]) rfl rfl ?_
              refine ec_iinc (l' := [(4, .int (p4 + (1 : Int32))), (3, .int (p3 + (1 : Int32))), (6, .int (p3 + (1 : Int32))), (5, .int (cI C p1 (Int32.toNatClampNeg p3))), (0, .ref p0), (1, .ref p1), (2, .int p2)]) rfl cst_1 rfl rfl ?_
              refine en_goto rfl ?_
              refine en_sub [4, 5, 6, 1, 0] rfl rfl ?_
              exact ih _ _ _ _ _ _ _ h o M' hk
            · refine en_icmp_eq_f c14 rfl ?_
              refine en_iload rfl rfl ?_
              refine ec_iconst cst_10 rfl ?_
              rcases gi h with ⟨c15, h⟩ | ⟨c15, h⟩
              · refine en_icmp_eq_t c15 rfl ?_
                refine en_iload rfl rfl ?_
                refine en_istore (l' := [(3, .int (p3 + (1 : Int32))), (6, .int (p3 + (1 : Int32))), (5, .int (cI C p1 (Int32.toNatClampNeg p3))), (0, .ref p0), (1, .ref p1), (2, .int p2), (4, .int p4)]) rfl rfl ?_
                refine ec_iinc (l' := [(4, .int (p4 + (1 : Int32))), (3, .int (p3 + (1 : Int32))), (6, .int (p3 + (1 : Int32))), (5, .int (cI C p1 (Int32.toNatClampNeg p3))), (0, .ref p0), (1, .ref p1), (2, .int p2)]) rfl cst_1 rfl rfl ?_
                refine en_goto rfl ?_
                refine en_sub [4, 5, 6, 1, 0] rfl rfl ?_
                exact ih _ _ _ _ _ _ _ h o M' hk
              · refine en_icmp_eq_f c15 rfl ?_
                refine en_aload rfl rfl ?_
                refine en_iload rfl rfl ?_
                obtain ⟨⟨q16, C17⟩, e18, h⟩ := gb h
                dsimp only at h
                refine ec_callS1 (k' := 18) (n := 1) (as := [.int (cI C p1 (Int32.toNatClampNeg p3))]) rfl rfl rfl (Nat.le_of_ble_eq_true rfl) (Nat.le_of_ble_eq_true rfl) (Nat.le_of_ble_eq_true rfl) rfl (t_18 e18) ?_
                rcases gi h with ⟨c19, h⟩ | ⟨c19, h⟩
                · refine en_if_eq_t c19 rfl ?_
                  refine ec_iconst cst_131 rfl ?_
                  refine en_iload rfl rfl ?_
                  refine ec_iconst cst_0 rfl ?_
                  obtain ⟨g20, h⟩ := gd h
                  obtain ⟨⟨q21, C22⟩, e23, h⟩ := gb h
                  dsimp only at h
                  refine ec_callV0 (k' := 19) (n := 4) (rc := 2) (a := p0) (as := [.int (131 : Int32), .int p3, .int (0 : Int32)]) ⟨rfl, rfl⟩ rfl rfl (Nat.le_of_ble_eq_true rfl) (Nat.le_of_ble_eq_true rfl) (Nat.le_of_ble_eq_true rfl) g20 rfl (t_19 e23) ?_
                  refine en_iload rfl rfl ?_
                  refine en_istore (l' := [(3, .int (p3 + (1 : Int32))), (6, .int (p3 + (1 : Int32))), (5, .int (cI C p1 (Int32.toNatClampNeg p3))), (0, .ref p0), (1, .ref p1), (2, .int p2), (4, .int p4)]) rfl rfl ?_
                  refine ec_iinc (l' := [(4, .int (p4 + (1 : Int32))), (3, .int (p3 + (1 : Int32))), (6, .int (p3 + (1 : Int32))), (5, .int (cI C p1 (Int32.toNatClampNeg p3))), (0, .ref p0), (1, .ref p1), (2, .int p2)]) rfl cst_1 rfl rfl ?_
                  refine en_goto rfl ?_
                  refine en_sub [4, 5, 6, 1, 0] rfl rfl ?_
                  exact ih _ _ _ _ _ _ _ h o M' hk
                · refine en_if_eq_f c19 rfl ?_
                  refine en_iload rfl rfl ?_
                  refine en_goto rfl ?_
                  refine en_iload rfl rfl ?_
                  refine ec_iconst cst_0 rfl ?_
                  obtain ⟨g24, h⟩ := gd h
                  obtain ⟨⟨q25, C26⟩, e27, h⟩ := gb h
                  dsimp only at h
                  refine ec_callV0 (k' := 19) (n := 4) (rc := 2) (a := p0) (as := [.int (cI C p1 (Int32.toNatClampNeg p3)), .int p3, .int (0 : Int32)]) ⟨rfl, rfl⟩ rfl rfl (Nat.le_of_ble_eq_true rfl) (Nat.le_of_ble_eq_true rfl) (Nat.le_of_ble_eq_true rfl) g24 rfl (t_19 e27) ?_
                  refine en_iload rfl rfl ?_
                  refine en_istore (l' := [(3, .int (p3 + (1 : Int32))), (6, .int (p3 + (1 : Int32))), (5, .int (cI C p1 (Int32.toNatClampNeg p3))), (0, .ref p0), (1, .ref p1), (2, .int p2), (4, .int p4)]) rfl rfl ?_
                  refine ec_iinc (l' := [(4, .int (p4 + (1 : Int32))), (3, .int (p3 + (1 : Int32))), (6, .int (p3 + (1 : Int32))), (5, .int (cI C p1 (Int32.toNatClampNeg p3))), (0, .ref p0), (1, .ref p1), (2, .int p2)]) rfl cst_1 rfl rfl ?_
                  refine en_goto rfl ?_
                  refine en_sub [4, 5, 6, 1, 0] rfl rfl ?_
                  exact ih _ _ _ _ _ _ _ h o M' hk
          · refine en_if_eq_f c13 rfl ?_
            obtain ⟨⟨q35, C37⟩, e36, h⟩ := gb h
            refine en_sub [2, 3, 4, 5, 6, 0] rfl rfl (lt_15_43 n _ _ _ _ _ _ _ _ e36 o M' ?_)
            obtain ⟨u38, u39, u40, u41, u42, u43⟩ := q35
            dsimp only at h ⊢
            refine en_aload rfl rfl ?_
            refine en_aload rfl rfl ?_
            refine en_iload rfl rfl ?_
            refine en_iload rfl rfl ?_
            obtain ⟨g44, h⟩ := gd h
            obtain ⟨⟨q45, C46⟩, e47, h⟩ := gb h
            dsimp only at h
            refine ec_callV0 (k' := 20) (n := 4) (rc := 2) (a := u38) (as := [.ref u39, .int u41, .int u43]) ⟨rfl, rfl⟩ rfl rfl (Nat.le_of_ble_eq_true rfl) (Nat.le_of_ble_eq_true rfl) (Nat.le_of_ble_eq_true rfl) g44 rfl (t_20 e47) ?_
            refine en_goto rfl ?_
            refine en_iload rfl rfl ?_
            refine en_istore (l' := [(3, .int u43), (0, .ref u38), (1, .ref u39), (2, .int u40), (4, .int u42), (6, .int u43)]) rfl rfl ?_
            refine ec_iinc (l' := [(4, .int (u42 + (1 : Int32))), (3, .int u43), (0, .ref u38), (1, .ref u39), (2, .int u40), (6, .int u43)]) rfl cst_1 rfl rfl ?_
            refine en_goto rfl ?_
            refine en_sub [2, 3, 4, 1, 0] rfl rfl ?_
            exact ih _ _ _ _ _ _ _ h o M' hk
        · refine en_if_eq_f c9 rfl ?_
          obtain ⟨⟨q55, C57⟩, e56, h⟩ := gb h
          refine en_sub [2, 3, 4, 5, 6, 0] rfl rfl (lt_15_24 n _ _ _ _ _ _ _ _ e56 o M' ?_)
          obtain ⟨u58, u59, u60, u61, u62, u63⟩ := q55
          dsimp only at h ⊢
          refine en_aload rfl rfl ?_
          refine en_aload rfl rfl ?_
          refine en_iload rfl rfl ?_
          refine en_iload rfl rfl ?_
          obtain ⟨g64, h⟩ := gd h
          obtain ⟨⟨q65, C66⟩, e67, h⟩ := gb h
          dsimp only at h
          refine ec_callV0 (k' := 21) (n := 4) (rc := 2) (a := u58) (as := [.ref u59, .int u61, .int u63]) ⟨rfl, rfl⟩ rfl rfl (Nat.le_of_ble_eq_true rfl) (Nat.le_of_ble_eq_true rfl) (Nat.le_of_ble_eq_true rfl) g64 rfl (t_21 e67) ?_
          refine en_goto rfl ?_
          refine en_iload rfl rfl ?_
          refine en_istore (l' := [(3, .int u63), (0, .ref u58), (1, .ref u59), (2, .int u60), (4, .int u62), (6, .int u63)]) rfl rfl ?_
          refine ec_iinc (l' := [(4, .int (u62 + (1 : Int32))), (3, .int u63), (0, .ref u58), (1, .ref u59), (2, .int u60), (6, .int u63)]) rfl cst_1 rfl rfl ?_
          refine en_goto rfl ?_
          refine en_sub [2, 3, 4, 1, 0] rfl rfl ?_
          exact ih _ _ _ _ _ _ _ h o M' hk
/-- BulkWriter$Parser.cut([BI)V -/
def f_15 (n : Nat) (a0 : Nat) (a1 : Nat) (a2 : Int32) (C : AmC) : Option (Unit × AmC) := if isK a0 2 = true then (lp_15_7 n a0 a1 a2 (0 : Int32) (0 : Int32) (uI C a0 3 (0 : Int32))).bind (fun q => match q with | ((u71, u72), C70) => if isK u71 2 = true then (f_19 n u71 (132 : Int32) u72 (0 : Int32) C70).bind (fun z => match z with | (_, C75) => some ((), C75)) else none) else none
set_option maxRecDepth 20000 in
set_option maxHeartbeats 4000000 in
theorem t_15 {n : Nat} {a0 : Nat} {a1 : Nat} {a2 : Int32} {C : AmC} {r : Unit} {C' : AmC} (h : f_15 n a0 a1 a2 C = some (r, C')) : En false 15 0 [(0, .ref a0), (1, .ref a1), (2, .int a2)] [] (mkM C) (.inl none) (mkM C') := by
  unfold f_15 at h
  refine en_aload rfl rfl ?_
  refine ec_iconst cst_0 rfl ?_
  obtain ⟨g1, h⟩ := gd h
  refine ec_putI (ci := 2) (j := 3) ⟨rfl, rfl, rfl⟩ g1 rfl ?_
  refine ec_iconst cst_0 rfl ?_
  refine en_istore (l' := [(3, .int (0 : Int32)), (0, .ref a0), (1, .ref a1), (2, .int a2)]) rfl rfl ?_
  refine ec_iconst cst_0 rfl ?_
  refine en_istore (l' := [(4, .int (0 : Int32)), (3, .int (0 : Int32)), (0, .ref a0), (1, .ref a1), (2, .int a2)]) rfl rfl ?_
  obtain ⟨⟨q68, C70⟩, e69, h⟩ := gb h
  refine en_sub [2, 3, 4, 1, 0] rfl rfl (lt_15_7 n _ _ _ _ _ _ _ e69 _ _ ?_)
  obtain ⟨u71, u72⟩ := q68
  dsimp only at h ⊢
  refine en_aload rfl rfl ?_
  refine ec_iconst cst_132 rfl ?_
  refine en_iload rfl rfl ?_
  refine ec_iconst cst_0 rfl ?_
  obtain ⟨g73, h⟩ := gd h
  obtain ⟨⟨q74, C75⟩, e76, h⟩ := gb h
  dsimp only at h
  refine ec_callV0 (k' := 19) (n := 4) (rc := 2) (a := u71) (as := [.int (132 : Int32), .int u72, .int (0 : Int32)]) ⟨rfl, rfl⟩ rfl rfl (Nat.le_of_ble_eq_true rfl) (Nat.le_of_ble_eq_true rfl) (Nat.le_of_ble_eq_true rfl) g73 rfl (t_19 e76) ?_
  cases h
  exact en_vret rfl
/-- BulkWriter$Rows.empty()V -/
def f_71 (n : Nat) (a0 : Nat) (C : AmC) : Option (Unit × AmC) := if isK a0 5 = true then some ((), uI C a0 1 (0 : Int32)) else none
set_option maxRecDepth 20000 in
set_option maxHeartbeats 4000000 in
theorem t_71 {n : Nat} {a0 : Nat} {C : AmC} {r : Unit} {C' : AmC} (h : f_71 n a0 C = some (r, C')) : En false 71 0 [(0, .ref a0)] [] (mkM C) (.inl none) (mkM C') := by
  unfold f_71 at h
  refine en_aload rfl rfl ?_
  refine ec_iconst cst_0 rfl ?_
  obtain ⟨g1, h⟩ := gd h
  refine ec_putI (ci := 5) (j := 1) ⟨rfl, rfl, rfl⟩ g1 rfl ?_
  cases h
  exact en_vret rfl
/-- BulkWriter$Script.empty()V -/
def f_86 (n : Nat) (a0 : Nat) (C : AmC) : Option (Unit × AmC) := if isK a0 6 = true then (cP (uI C a0 0 (3 : Int32)) a0 1).bind (fun r2 => if isK r2 5 = true then (f_71 n r2 (uI C a0 0 (3 : Int32))).bind (fun z => match z with | (_, C6) => some ((), uI (uI (uI (uI (uI (uI (uI C6 a0 2 (0 : Int32)) a0 5 (0 : Int32)) a0 6 (0 : Int32)) a0 8 (0 : Int32)) a0 11 (0 : Int32)) a0 15 (0 : Int32)) a0 17 (0 : Int32))) else none) else none
set_option maxRecDepth 20000 in
set_option maxHeartbeats 4000000 in
theorem t_86 {n : Nat} {a0 : Nat} {C : AmC} {r : Unit} {C' : AmC} (h : f_86 n a0 C = some (r, C')) : En false 86 0 [(0, .ref a0)] [] (mkM C) (.inl none) (mkM C') := by
  unfold f_86 at h
  refine en_aload rfl rfl ?_
  refine ec_iconst cst_3 rfl ?_
  obtain ⟨g1, h⟩ := gd h
  refine ec_putI (ci := 6) (j := 0) ⟨rfl, rfl, rfl⟩ g1 rfl ?_
  refine en_aload rfl rfl ?_
  obtain ⟨r2, e3, h⟩ := gb h
  refine ec_getP (ci := 6) (j := 1) ⟨rfl, rfl, rfl⟩ g1 e3 rfl ?_
  obtain ⟨g4, h⟩ := gd h
  obtain ⟨⟨q5, C6⟩, e7, h⟩ := gb h
  dsimp only at h
  refine ec_callV0 (k' := 71) (n := 1) (rc := 5) (a := r2) (as := []) ⟨rfl, rfl⟩ rfl rfl (Nat.le_of_ble_eq_true rfl) (Nat.le_of_ble_eq_true rfl) (Nat.le_of_ble_eq_true rfl) g4 rfl (t_71 e7) ?_
  refine en_aload rfl rfl ?_
  refine ec_iconst cst_0 rfl ?_
  refine ec_putI (ci := 6) (j := 2) ⟨rfl, rfl, rfl⟩ g1 rfl ?_
  refine en_aload rfl rfl ?_
  refine ec_iconst cst_0 rfl ?_
  refine ec_putI (ci := 6) (j := 5) ⟨rfl, rfl, rfl⟩ g1 rfl ?_
  refine en_aload rfl rfl ?_
  refine ec_iconst cst_0 rfl ?_
  refine ec_putI (ci := 6) (j := 6) ⟨rfl, rfl, rfl⟩ g1 rfl ?_
  refine en_aload rfl rfl ?_
  refine ec_iconst cst_0 rfl ?_
  refine ec_putI (ci := 6) (j := 8) ⟨rfl, rfl, rfl⟩ g1 rfl ?_
  refine en_aload rfl rfl ?_
  refine ec_iconst cst_0 rfl ?_
  refine ec_putI (ci := 6) (j := 11) ⟨rfl, rfl, rfl⟩ g1 rfl ?_
  refine en_aload rfl rfl ?_
  refine ec_iconst cst_0 rfl ?_
  refine ec_putI (ci := 6) (j := 15) ⟨rfl, rfl, rfl⟩ g1 rfl ?_
  refine en_aload rfl rfl ?_
  refine ec_iconst cst_0 rfl ?_
  refine ec_putI (ci := 6) (j := 17) ⟨rfl, rfl, rfl⟩ g1 rfl ?_
  cases h
  exact en_vret rfl
/-- BulkWriter$Parser.kind()I -/
def f_23 (n : Nat) (a0 : Nat) (C : AmC) : Option (Int32 × AmC) := if isK a0 2 = true then (if (cI C a0 4) < 0 then some ((132 : Int32), C) else (if (cI C a0 3) ≤ (cI C a0 4) then some ((132 : Int32), C) else (if (900 : Int32) < (cI C a0 4) then some ((132 : Int32), C) else (cP C a0 0).bind (fun r5 => if isK r5 12 = true then if amIn (cI C a0 4) (aLen r5) = true then some ((cI C r5 (Int32.toNatClampNeg (cI C a0 4))), C) else none else none)))) else none
set_option maxRecDepth 20000 in
set_option maxHeartbeats 4000000 in
theorem t_23 {n : Nat} {a0 : Nat} {C : AmC} {r : Int32} {C' : AmC} (h : f_23 n a0 C = some (r, C')) : En false 23 0 [(0, .ref a0)] [] (mkM C) (.inl (some (.int r))) (mkM C') := by
  unfold f_23 at h
  refine en_aload rfl rfl ?_
  obtain ⟨g1, h⟩ := gd h
  refine ec_getI (ci := 2) (j := 4) ⟨rfl, rfl, rfl⟩ g1 rfl ?_
  rcases gi h with ⟨c2, h⟩ | ⟨c2, h⟩
  · refine en_if_lt_t c2 rfl ?_
    refine ec_iconst cst_132 rfl ?_
    cases h
    exact en_iret rfl
  · refine en_if_lt_f c2 rfl ?_
    refine en_aload rfl rfl ?_
    refine ec_getI (ci := 2) (j := 4) ⟨rfl, rfl, rfl⟩ g1 rfl ?_
    refine en_aload rfl rfl ?_
    refine ec_getI (ci := 2) (j := 3) ⟨rfl, rfl, rfl⟩ g1 rfl ?_
    rcases gi h with ⟨c3, h⟩ | ⟨c3, h⟩
    · refine en_icmp_ge_t c3 rfl ?_
      refine ec_iconst cst_132 rfl ?_
      cases h
      exact en_iret rfl
    · refine en_icmp_ge_f c3 rfl ?_
      refine en_aload rfl rfl ?_
      refine ec_getI (ci := 2) (j := 4) ⟨rfl, rfl, rfl⟩ g1 rfl ?_
      refine ec_iconst cst_900 rfl ?_
      rcases gi h with ⟨c4, h⟩ | ⟨c4, h⟩
      · refine en_icmp_gt_t c4 rfl ?_
        refine ec_iconst cst_132 rfl ?_
        cases h
        exact en_iret rfl
      · refine en_icmp_gt_f c4 rfl ?_
        refine en_aload rfl rfl ?_
        obtain ⟨r5, e6, h⟩ := gb h
        refine ec_getP (ci := 2) (j := 0) ⟨rfl, rfl, rfl⟩ g1 e6 rfl ?_
        refine en_aload rfl rfl ?_
        refine ec_getI (ci := 2) (j := 4) ⟨rfl, rfl, rfl⟩ g1 rfl ?_
        obtain ⟨g7, h⟩ := gd h
        obtain ⟨g8, h⟩ := gd h
        refine ec_iaload g7 g8 rfl ?_
        refine en_goto rfl ?_
        cases h
        exact en_iret rfl
/-- BulkWriter$Parser.refuse(I)Z -/
def f_25 (n : Nat) (a0 : Nat) (a1 : Int32) (C : AmC) : Option (Int32 × AmC) := if isK a0 2 = true then (if (cI (uI C a0 6 a1) a0 4) < 0 then some ((0 : Int32), uI (uI C a0 6 a1) a0 7 (0 : Int32)) else (if (cI (uI C a0 6 a1) a0 3) ≤ (cI (uI C a0 6 a1) a0 4) then some ((0 : Int32), uI (uI C a0 6 a1) a0 7 (0 : Int32)) else (if (900 : Int32) < (cI (uI C a0 6 a1) a0 4) then some ((0 : Int32), uI (uI C a0 6 a1) a0 7 (0 : Int32)) else (cP (uI C a0 6 a1) a0 1).bind (fun r5 => if isK r5 12 = true then if amIn (cI (uI C a0 6 a1) a0 4) (aLen r5) = true then some ((0 : Int32), uI (uI C a0 6 a1) a0 7 (cI (uI C a0 6 a1) r5 (Int32.toNatClampNeg (cI (uI C a0 6 a1) a0 4)))) else none else none)))) else none
set_option maxRecDepth 20000 in
set_option maxHeartbeats 4000000 in
theorem t_25 {n : Nat} {a0 : Nat} {a1 : Int32} {C : AmC} {r : Int32} {C' : AmC} (h : f_25 n a0 a1 C = some (r, C')) : En false 25 0 [(0, .ref a0), (1, .int a1)] [] (mkM C) (.inl (some (.int r))) (mkM C') := by
  unfold f_25 at h
  refine en_aload rfl rfl ?_
  refine en_iload rfl rfl ?_
  obtain ⟨g1, h⟩ := gd h
  refine ec_putI (ci := 2) (j := 6) ⟨rfl, rfl, rfl⟩ g1 rfl ?_
  refine en_aload rfl rfl ?_
  refine en_aload rfl rfl ?_
  refine ec_getI (ci := 2) (j := 4) ⟨rfl, rfl, rfl⟩ g1 rfl ?_
  rcases gi h with ⟨c2, h⟩ | ⟨c2, h⟩
  · refine en_if_lt_t c2 rfl ?_
    refine ec_iconst cst_0 rfl ?_
    refine ec_putI (ci := 2) (j := 7) ⟨rfl, rfl, rfl⟩ g1 rfl ?_
    refine ec_iconst cst_0 rfl ?_
    cases h
    exact en_zret (Or.inl rfl) rfl
  · refine en_if_lt_f c2 rfl ?_
    refine en_aload rfl rfl ?_
    refine ec_getI (ci := 2) (j := 4) ⟨rfl, rfl, rfl⟩ g1 rfl ?_
    refine en_aload rfl rfl ?_
    refine ec_getI (ci := 2) (j := 3) ⟨rfl, rfl, rfl⟩ g1 rfl ?_
    rcases gi h with ⟨c3, h⟩ | ⟨c3, h⟩
    · refine en_icmp_ge_t c3 rfl ?_
      refine ec_iconst cst_0 rfl ?_
      refine ec_putI (ci := 2) (j := 7) ⟨rfl, rfl, rfl⟩ g1 rfl ?_
      refine ec_iconst cst_0 rfl ?_
      cases h
      exact en_zret (Or.inl rfl) rfl
    · refine en_icmp_ge_f c3 rfl ?_
      refine en_aload rfl rfl ?_
      refine ec_getI (ci := 2) (j := 4) ⟨rfl, rfl, rfl⟩ g1 rfl ?_
      refine ec_iconst cst_900 rfl ?_
      rcases gi h with ⟨c4, h⟩ | ⟨c4, h⟩
      · refine en_icmp_gt_t c4 rfl ?_
        refine ec_iconst cst_0 rfl ?_
        refine ec_putI (ci := 2) (j := 7) ⟨rfl, rfl, rfl⟩ g1 rfl ?_
        refine ec_iconst cst_0 rfl ?_
        cases h
        exact en_zret (Or.inl rfl) rfl
      · refine en_icmp_gt_f c4 rfl ?_
        refine en_aload rfl rfl ?_
        obtain ⟨r5, e6, h⟩ := gb h
        refine ec_getP (ci := 2) (j := 1) ⟨rfl, rfl, rfl⟩ g1 e6 rfl ?_
        refine en_aload rfl rfl ?_
        refine ec_getI (ci := 2) (j := 4) ⟨rfl, rfl, rfl⟩ g1 rfl ?_
        obtain ⟨g7, h⟩ := gd h
        obtain ⟨g8, h⟩ := gd h
        refine ec_iaload g7 g8 rfl ?_
        refine en_goto rfl ?_
        refine ec_putI (ci := 2) (j := 7) ⟨rfl, rfl, rfl⟩ g1 rfl ?_
        refine ec_iconst cst_0 rfl ?_
        cases h
        exact en_zret (Or.inl rfl) rfl
/-- BulkWriter$Parser.number()I -/
def f_24 (n : Nat) (a0 : Nat) (C : AmC) : Option (Int32 × AmC) := if isK a0 2 = true then (if (cI C a0 4) < 0 then some ((0 : Int32), C) else (if (cI C a0 3) ≤ (cI C a0 4) then some ((0 : Int32), C) else (if (900 : Int32) < (cI C a0 4) then some ((0 : Int32), C) else (cP C a0 2).bind (fun r5 => if isK r5 12 = true then if amIn (cI C a0 4) (aLen r5) = true then some ((cI C r5 (Int32.toNatClampNeg (cI C a0 4))), C) else none else none)))) else none
set_option maxRecDepth 20000 in
set_option maxHeartbeats 4000000 in
theorem t_24 {n : Nat} {a0 : Nat} {C : AmC} {r : Int32} {C' : AmC} (h : f_24 n a0 C = some (r, C')) : En false 24 0 [(0, .ref a0)] [] (mkM C) (.inl (some (.int r))) (mkM C') := by
  unfold f_24 at h
  refine en_aload rfl rfl ?_
  obtain ⟨g1, h⟩ := gd h
  refine ec_getI (ci := 2) (j := 4) ⟨rfl, rfl, rfl⟩ g1 rfl ?_
  rcases gi h with ⟨c2, h⟩ | ⟨c2, h⟩
  · refine en_if_lt_t c2 rfl ?_
    refine ec_iconst cst_0 rfl ?_
    cases h
    exact en_iret rfl
  · refine en_if_lt_f c2 rfl ?_
    refine en_aload rfl rfl ?_
    refine ec_getI (ci := 2) (j := 4) ⟨rfl, rfl, rfl⟩ g1 rfl ?_
    refine en_aload rfl rfl ?_
    refine ec_getI (ci := 2) (j := 3) ⟨rfl, rfl, rfl⟩ g1 rfl ?_
    rcases gi h with ⟨c3, h⟩ | ⟨c3, h⟩
    · refine en_icmp_ge_t c3 rfl ?_
      refine ec_iconst cst_0 rfl ?_
      cases h
      exact en_iret rfl
    · refine en_icmp_ge_f c3 rfl ?_
      refine en_aload rfl rfl ?_
      refine ec_getI (ci := 2) (j := 4) ⟨rfl, rfl, rfl⟩ g1 rfl ?_
      refine ec_iconst cst_900 rfl ?_
      rcases gi h with ⟨c4, h⟩ | ⟨c4, h⟩
      · refine en_icmp_gt_t c4 rfl ?_
        refine ec_iconst cst_0 rfl ?_
        cases h
        exact en_iret rfl
      · refine en_icmp_gt_f c4 rfl ?_
        refine en_aload rfl rfl ?_
        obtain ⟨r5, e6, h⟩ := gb h
        refine ec_getP (ci := 2) (j := 2) ⟨rfl, rfl, rfl⟩ g1 e6 rfl ?_
        refine en_aload rfl rfl ?_
        refine ec_getI (ci := 2) (j := 4) ⟨rfl, rfl, rfl⟩ g1 rfl ?_
        obtain ⟨g7, h⟩ := gd h
        obtain ⟨g8, h⟩ := gd h
        refine ec_iaload g7 g8 rfl ?_
        refine en_goto rfl ?_
        cases h
        exact en_iret rfl
/-- BulkWriter$Parser.pass(I)Z -/
def f_26 (n : Nat) (a0 : Nat) (a1 : Int32) (C : AmC) : Option (Int32 × AmC) := if isK a0 2 = true then (f_23 n a0 C).bind (fun z => match z with | (q2, C3) => (if q2 = a1 then some ((1 : Int32), uI C3 a0 4 ((cI C3 a0 4) + (1 : Int32))) else (f_25 n a0 (1 : Int32) C3).bind (fun z => match z with | (q6, C7) => if q6 = 0 ∨ q6 = 1 then some (q6, C7) else none))) else none
set_option maxRecDepth 20000 in
set_option maxHeartbeats 4000000 in
theorem t_26 {n : Nat} {a0 : Nat} {a1 : Int32} {C : AmC} {r : Int32} {C' : AmC} (h : f_26 n a0 a1 C = some (r, C')) : En false 26 0 [(0, .ref a0), (1, .int a1)] [] (mkM C) (.inl (some (.int r))) (mkM C') := by
  unfold f_26 at h
  refine en_aload rfl rfl ?_
  obtain ⟨g1, h⟩ := gd h
  obtain ⟨⟨q2, C3⟩, e4, h⟩ := gb h
  dsimp only at h
  refine ec_callV1 (k' := 23) (n := 1) (rc := 2) (a := a0) (as := []) ⟨rfl, rfl⟩ rfl rfl (Nat.le_of_ble_eq_true rfl) (Nat.le_of_ble_eq_true rfl) (Nat.le_of_ble_eq_true rfl) g1 rfl (t_23 e4) ?_
  refine en_iload rfl rfl ?_
  rcases gi h with ⟨c5, h⟩ | ⟨c5, h⟩
  · refine en_icmp_eq_t c5 rfl ?_
    refine en_aload rfl rfl ?_
    refine en_dup rfl rfl ?_
    refine ec_getI (ci := 2) (j := 4) ⟨rfl, rfl, rfl⟩ g1 rfl ?_
    refine ec_iconst cst_1 rfl ?_
    refine en_iadd rfl ?_
    refine ec_putI (ci := 2) (j := 4) ⟨rfl, rfl, rfl⟩ g1 rfl ?_
    refine ec_iconst cst_1 rfl ?_
    cases h
    exact en_zret (Or.inr rfl) rfl
  · refine en_icmp_eq_f c5 rfl ?_
    refine en_aload rfl rfl ?_
    refine ec_iconst cst_1 rfl ?_
    obtain ⟨⟨q6, C7⟩, e8, h⟩ := gb h
    dsimp only at h
    refine ec_callV1 (k' := 25) (n := 2) (rc := 2) (a := a0) (as := [.int (1 : Int32)]) ⟨rfl, rfl⟩ rfl rfl (Nat.le_of_ble_eq_true rfl) (Nat.le_of_ble_eq_true rfl) (Nat.le_of_ble_eq_true rfl) g1 rfl (t_25 e8) ?_
    obtain ⟨g9, h⟩ := gd h
    cases h
    exact en_zret g9 rfl
/-- BulkWriter$Parser.readColumns(Z)Z -/
def f_27 (n : Nat) (a0 : Nat) (a1 : Int32) (C : AmC) : Option (Int32 × AmC) := (if ¬ a1 = 0 then if isK a0 2 = true then (f_23 n a0 (uI C a0 4 ((cI C a0 4) + (1 : Int32)))).bind (fun z => match z with | (q3, C4) => (if q3 = (128 : Int32) then (f_23 n a0 C4).bind (fun z => match z with | (q7, C8) => (if q7 = (129 : Int32) then (f_25 n a0 (2 : Int32) C8).bind (fun z => match z with | (q11, C12) => if q11 = 0 ∨ q11 = 1 then some (q11, C12) else none) else (f_24 n a0 C8).bind (fun z => match z with | (q15, C16) => (if q15 < (1 : Int32) then (f_25 n a0 (2 : Int32) C16).bind (fun z => match z with | (q19, C20) => if q19 = 0 ∨ q19 = 1 then some (q19, C20) else none) else (f_24 n a0 C16).bind (fun z => match z with | (q23, C24) => (if q23 ≤ (4 : Int32) then (cP C24 a0 5).bind (fun r27 => (f_24 n a0 C24).bind (fun z => match z with | (q29, C30) => if isK r27 6 = true then (f_26 n a0 (59 : Int32) (uI (uI C30 r27 0 q29) a0 4 ((cI (uI C30 r27 0 q29) a0 4) + (1 : Int32)))).bind (fun z => match z with | (q33, C34) => if q33 = 0 ∨ q33 = 1 then some (q33, C34) else none) else none)) else (f_25 n a0 (2 : Int32) C24).bind (fun z => match z with | (q37, C38) => if q37 = 0 ∨ q37 = 1 then some (q37, C38) else none))))))) else (f_23 n a0 C4).bind (fun z => match z with | (q41, C42) => (if q41 = (129 : Int32) then (f_23 n a0 C42).bind (fun z => match z with | (q45, C46) => (if q45 = (129 : Int32) then (f_25 n a0 (2 : Int32) C46).bind (fun z => match z with | (q49, C50) => if q49 = 0 ∨ q49 = 1 then some (q49, C50) else none) else (f_24 n a0 C46).bind (fun z => match z with | (q53, C54) => (if q53 < (1 : Int32) then (f_25 n a0 (2 : Int32) C54).bind (fun z => match z with | (q57, C58) => if q57 = 0 ∨ q57 = 1 then some (q57, C58) else none) else (f_24 n a0 C54).bind (fun z => match z with | (q61, C62) => (if q61 ≤ (4 : Int32) then (cP C62 a0 5).bind (fun r65 => (f_24 n a0 C62).bind (fun z => match z with | (q67, C68) => if isK r65 6 = true then (f_26 n a0 (59 : Int32) (uI (uI C68 r65 0 q67) a0 4 ((cI (uI C68 r65 0 q67) a0 4) + (1 : Int32)))).bind (fun z => match z with | (q71, C72) => if q71 = 0 ∨ q71 = 1 then some (q71, C72) else none) else none)) else (f_25 n a0 (2 : Int32) C62).bind (fun z => match z with | (q75, C76) => if q75 = 0 ∨ q75 = 1 then some (q75, C76) else none))))))) else (f_25 n a0 (1 : Int32) C42).bind (fun z => match z with | (q79, C80) => if q79 = 0 ∨ q79 = 1 then some (q79, C80) else none))))) else none else if isK a0 2 = true then (f_25 n a0 (4 : Int32) C).bind (fun z => match z with | (q84, C85) => if q84 = 0 ∨ q84 = 1 then some (q84, C85) else none) else none)
set_option maxRecDepth 20000 in
set_option maxHeartbeats 4000000 in
theorem t_27 {n : Nat} {a0 : Nat} {a1 : Int32} {C : AmC} {r : Int32} {C' : AmC} (h : f_27 n a0 a1 C = some (r, C')) : En false 27 0 [(0, .ref a0), (1, .int a1)] [] (mkM C) (.inl (some (.int r))) (mkM C') := by
  unfold f_27 at h
  refine en_iload rfl rfl ?_
  rcases gi h with ⟨c1, h⟩ | ⟨c1, h⟩
  · refine en_if_ne_t c1 rfl ?_
    refine en_aload rfl rfl ?_
    refine en_dup rfl rfl ?_
    obtain ⟨g2, h⟩ := gd h
    refine ec_getI (ci := 2) (j := 4) ⟨rfl, rfl, rfl⟩ g2 rfl ?_
    refine ec_iconst cst_1 rfl ?_
    refine en_iadd rfl ?_
    refine ec_putI (ci := 2) (j := 4) ⟨rfl, rfl, rfl⟩ g2 rfl ?_
    refine en_aload rfl rfl ?_
    obtain ⟨⟨q3, C4⟩, e5, h⟩ := gb h
    dsimp only at h
    refine ec_callV1 (k' := 23) (n := 1) (rc := 2) (a := a0) (as := []) ⟨rfl, rfl⟩ rfl rfl (Nat.le_of_ble_eq_true rfl) (Nat.le_of_ble_eq_true rfl) (Nat.le_of_ble_eq_true rfl) g2 rfl (t_23 e5) ?_
    refine ec_iconst cst_128 rfl ?_
    rcases gi h with ⟨c6, h⟩ | ⟨c6, h⟩
    · refine en_icmp_eq_t c6 rfl ?_
      refine en_aload rfl rfl ?_
      obtain ⟨⟨q7, C8⟩, e9, h⟩ := gb h
      dsimp only at h
      refine ec_callV1 (k' := 23) (n := 1) (rc := 2) (a := a0) (as := []) ⟨rfl, rfl⟩ rfl rfl (Nat.le_of_ble_eq_true rfl) (Nat.le_of_ble_eq_true rfl) (Nat.le_of_ble_eq_true rfl) g2 rfl (t_23 e9) ?_
      refine ec_iconst cst_129 rfl ?_
      rcases gi h with ⟨c10, h⟩ | ⟨c10, h⟩
      · refine en_icmp_eq_t c10 rfl ?_
        refine en_aload rfl rfl ?_
        refine ec_iconst cst_2 rfl ?_
        obtain ⟨⟨q11, C12⟩, e13, h⟩ := gb h
        dsimp only at h
        refine ec_callV1 (k' := 25) (n := 2) (rc := 2) (a := a0) (as := [.int (2 : Int32)]) ⟨rfl, rfl⟩ rfl rfl (Nat.le_of_ble_eq_true rfl) (Nat.le_of_ble_eq_true rfl) (Nat.le_of_ble_eq_true rfl) g2 rfl (t_25 e13) ?_
        obtain ⟨g14, h⟩ := gd h
        cases h
        exact en_zret g14 rfl
      · refine en_icmp_eq_f c10 rfl ?_
        refine en_aload rfl rfl ?_
        obtain ⟨⟨q15, C16⟩, e17, h⟩ := gb h
        dsimp only at h
        refine ec_callV1 (k' := 24) (n := 1) (rc := 2) (a := a0) (as := []) ⟨rfl, rfl⟩ rfl rfl (Nat.le_of_ble_eq_true rfl) (Nat.le_of_ble_eq_true rfl) (Nat.le_of_ble_eq_true rfl) g2 rfl (t_24 e17) ?_
        refine ec_iconst cst_1 rfl ?_
        rcases gi h with ⟨c18, h⟩ | ⟨c18, h⟩
        · refine en_icmp_lt_t c18 rfl ?_
          refine en_aload rfl rfl ?_
          refine ec_iconst cst_2 rfl ?_
          obtain ⟨⟨q19, C20⟩, e21, h⟩ := gb h
          dsimp only at h
          refine ec_callV1 (k' := 25) (n := 2) (rc := 2) (a := a0) (as := [.int (2 : Int32)]) ⟨rfl, rfl⟩ rfl rfl (Nat.le_of_ble_eq_true rfl) (Nat.le_of_ble_eq_true rfl) (Nat.le_of_ble_eq_true rfl) g2 rfl (t_25 e21) ?_
          obtain ⟨g22, h⟩ := gd h
          cases h
          exact en_zret g22 rfl
        · refine en_icmp_lt_f c18 rfl ?_
          refine en_aload rfl rfl ?_
          obtain ⟨⟨q23, C24⟩, e25, h⟩ := gb h
          dsimp only at h
          refine ec_callV1 (k' := 24) (n := 1) (rc := 2) (a := a0) (as := []) ⟨rfl, rfl⟩ rfl rfl (Nat.le_of_ble_eq_true rfl) (Nat.le_of_ble_eq_true rfl) (Nat.le_of_ble_eq_true rfl) g2 rfl (t_24 e25) ?_
          refine ec_iconst cst_4 rfl ?_
          rcases gi h with ⟨c26, h⟩ | ⟨c26, h⟩
          · refine en_icmp_le_t c26 rfl ?_
            refine en_aload rfl rfl ?_
            obtain ⟨r27, e28, h⟩ := gb h
            refine ec_getP (ci := 2) (j := 5) ⟨rfl, rfl, rfl⟩ g2 e28 rfl ?_
            refine en_aload rfl rfl ?_
            obtain ⟨⟨q29, C30⟩, e31, h⟩ := gb h
            dsimp only at h
            refine ec_callV1 (k' := 24) (n := 1) (rc := 2) (a := a0) (as := []) ⟨rfl, rfl⟩ rfl rfl (Nat.le_of_ble_eq_true rfl) (Nat.le_of_ble_eq_true rfl) (Nat.le_of_ble_eq_true rfl) g2 rfl (t_24 e31) ?_
            obtain ⟨g32, h⟩ := gd h
            refine ec_putI (ci := 6) (j := 0) ⟨rfl, rfl, rfl⟩ g32 rfl ?_
            refine en_aload rfl rfl ?_
            refine en_dup rfl rfl ?_
            refine ec_getI (ci := 2) (j := 4) ⟨rfl, rfl, rfl⟩ g2 rfl ?_
            refine ec_iconst cst_1 rfl ?_
            refine en_iadd rfl ?_
            refine ec_putI (ci := 2) (j := 4) ⟨rfl, rfl, rfl⟩ g2 rfl ?_
            refine en_aload rfl rfl ?_
            refine ec_iconst cst_59 rfl ?_
            obtain ⟨⟨q33, C34⟩, e35, h⟩ := gb h
            dsimp only at h
            refine ec_callV1 (k' := 26) (n := 2) (rc := 2) (a := a0) (as := [.int (59 : Int32)]) ⟨rfl, rfl⟩ rfl rfl (Nat.le_of_ble_eq_true rfl) (Nat.le_of_ble_eq_true rfl) (Nat.le_of_ble_eq_true rfl) g2 rfl (t_26 e35) ?_
            obtain ⟨g36, h⟩ := gd h
            cases h
            exact en_zret g36 rfl
          · refine en_icmp_le_f c26 rfl ?_
            refine en_aload rfl rfl ?_
            refine ec_iconst cst_2 rfl ?_
            obtain ⟨⟨q37, C38⟩, e39, h⟩ := gb h
            dsimp only at h
            refine ec_callV1 (k' := 25) (n := 2) (rc := 2) (a := a0) (as := [.int (2 : Int32)]) ⟨rfl, rfl⟩ rfl rfl (Nat.le_of_ble_eq_true rfl) (Nat.le_of_ble_eq_true rfl) (Nat.le_of_ble_eq_true rfl) g2 rfl (t_25 e39) ?_
            obtain ⟨g40, h⟩ := gd h
            cases h
            exact en_zret g40 rfl
    · refine en_icmp_eq_f c6 rfl ?_
      refine en_aload rfl rfl ?_
      obtain ⟨⟨q41, C42⟩, e43, h⟩ := gb h
      dsimp only at h
      refine ec_callV1 (k' := 23) (n := 1) (rc := 2) (a := a0) (as := []) ⟨rfl, rfl⟩ rfl rfl (Nat.le_of_ble_eq_true rfl) (Nat.le_of_ble_eq_true rfl) (Nat.le_of_ble_eq_true rfl) g2 rfl (t_23 e43) ?_
      refine ec_iconst cst_129 rfl ?_
      rcases gi h with ⟨c44, h⟩ | ⟨c44, h⟩
      · refine en_icmp_eq_t c44 rfl ?_
        refine en_aload rfl rfl ?_
        obtain ⟨⟨q45, C46⟩, e47, h⟩ := gb h
        dsimp only at h
        refine ec_callV1 (k' := 23) (n := 1) (rc := 2) (a := a0) (as := []) ⟨rfl, rfl⟩ rfl rfl (Nat.le_of_ble_eq_true rfl) (Nat.le_of_ble_eq_true rfl) (Nat.le_of_ble_eq_true rfl) g2 rfl (t_23 e47) ?_
        refine ec_iconst cst_129 rfl ?_
        rcases gi h with ⟨c48, h⟩ | ⟨c48, h⟩
        · refine en_icmp_eq_t c48 rfl ?_
          refine en_aload rfl rfl ?_
          refine ec_iconst cst_2 rfl ?_
          obtain ⟨⟨q49, C50⟩, e51, h⟩ := gb h
          dsimp only at h
          refine ec_callV1 (k' := 25) (n := 2) (rc := 2) (a := a0) (as := [.int (2 : Int32)]) ⟨rfl, rfl⟩ rfl rfl (Nat.le_of_ble_eq_true rfl) (Nat.le_of_ble_eq_true rfl) (Nat.le_of_ble_eq_true rfl) g2 rfl (t_25 e51) ?_
          obtain ⟨g52, h⟩ := gd h
          cases h
          exact en_zret g52 rfl
        · refine en_icmp_eq_f c48 rfl ?_
          refine en_aload rfl rfl ?_
          obtain ⟨⟨q53, C54⟩, e55, h⟩ := gb h
          dsimp only at h
          refine ec_callV1 (k' := 24) (n := 1) (rc := 2) (a := a0) (as := []) ⟨rfl, rfl⟩ rfl rfl (Nat.le_of_ble_eq_true rfl) (Nat.le_of_ble_eq_true rfl) (Nat.le_of_ble_eq_true rfl) g2 rfl (t_24 e55) ?_
          refine ec_iconst cst_1 rfl ?_
          rcases gi h with ⟨c56, h⟩ | ⟨c56, h⟩
          · refine en_icmp_lt_t c56 rfl ?_
            refine en_aload rfl rfl ?_
            refine ec_iconst cst_2 rfl ?_
            obtain ⟨⟨q57, C58⟩, e59, h⟩ := gb h
            dsimp only at h
            refine ec_callV1 (k' := 25) (n := 2) (rc := 2) (a := a0) (as := [.int (2 : Int32)]) ⟨rfl, rfl⟩ rfl rfl (Nat.le_of_ble_eq_true rfl) (Nat.le_of_ble_eq_true rfl) (Nat.le_of_ble_eq_true rfl) g2 rfl (t_25 e59) ?_
            obtain ⟨g60, h⟩ := gd h
            cases h
            exact en_zret g60 rfl
          · refine en_icmp_lt_f c56 rfl ?_
            refine en_aload rfl rfl ?_
            obtain ⟨⟨q61, C62⟩, e63, h⟩ := gb h
            dsimp only at h
            refine ec_callV1 (k' := 24) (n := 1) (rc := 2) (a := a0) (as := []) ⟨rfl, rfl⟩ rfl rfl (Nat.le_of_ble_eq_true rfl) (Nat.le_of_ble_eq_true rfl) (Nat.le_of_ble_eq_true rfl) g2 rfl (t_24 e63) ?_
            refine ec_iconst cst_4 rfl ?_
            rcases gi h with ⟨c64, h⟩ | ⟨c64, h⟩
            · refine en_icmp_le_t c64 rfl ?_
              refine en_aload rfl rfl ?_
              obtain ⟨r65, e66, h⟩ := gb h
              refine ec_getP (ci := 2) (j := 5) ⟨rfl, rfl, rfl⟩ g2 e66 rfl ?_
              refine en_aload rfl rfl ?_
              obtain ⟨⟨q67, C68⟩, e69, h⟩ := gb h
              dsimp only at h
              refine ec_callV1 (k' := 24) (n := 1) (rc := 2) (a := a0) (as := []) ⟨rfl, rfl⟩ rfl rfl (Nat.le_of_ble_eq_true rfl) (Nat.le_of_ble_eq_true rfl) (Nat.le_of_ble_eq_true rfl) g2 rfl (t_24 e69) ?_
              obtain ⟨g70, h⟩ := gd h
              refine ec_putI (ci := 6) (j := 0) ⟨rfl, rfl, rfl⟩ g70 rfl ?_
              refine en_aload rfl rfl ?_
              refine en_dup rfl rfl ?_
              refine ec_getI (ci := 2) (j := 4) ⟨rfl, rfl, rfl⟩ g2 rfl ?_
              refine ec_iconst cst_1 rfl ?_
              refine en_iadd rfl ?_
              refine ec_putI (ci := 2) (j := 4) ⟨rfl, rfl, rfl⟩ g2 rfl ?_
              refine en_aload rfl rfl ?_
              refine ec_iconst cst_59 rfl ?_
              obtain ⟨⟨q71, C72⟩, e73, h⟩ := gb h
              dsimp only at h
              refine ec_callV1 (k' := 26) (n := 2) (rc := 2) (a := a0) (as := [.int (59 : Int32)]) ⟨rfl, rfl⟩ rfl rfl (Nat.le_of_ble_eq_true rfl) (Nat.le_of_ble_eq_true rfl) (Nat.le_of_ble_eq_true rfl) g2 rfl (t_26 e73) ?_
              obtain ⟨g74, h⟩ := gd h
              cases h
              exact en_zret g74 rfl
            · refine en_icmp_le_f c64 rfl ?_
              refine en_aload rfl rfl ?_
              refine ec_iconst cst_2 rfl ?_
              obtain ⟨⟨q75, C76⟩, e77, h⟩ := gb h
              dsimp only at h
              refine ec_callV1 (k' := 25) (n := 2) (rc := 2) (a := a0) (as := [.int (2 : Int32)]) ⟨rfl, rfl⟩ rfl rfl (Nat.le_of_ble_eq_true rfl) (Nat.le_of_ble_eq_true rfl) (Nat.le_of_ble_eq_true rfl) g2 rfl (t_25 e77) ?_
              obtain ⟨g78, h⟩ := gd h
              cases h
              exact en_zret g78 rfl
      · refine en_icmp_eq_f c44 rfl ?_
        refine en_aload rfl rfl ?_
        refine ec_iconst cst_1 rfl ?_
        obtain ⟨⟨q79, C80⟩, e81, h⟩ := gb h
        dsimp only at h
        refine ec_callV1 (k' := 25) (n := 2) (rc := 2) (a := a0) (as := [.int (1 : Int32)]) ⟨rfl, rfl⟩ rfl rfl (Nat.le_of_ble_eq_true rfl) (Nat.le_of_ble_eq_true rfl) (Nat.le_of_ble_eq_true rfl) g2 rfl (t_25 e81) ?_
        obtain ⟨g82, h⟩ := gd h
        cases h
        exact en_zret g82 rfl
  · refine en_if_ne_f c1 rfl ?_
    refine en_aload rfl rfl ?_
    refine ec_iconst cst_4 rfl ?_
    obtain ⟨g83, h⟩ := gd h
    obtain ⟨⟨q84, C85⟩, e86, h⟩ := gb h
    dsimp only at h
    refine ec_callV1 (k' := 25) (n := 2) (rc := 2) (a := a0) (as := [.int (4 : Int32)]) ⟨rfl, rfl⟩ rfl rfl (Nat.le_of_ble_eq_true rfl) (Nat.le_of_ble_eq_true rfl) (Nat.le_of_ble_eq_true rfl) g83 rfl (t_25 e86) ?_
    obtain ⟨g87, h⟩ := gd h
    cases h
    exact en_zret g87 rfl
def lp_80_2 : Nat → Nat → Int32 → AmC → Option (((Int32) ⊕ (Unit)) × AmC)
  | 0, _, _, _ => none
  | n + 1, p0, p1, C => (if (30 : Int32) ≤ p1 then some ((.inr ()), C) else if isK p0 5 = true then (if ¬ (((Int32.toUInt32 (cI C p0 1) >>> (Int32.toUInt32 p1 &&& Int32.toUInt32 31)).toInt32) &&& (1 : Int32)) = 0 then lp_80_2 n p0 (p1 + (1 : Int32)) C else some ((.inl p1), C)) else none)
set_option maxRecDepth 20000 in
set_option maxHeartbeats 4000000 in
theorem lt_80_2 : ∀ (n : Nat) (p0 : Nat) (p1 : Int32) (C : AmC) (r : ((Int32) ⊕ (Unit)) × AmC), lp_80_2 n p0 p1 C = some r → ∀ (o : AmO) (M' : AmM), (match r with
        | ((.inl w1), C') => En false 80 12 [(1, .int w1)] [] (mkM C') o M'
        | ((.inr _), C') => En false 80 16 [] [] (mkM C') o M') → En false 80 2 [(0, .ref p0), (1, .int p1)] [] (mkM C) o M' := by
  intro n
  induction n with
  | zero => intro p0 p1 C r h; cases h
  | succ n ih =>
    intro p0 p1 C r h o M' hk
    unfold lp_80_2 at h
    refine en_iload rfl rfl ?_
    refine ec_iconst cst_30 rfl ?_
    rcases gi h with ⟨c1, h⟩ | ⟨c1, h⟩
    · refine en_icmp_ge_t c1 rfl ?_
      cases h
      exact en_sub [] rfl rfl hk
    · refine en_icmp_ge_f c1 rfl ?_
      refine en_aload rfl rfl ?_
      obtain ⟨g2, h⟩ := gd h
      refine ec_getI (ci := 5) (j := 1) ⟨rfl, rfl, rfl⟩ g2 rfl ?_
      refine en_iload rfl rfl ?_
      refine en_iushr rfl ?_
      refine ec_iconst cst_1 rfl ?_
      refine en_iand rfl ?_
      rcases gi h with ⟨c3, h⟩ | ⟨c3, h⟩
      · refine en_if_ne_t c3 rfl ?_
        refine ec_iinc (l' := [(1, .int (p1 + (1 : Int32))), (0, .ref p0)]) rfl cst_1 rfl rfl ?_
        refine en_goto rfl ?_
        refine en_sub [1, 0] rfl rfl ?_
        exact ih _ _ _ _ h o M' hk
      · refine en_if_ne_f c3 rfl ?_
        cases h
        exact en_sub [1] rfl rfl hk
/-- BulkWriter$Rows.firstFree()I -/
def f_80 (n : Nat) (a0 : Nat) (C : AmC) : Option (Int32 × AmC) := (lp_80_2 n a0 (0 : Int32) C).bind (fun q => match q with | ((.inl u7), C6) => some (u7, C6) | ((.inr _), C6) => some ((-1 : Int32), C6))
set_option maxRecDepth 20000 in
set_option maxHeartbeats 4000000 in
theorem t_80 {n : Nat} {a0 : Nat} {C : AmC} {r : Int32} {C' : AmC} (h : f_80 n a0 C = some (r, C')) : En false 80 0 [(0, .ref a0)] [] (mkM C) (.inl (some (.int r))) (mkM C') := by
  unfold f_80 at h
  refine ec_iconst cst_0 rfl ?_
  refine en_istore (l' := [(1, .int (0 : Int32)), (0, .ref a0)]) rfl rfl ?_
  obtain ⟨⟨q4, C6⟩, e5, h⟩ := gb h
  refine en_sub [1, 0] rfl rfl (lt_80_2 n _ _ _ _ e5 _ _ ?_)
  rcases q4 with u7 | ⟨⟩
  · dsimp only at h ⊢
    refine en_iload rfl rfl ?_
    cases h
    exact en_iret rfl
  · dsimp only at h ⊢
    refine ec_iconst cst_m1 rfl ?_
    cases h
    exact en_iret rfl
/-- BulkWriter$Parser.readSigned()Z -/
def f_30 (n : Nat) (a0 : Nat) (C : AmC) : Option (Int32 × AmC) := if isK a0 2 = true then (f_23 n a0 C).bind (fun z => match z with | (q2, C3) => (if ¬ q2 = (45 : Int32) then (f_23 n a0 C3).bind (fun z => match z with | (q6, C7) => (if ¬ q6 = (129 : Int32) then (f_23 n a0 C7).bind (fun z => match z with | (q10, C11) => (if q10 = (128 : Int32) then (f_24 n a0 C11).bind (fun z => match z with | (q14, C15) => some ((1 : Int32), uI (uI C15 a0 9 q14) a0 4 ((cI (uI C15 a0 9 q14) a0 4) + (1 : Int32)))) else (f_25 n a0 (1 : Int32) C11).bind (fun z => match z with | (q17, C18) => if q17 = 0 ∨ q17 = 1 then some (q17, C18) else none))) else (f_25 n a0 (2 : Int32) C7).bind (fun z => match z with | (q21, C22) => if q21 = 0 ∨ q21 = 1 then some (q21, C22) else none))) else (f_23 n a0 (uI C3 a0 4 ((cI C3 a0 4) + (1 : Int32)))).bind (fun z => match z with | (q25, C26) => (if ¬ q25 = (129 : Int32) then (f_23 n a0 C26).bind (fun z => match z with | (q29, C30) => (if q29 = (128 : Int32) then (f_24 n a0 C30).bind (fun z => match z with | (q33, C34) => some ((1 : Int32), uI (uI C34 a0 9 (-q33)) a0 4 ((cI (uI C34 a0 9 (-q33)) a0 4) + (1 : Int32)))) else (f_25 n a0 (1 : Int32) C30).bind (fun z => match z with | (q36, C37) => if q36 = 0 ∨ q36 = 1 then some (q36, C37) else none))) else (f_25 n a0 (2 : Int32) C26).bind (fun z => match z with | (q40, C41) => if q40 = 0 ∨ q40 = 1 then some (q40, C41) else none))))) else none
set_option maxRecDepth 20000 in
set_option maxHeartbeats 4000000 in
theorem t_30 {n : Nat} {a0 : Nat} {C : AmC} {r : Int32} {C' : AmC} (h : f_30 n a0 C = some (r, C')) : En false 30 0 [(0, .ref a0)] [] (mkM C) (.inl (some (.int r))) (mkM C') := by
  unfold f_30 at h
  refine en_aload rfl rfl ?_
  obtain ⟨g1, h⟩ := gd h
  obtain ⟨⟨q2, C3⟩, e4, h⟩ := gb h
  dsimp only at h
  refine ec_callV1 (k' := 23) (n := 1) (rc := 2) (a := a0) (as := []) ⟨rfl, rfl⟩ rfl rfl (Nat.le_of_ble_eq_true rfl) (Nat.le_of_ble_eq_true rfl) (Nat.le_of_ble_eq_true rfl) g1 rfl (t_23 e4) ?_
  refine ec_iconst cst_45 rfl ?_
  rcases gi h with ⟨c5, h⟩ | ⟨c5, h⟩
  · refine en_icmp_ne_t c5 rfl ?_
    refine ec_iconst cst_0 rfl ?_
    refine en_istore (l' := [(1, .int (0 : Int32)), (0, .ref a0)]) rfl rfl ?_
    refine en_iload rfl rfl ?_
    refine en_if_eq_t (by decide) rfl ?_
    refine en_aload rfl rfl ?_
    obtain ⟨⟨q6, C7⟩, e8, h⟩ := gb h
    dsimp only at h
    refine ec_callV1 (k' := 23) (n := 1) (rc := 2) (a := a0) (as := []) ⟨rfl, rfl⟩ rfl rfl (Nat.le_of_ble_eq_true rfl) (Nat.le_of_ble_eq_true rfl) (Nat.le_of_ble_eq_true rfl) g1 rfl (t_23 e8) ?_
    refine ec_iconst cst_129 rfl ?_
    rcases gi h with ⟨c9, h⟩ | ⟨c9, h⟩
    · refine en_icmp_ne_t c9 rfl ?_
      refine en_aload rfl rfl ?_
      obtain ⟨⟨q10, C11⟩, e12, h⟩ := gb h
      dsimp only at h
      refine ec_callV1 (k' := 23) (n := 1) (rc := 2) (a := a0) (as := []) ⟨rfl, rfl⟩ rfl rfl (Nat.le_of_ble_eq_true rfl) (Nat.le_of_ble_eq_true rfl) (Nat.le_of_ble_eq_true rfl) g1 rfl (t_23 e12) ?_
      refine ec_iconst cst_128 rfl ?_
      rcases gi h with ⟨c13, h⟩ | ⟨c13, h⟩
      · refine en_icmp_eq_t c13 rfl ?_
        refine en_aload rfl rfl ?_
        refine en_iload rfl rfl ?_
        refine en_if_eq_t (by decide) rfl ?_
        refine en_aload rfl rfl ?_
        obtain ⟨⟨q14, C15⟩, e16, h⟩ := gb h
        dsimp only at h
        refine ec_callV1 (k' := 24) (n := 1) (rc := 2) (a := a0) (as := []) ⟨rfl, rfl⟩ rfl rfl (Nat.le_of_ble_eq_true rfl) (Nat.le_of_ble_eq_true rfl) (Nat.le_of_ble_eq_true rfl) g1 rfl (t_24 e16) ?_
        refine ec_putI (ci := 2) (j := 9) ⟨rfl, rfl, rfl⟩ g1 rfl ?_
        refine en_aload rfl rfl ?_
        refine en_dup rfl rfl ?_
        refine ec_getI (ci := 2) (j := 4) ⟨rfl, rfl, rfl⟩ g1 rfl ?_
        refine ec_iconst cst_1 rfl ?_
        refine en_iadd rfl ?_
        refine ec_putI (ci := 2) (j := 4) ⟨rfl, rfl, rfl⟩ g1 rfl ?_
        refine ec_iconst cst_1 rfl ?_
        cases h
        exact en_zret (Or.inr rfl) rfl
      · refine en_icmp_eq_f c13 rfl ?_
        refine en_aload rfl rfl ?_
        refine ec_iconst cst_1 rfl ?_
        obtain ⟨⟨q17, C18⟩, e19, h⟩ := gb h
        dsimp only at h
        refine ec_callV1 (k' := 25) (n := 2) (rc := 2) (a := a0) (as := [.int (1 : Int32)]) ⟨rfl, rfl⟩ rfl rfl (Nat.le_of_ble_eq_true rfl) (Nat.le_of_ble_eq_true rfl) (Nat.le_of_ble_eq_true rfl) g1 rfl (t_25 e19) ?_
        obtain ⟨g20, h⟩ := gd h
        cases h
        exact en_zret g20 rfl
    · refine en_icmp_ne_f c9 rfl ?_
      refine en_aload rfl rfl ?_
      refine ec_iconst cst_2 rfl ?_
      obtain ⟨⟨q21, C22⟩, e23, h⟩ := gb h
      dsimp only at h
      refine ec_callV1 (k' := 25) (n := 2) (rc := 2) (a := a0) (as := [.int (2 : Int32)]) ⟨rfl, rfl⟩ rfl rfl (Nat.le_of_ble_eq_true rfl) (Nat.le_of_ble_eq_true rfl) (Nat.le_of_ble_eq_true rfl) g1 rfl (t_25 e23) ?_
      obtain ⟨g24, h⟩ := gd h
      cases h
      exact en_zret g24 rfl
  · refine en_icmp_ne_f c5 rfl ?_
    refine ec_iconst cst_1 rfl ?_
    refine en_goto rfl ?_
    refine en_istore (l' := [(1, .int (1 : Int32)), (0, .ref a0)]) rfl rfl ?_
    refine en_iload rfl rfl ?_
    refine en_if_eq_f (by decide) rfl ?_
    refine en_aload rfl rfl ?_
    refine en_dup rfl rfl ?_
    refine ec_getI (ci := 2) (j := 4) ⟨rfl, rfl, rfl⟩ g1 rfl ?_
    refine ec_iconst cst_1 rfl ?_
    refine en_iadd rfl ?_
    refine ec_putI (ci := 2) (j := 4) ⟨rfl, rfl, rfl⟩ g1 rfl ?_
    refine en_aload rfl rfl ?_
    obtain ⟨⟨q25, C26⟩, e27, h⟩ := gb h
    dsimp only at h
    refine ec_callV1 (k' := 23) (n := 1) (rc := 2) (a := a0) (as := []) ⟨rfl, rfl⟩ rfl rfl (Nat.le_of_ble_eq_true rfl) (Nat.le_of_ble_eq_true rfl) (Nat.le_of_ble_eq_true rfl) g1 rfl (t_23 e27) ?_
    refine ec_iconst cst_129 rfl ?_
    rcases gi h with ⟨c28, h⟩ | ⟨c28, h⟩
    · refine en_icmp_ne_t c28 rfl ?_
      refine en_aload rfl rfl ?_
      obtain ⟨⟨q29, C30⟩, e31, h⟩ := gb h
      dsimp only at h
      refine ec_callV1 (k' := 23) (n := 1) (rc := 2) (a := a0) (as := []) ⟨rfl, rfl⟩ rfl rfl (Nat.le_of_ble_eq_true rfl) (Nat.le_of_ble_eq_true rfl) (Nat.le_of_ble_eq_true rfl) g1 rfl (t_23 e31) ?_
      refine ec_iconst cst_128 rfl ?_
      rcases gi h with ⟨c32, h⟩ | ⟨c32, h⟩
      · refine en_icmp_eq_t c32 rfl ?_
        refine en_aload rfl rfl ?_
        refine en_iload rfl rfl ?_
        refine en_if_eq_f (by decide) rfl ?_
        refine en_aload rfl rfl ?_
        obtain ⟨⟨q33, C34⟩, e35, h⟩ := gb h
        dsimp only at h
        refine ec_callV1 (k' := 24) (n := 1) (rc := 2) (a := a0) (as := []) ⟨rfl, rfl⟩ rfl rfl (Nat.le_of_ble_eq_true rfl) (Nat.le_of_ble_eq_true rfl) (Nat.le_of_ble_eq_true rfl) g1 rfl (t_24 e35) ?_
        refine en_ineg rfl ?_
        refine en_goto rfl ?_
        refine ec_putI (ci := 2) (j := 9) ⟨rfl, rfl, rfl⟩ g1 rfl ?_
        refine en_aload rfl rfl ?_
        refine en_dup rfl rfl ?_
        refine ec_getI (ci := 2) (j := 4) ⟨rfl, rfl, rfl⟩ g1 rfl ?_
        refine ec_iconst cst_1 rfl ?_
        refine en_iadd rfl ?_
        refine ec_putI (ci := 2) (j := 4) ⟨rfl, rfl, rfl⟩ g1 rfl ?_
        refine ec_iconst cst_1 rfl ?_
        cases h
        exact en_zret (Or.inr rfl) rfl
      · refine en_icmp_eq_f c32 rfl ?_
        refine en_aload rfl rfl ?_
        refine ec_iconst cst_1 rfl ?_
        obtain ⟨⟨q36, C37⟩, e38, h⟩ := gb h
        dsimp only at h
        refine ec_callV1 (k' := 25) (n := 2) (rc := 2) (a := a0) (as := [.int (1 : Int32)]) ⟨rfl, rfl⟩ rfl rfl (Nat.le_of_ble_eq_true rfl) (Nat.le_of_ble_eq_true rfl) (Nat.le_of_ble_eq_true rfl) g1 rfl (t_25 e38) ?_
        obtain ⟨g39, h⟩ := gd h
        cases h
        exact en_zret g39 rfl
    · refine en_icmp_ne_f c28 rfl ?_
      refine en_aload rfl rfl ?_
      refine ec_iconst cst_2 rfl ?_
      obtain ⟨⟨q40, C41⟩, e42, h⟩ := gb h
      dsimp only at h
      refine ec_callV1 (k' := 25) (n := 2) (rc := 2) (a := a0) (as := [.int (2 : Int32)]) ⟨rfl, rfl⟩ rfl rfl (Nat.le_of_ble_eq_true rfl) (Nat.le_of_ble_eq_true rfl) (Nat.le_of_ble_eq_true rfl) g1 rfl (t_25 e42) ?_
      obtain ⟨g43, h⟩ := gd h
      cases h
      exact en_zret g43 rfl
/-- BulkWriter$Rows.put(III)V -/
def f_77 (n : Nat) (a0 : Nat) (a1 : Int32) (a2 : Int32) (a3 : Int32) (C : AmC) : Option (Unit × AmC) := (if a1 < 0 then some ((), C) else (if (30 : Int32) ≤ a1 then some ((), C) else (if a2 < 0 then some ((), C) else (if (4 : Int32) ≤ a2 then some ((), C) else if isK a0 5 = true then (cP C a0 0).bind (fun r6 => if isK r6 12 = true then if amIn ((a1 * (4 : Int32)) + a2) (aLen r6) = true then some ((), uI C r6 (Int32.toNatClampNeg ((a1 * (4 : Int32)) + a2)) a3) else none else none) else none))))
set_option maxRecDepth 20000 in
set_option maxHeartbeats 4000000 in
theorem t_77 {n : Nat} {a0 : Nat} {a1 : Int32} {a2 : Int32} {a3 : Int32} {C : AmC} {r : Unit} {C' : AmC} (h : f_77 n a0 a1 a2 a3 C = some (r, C')) : En false 77 0 [(0, .ref a0), (1, .int a1), (2, .int a2), (3, .int a3)] [] (mkM C) (.inl none) (mkM C') := by
  unfold f_77 at h
  refine en_iload rfl rfl ?_
  rcases gi h with ⟨c1, h⟩ | ⟨c1, h⟩
  · refine en_if_lt_t c1 rfl ?_
    cases h
    exact en_vret rfl
  · refine en_if_lt_f c1 rfl ?_
    refine en_iload rfl rfl ?_
    refine ec_iconst cst_30 rfl ?_
    rcases gi h with ⟨c2, h⟩ | ⟨c2, h⟩
    · refine en_icmp_ge_t c2 rfl ?_
      cases h
      exact en_vret rfl
    · refine en_icmp_ge_f c2 rfl ?_
      refine en_iload rfl rfl ?_
      rcases gi h with ⟨c3, h⟩ | ⟨c3, h⟩
      · refine en_if_lt_t c3 rfl ?_
        cases h
        exact en_vret rfl
      · refine en_if_lt_f c3 rfl ?_
        refine en_iload rfl rfl ?_
        refine ec_iconst cst_4 rfl ?_
        rcases gi h with ⟨c4, h⟩ | ⟨c4, h⟩
        · refine en_icmp_ge_t c4 rfl ?_
          cases h
          exact en_vret rfl
        · refine en_icmp_ge_f c4 rfl ?_
          refine en_aload rfl rfl ?_
          obtain ⟨g5, h⟩ := gd h
          obtain ⟨r6, e7, h⟩ := gb h
          refine ec_getP (ci := 5) (j := 0) ⟨rfl, rfl, rfl⟩ g5 e7 rfl ?_
          refine en_iload rfl rfl ?_
          refine ec_iconst cst_4 rfl ?_
          refine en_imul rfl ?_
          refine en_iload rfl rfl ?_
          refine en_iadd rfl ?_
          refine en_iload rfl rfl ?_
          obtain ⟨g8, h⟩ := gd h
          obtain ⟨g9, h⟩ := gd h
          refine ec_iastore g8 g9 rfl ?_
          cases h
          exact en_vret rfl
/-- BulkWriter$Rows.add(I)V -/
def f_78 (n : Nat) (a0 : Nat) (a1 : Int32) (C : AmC) : Option (Unit × AmC) := (if a1 < 0 then some ((), C) else (if (30 : Int32) ≤ a1 then some ((), C) else if isK a0 5 = true then some ((), uI C a0 1 ((cI C a0 1) ||| ((1 : Int32) <<< (a1 &&& 31)))) else none))
set_option maxRecDepth 20000 in
set_option maxHeartbeats 4000000 in
theorem t_78 {n : Nat} {a0 : Nat} {a1 : Int32} {C : AmC} {r : Unit} {C' : AmC} (h : f_78 n a0 a1 C = some (r, C')) : En false 78 0 [(0, .ref a0), (1, .int a1)] [] (mkM C) (.inl none) (mkM C') := by
  unfold f_78 at h
  refine en_iload rfl rfl ?_
  rcases gi h with ⟨c1, h⟩ | ⟨c1, h⟩
  · refine en_if_lt_t c1 rfl ?_
    cases h
    exact en_vret rfl
  · refine en_if_lt_f c1 rfl ?_
    refine en_iload rfl rfl ?_
    refine ec_iconst cst_30 rfl ?_
    rcases gi h with ⟨c2, h⟩ | ⟨c2, h⟩
    · refine en_icmp_ge_t c2 rfl ?_
      cases h
      exact en_vret rfl
    · refine en_icmp_ge_f c2 rfl ?_
      refine en_aload rfl rfl ?_
      refine en_dup rfl rfl ?_
      obtain ⟨g3, h⟩ := gd h
      refine ec_getI (ci := 5) (j := 1) ⟨rfl, rfl, rfl⟩ g3 rfl ?_
      refine ec_iconst cst_1 rfl ?_
      refine en_iload rfl rfl ?_
      refine en_ishl rfl ?_
      refine en_ior rfl ?_
      refine ec_putI (ci := 5) (j := 1) ⟨rfl, rfl, rfl⟩ g3 rfl ?_
      cases h
      exact en_vret rfl
/-- BulkWriter$Script.areAlike(LBulkWriter$Rows;III)Z -/
def f_104 (n : Nat) (a0 : Nat) (a1 : Nat) (a2 : Int32) (a3 : Int32) (a4 : Int32) (C : AmC) : Option (Int32 × AmC) := if isK a0 6 = true then (f_93 n a0 a4 C).bind (fun z => match z with | (q2, C3) => (f_94 n a0 a4 C3).bind (fun z => match z with | (q5, C6) => if isK a1 5 = true then (f_76 n a1 a2 q2 C6).bind (fun z => match z with | (q9, C10) => (f_76 n a1 a3 q2 C10).bind (fun z => match z with | (q12, C13) => (if ¬ q9 = q12 then some ((0 : Int32), C13) else (if q5 = (-1 : Int32) then some ((1 : Int32), C13) else (f_76 n a1 a2 q5 C13).bind (fun z => match z with | (q17, C18) => (f_76 n a1 a3 q5 C18).bind (fun z => match z with | (q20, C21) => (if ¬ q17 = q20 then some ((0 : Int32), C21) else some ((1 : Int32), C21)))))))) else none)) else none
set_option maxRecDepth 20000 in
set_option maxHeartbeats 4000000 in
theorem t_104 {n : Nat} {a0 : Nat} {a1 : Nat} {a2 : Int32} {a3 : Int32} {a4 : Int32} {C : AmC} {r : Int32} {C' : AmC} (h : f_104 n a0 a1 a2 a3 a4 C = some (r, C')) : En false 104 0 [(0, .ref a0), (1, .ref a1), (2, .int a2), (3, .int a3), (4, .int a4)] [] (mkM C) (.inl (some (.int r))) (mkM C') := by
  unfold f_104 at h
  refine en_aload rfl rfl ?_
  refine en_iload rfl rfl ?_
  obtain ⟨g1, h⟩ := gd h
  obtain ⟨⟨q2, C3⟩, e4, h⟩ := gb h
  dsimp only at h
  refine ec_callV1 (k' := 93) (n := 2) (rc := 6) (a := a0) (as := [.int a4]) ⟨rfl, rfl⟩ rfl rfl (Nat.le_of_ble_eq_true rfl) (Nat.le_of_ble_eq_true rfl) (Nat.le_of_ble_eq_true rfl) g1 rfl (t_93 e4) ?_
  refine en_istore (l' := [(5, .int q2), (0, .ref a0), (1, .ref a1), (2, .int a2), (3, .int a3), (4, .int a4)]) rfl rfl ?_
  refine en_aload rfl rfl ?_
  refine en_iload rfl rfl ?_
  obtain ⟨⟨q5, C6⟩, e7, h⟩ := gb h
  dsimp only at h
  refine ec_callV1 (k' := 94) (n := 2) (rc := 6) (a := a0) (as := [.int a4]) ⟨rfl, rfl⟩ rfl rfl (Nat.le_of_ble_eq_true rfl) (Nat.le_of_ble_eq_true rfl) (Nat.le_of_ble_eq_true rfl) g1 rfl (t_94 e7) ?_
  refine en_istore (l' := [(6, .int q5), (5, .int q2), (0, .ref a0), (1, .ref a1), (2, .int a2), (3, .int a3), (4, .int a4)]) rfl rfl ?_
  refine en_aload rfl rfl ?_
  refine en_iload rfl rfl ?_
  refine en_iload rfl rfl ?_
  obtain ⟨g8, h⟩ := gd h
  obtain ⟨⟨q9, C10⟩, e11, h⟩ := gb h
  dsimp only at h
  refine ec_callV1 (k' := 76) (n := 3) (rc := 5) (a := a1) (as := [.int a2, .int q2]) ⟨rfl, rfl⟩ rfl rfl (Nat.le_of_ble_eq_true rfl) (Nat.le_of_ble_eq_true rfl) (Nat.le_of_ble_eq_true rfl) g8 rfl (t_76 e11) ?_
  refine en_aload rfl rfl ?_
  refine en_iload rfl rfl ?_
  refine en_iload rfl rfl ?_
  obtain ⟨⟨q12, C13⟩, e14, h⟩ := gb h
  dsimp only at h
  refine ec_callV1 (k' := 76) (n := 3) (rc := 5) (a := a1) (as := [.int a3, .int q2]) ⟨rfl, rfl⟩ rfl rfl (Nat.le_of_ble_eq_true rfl) (Nat.le_of_ble_eq_true rfl) (Nat.le_of_ble_eq_true rfl) g8 rfl (t_76 e14) ?_
  rcases gi h with ⟨c15, h⟩ | ⟨c15, h⟩
  · refine en_icmp_ne_t c15 rfl ?_
    refine ec_iconst cst_0 rfl ?_
    cases h
    exact en_zret (Or.inl rfl) rfl
  · refine en_icmp_ne_f c15 rfl ?_
    refine en_iload rfl rfl ?_
    refine ec_iconst cst_m1 rfl ?_
    rcases gi h with ⟨c16, h⟩ | ⟨c16, h⟩
    · refine en_icmp_eq_t c16 rfl ?_
      refine ec_iconst cst_1 rfl ?_
      refine en_goto rfl ?_
      cases h
      exact en_zret (Or.inr rfl) rfl
    · refine en_icmp_eq_f c16 rfl ?_
      refine en_aload rfl rfl ?_
      refine en_iload rfl rfl ?_
      refine en_iload rfl rfl ?_
      obtain ⟨⟨q17, C18⟩, e19, h⟩ := gb h
      dsimp only at h
      refine ec_callV1 (k' := 76) (n := 3) (rc := 5) (a := a1) (as := [.int a2, .int q5]) ⟨rfl, rfl⟩ rfl rfl (Nat.le_of_ble_eq_true rfl) (Nat.le_of_ble_eq_true rfl) (Nat.le_of_ble_eq_true rfl) g8 rfl (t_76 e19) ?_
      refine en_aload rfl rfl ?_
      refine en_iload rfl rfl ?_
      refine en_iload rfl rfl ?_
      obtain ⟨⟨q20, C21⟩, e22, h⟩ := gb h
      dsimp only at h
      refine ec_callV1 (k' := 76) (n := 3) (rc := 5) (a := a1) (as := [.int a3, .int q5]) ⟨rfl, rfl⟩ rfl rfl (Nat.le_of_ble_eq_true rfl) (Nat.le_of_ble_eq_true rfl) (Nat.le_of_ble_eq_true rfl) g8 rfl (t_76 e22) ?_
      rcases gi h with ⟨c23, h⟩ | ⟨c23, h⟩
      · refine en_icmp_ne_t c23 rfl ?_
        refine ec_iconst cst_0 rfl ?_
        cases h
        exact en_zret (Or.inl rfl) rfl
      · refine en_icmp_ne_f c23 rfl ?_
        refine ec_iconst cst_1 rfl ?_
        refine en_goto rfl ?_
        cases h
        exact en_zret (Or.inr rfl) rfl
def lp_105_14 : Nat → Nat → Nat → Int32 → Int32 → Int32 → AmC → Option (((Int32 × Int32) ⊕ (Nat × Nat × Int32 × Int32)) × AmC)
  | 0, _, _, _, _, _, _ => none
  | n + 1, p0, p1, p2, p3, p4, C => (if (30 : Int32) ≤ p4 then some ((.inr (p0, p1, p2, p3)), C) else if isK p1 5 = true then (f_75 n p1 p4 C).bind (fun z => match z with | (q9, C10) => (if q9 = 0 then lp_105_14 n p0 p1 p2 p3 (p4 + (1 : Int32)) C10 else if isK p0 6 = true then (f_104 n p0 p1 p3 p4 p2 C10).bind (fun z => match z with | (q14, C15) => (if q14 = 0 then lp_105_14 n p0 p1 p2 p3 (p4 + (1 : Int32)) C15 else some ((.inl (p3, p4)), C15))) else none)) else none)
set_option maxRecDepth 20000 in
set_option maxHeartbeats 4000000 in
theorem lt_105_14 : ∀ (n : Nat) (p0 : Nat) (p1 : Nat) (p2 : Int32) (p3 : Int32) (p4 : Int32) (C : AmC) (r : ((Int32 × Int32) ⊕ (Nat × Nat × Int32 × Int32)) × AmC), lp_105_14 n p0 p1 p2 p3 p4 C = some r → ∀ (o : AmO) (M' : AmM), (match r with
        | ((.inl (w3, w4)), C') => En false 105 28 [(3, .int w3), (4, .int w4)] [] (mkM C') o M'
        | ((.inr (w0, w1, w2, w3)), C') => En false 105 36 [(0, .ref w0), (1, .ref w1), (2, .int w2), (3, .int w3)] [] (mkM C') o M') → En false 105 14 [(0, .ref p0), (1, .ref p1), (2, .int p2), (3, .int p3), (4, .int p4)] [] (mkM C) o M' := by
  intro n
  induction n with
  | zero => intro p0 p1 p2 p3 p4 C r h; cases h
  | succ n ih =>
    intro p0 p1 p2 p3 p4 C r h o M' hk
    unfold lp_105_14 at h
    refine en_iload rfl rfl ?_
    refine ec_iconst cst_30 rfl ?_
    rcases gi h with ⟨c7, h⟩ | ⟨c7, h⟩
    · refine en_icmp_ge_t c7 rfl ?_
      cases h
      exact en_sub [0, 1, 2, 3] rfl rfl hk
    · refine en_icmp_ge_f c7 rfl ?_
      refine en_aload rfl rfl ?_
      refine en_iload rfl rfl ?_
      obtain ⟨g8, h⟩ := gd h
      obtain ⟨⟨q9, C10⟩, e11, h⟩ := gb h
      dsimp only at h
      refine ec_callV1 (k' := 75) (n := 2) (rc := 5) (a := p1) (as := [.int p4]) ⟨rfl, rfl⟩ rfl rfl (Nat.le_of_ble_eq_true rfl) (Nat.le_of_ble_eq_true rfl) (Nat.le_of_ble_eq_true rfl) g8 rfl (t_75 e11) ?_
      rcases gi h with ⟨c12, h⟩ | ⟨c12, h⟩
      · refine en_if_eq_t c12 rfl ?_
        refine ec_iinc (l' := [(4, .int (p4 + (1 : Int32))), (0, .ref p0), (1, .ref p1), (2, .int p2), (3, .int p3)]) rfl cst_1 rfl rfl ?_
        refine en_goto rfl ?_
        refine en_sub [1, 2, 3, 4, 0] rfl rfl ?_
        exact ih _ _ _ _ _ _ _ h o M' hk
      · refine en_if_eq_f c12 rfl ?_
        refine en_aload rfl rfl ?_
        refine en_aload rfl rfl ?_
        refine en_iload rfl rfl ?_
        refine en_iload rfl rfl ?_
        refine en_iload rfl rfl ?_
        obtain ⟨g13, h⟩ := gd h
        obtain ⟨⟨q14, C15⟩, e16, h⟩ := gb h
        dsimp only at h
        refine ec_callV1 (k' := 104) (n := 5) (rc := 6) (a := p0) (as := [.ref p1, .int p3, .int p4, .int p2]) ⟨rfl, rfl⟩ rfl rfl (Nat.le_of_ble_eq_true rfl) (Nat.le_of_ble_eq_true rfl) (Nat.le_of_ble_eq_true rfl) g13 rfl (t_104 e16) ?_
        rcases gi h with ⟨c17, h⟩ | ⟨c17, h⟩
        · refine en_if_eq_t c17 rfl ?_
          refine ec_iinc (l' := [(4, .int (p4 + (1 : Int32))), (0, .ref p0), (1, .ref p1), (2, .int p2), (3, .int p3)]) rfl cst_1 rfl rfl ?_
          refine en_goto rfl ?_
          refine en_sub [1, 2, 3, 4, 0] rfl rfl ?_
          exact ih _ _ _ _ _ _ _ h o M' hk
        · refine en_if_eq_f c17 rfl ?_
          cases h
          exact en_sub [3, 4] rfl rfl hk
def lp_105_2 : Nat → Nat → Nat → Int32 → Int32 → AmC → Option (((Int32 × Int32) ⊕ (Unit)) × AmC)
  | 0, _, _, _, _, _ => none
  | n + 1, p0, p1, p2, p3, C => (if (30 : Int32) ≤ p3 then some ((.inr ()), C) else if isK p1 5 = true then (f_75 n p1 p3 C).bind (fun z => match z with | (q3, C4) => (if ¬ q3 = 0 then (lp_105_14 n p0 p1 p2 p3 (p3 + (1 : Int32)) C4).bind (fun q => match q with | ((.inl (u21, u22)), C20) => some ((.inl (u21, u22)), C20) | ((.inr (u23, u24, u25, u26)), C20) => lp_105_2 n u23 u24 u25 (u26 + (1 : Int32)) C20) else lp_105_2 n p0 p1 p2 (p3 + (1 : Int32)) C4)) else none)
set_option maxRecDepth 20000 in
set_option maxHeartbeats 4000000 in
theorem lt_105_2 : ∀ (n : Nat) (p0 : Nat) (p1 : Nat) (p2 : Int32) (p3 : Int32) (C : AmC) (r : ((Int32 × Int32) ⊕ (Unit)) × AmC), lp_105_2 n p0 p1 p2 p3 C = some r → ∀ (o : AmO) (M' : AmM), (match r with
        | ((.inl (w3, w4)), C') => En false 105 28 [(3, .int w3), (4, .int w4)] [] (mkM C') o M'
        | ((.inr _), C') => En false 105 38 [] [] (mkM C') o M') → En false 105 2 [(0, .ref p0), (1, .ref p1), (2, .int p2), (3, .int p3)] [] (mkM C) o M' := by
  intro n
  induction n with
  | zero => intro p0 p1 p2 p3 C r h; cases h
  | succ n ih =>
    intro p0 p1 p2 p3 C r h o M' hk
    unfold lp_105_2 at h
    refine en_iload rfl rfl ?_
    refine ec_iconst cst_30 rfl ?_
    rcases gi h with ⟨c1, h⟩ | ⟨c1, h⟩
    · refine en_icmp_ge_t c1 rfl ?_
      cases h
      exact en_sub [] rfl rfl hk
    · refine en_icmp_ge_f c1 rfl ?_
      refine en_aload rfl rfl ?_
      refine en_iload rfl rfl ?_
      obtain ⟨g2, h⟩ := gd h
      obtain ⟨⟨q3, C4⟩, e5, h⟩ := gb h
      dsimp only at h
      refine ec_callV1 (k' := 75) (n := 2) (rc := 5) (a := p1) (as := [.int p3]) ⟨rfl, rfl⟩ rfl rfl (Nat.le_of_ble_eq_true rfl) (Nat.le_of_ble_eq_true rfl) (Nat.le_of_ble_eq_true rfl) g2 rfl (t_75 e5) ?_
      rcases gi h with ⟨c6, h⟩ | ⟨c6, h⟩
      · refine en_if_ne_t c6 rfl ?_
        refine en_iload rfl rfl ?_
        refine ec_iconst cst_1 rfl ?_
        refine en_iadd rfl ?_
        refine en_istore (l' := [(4, .int (p3 + (1 : Int32))), (0, .ref p0), (1, .ref p1), (2, .int p2), (3, .int p3)]) rfl rfl ?_
        obtain ⟨⟨q18, C20⟩, e19, h⟩ := gb h
        refine en_sub [1, 2, 3, 4, 0] rfl rfl (lt_105_14 n _ _ _ _ _ _ _ e19 o M' ?_)
        rcases q18 with ⟨u21, u22⟩ | ⟨u23, u24, u25, u26⟩
        · dsimp only at h ⊢
          cases h
          exact en_sub [0, 1] rfl rfl hk
        · dsimp only at h ⊢
          refine ec_iinc (l' := [(3, .int (u26 + (1 : Int32))), (0, .ref u23), (1, .ref u24), (2, .int u25)]) rfl cst_1 rfl rfl ?_
          refine en_goto rfl ?_
          refine en_sub [1, 2, 3, 0] rfl rfl ?_
          exact ih _ _ _ _ _ _ h o M' hk
      · refine en_if_ne_f c6 rfl ?_
        refine en_goto rfl ?_
        refine ec_iinc (l' := [(3, .int (p3 + (1 : Int32))), (0, .ref p0), (1, .ref p1), (2, .int p2)]) rfl cst_1 rfl rfl ?_
        refine en_goto rfl ?_
        refine en_sub [1, 2, 3, 0] rfl rfl ?_
        exact ih _ _ _ _ _ _ h o M' hk
/-- BulkWriter$Script.twins(LBulkWriter$Rows;I)I -/
def f_105 (n : Nat) (a0 : Nat) (a1 : Nat) (a2 : Int32) (C : AmC) : Option (Int32 × AmC) := (lp_105_2 n a0 a1 a2 (0 : Int32) C).bind (fun q => match q with | ((.inl (u30, u31)), C29) => some ((((100 : Int32) * u30) + u31), C29) | ((.inr _), C29) => some ((-1 : Int32), C29))
set_option maxRecDepth 20000 in
set_option maxHeartbeats 4000000 in
theorem t_105 {n : Nat} {a0 : Nat} {a1 : Nat} {a2 : Int32} {C : AmC} {r : Int32} {C' : AmC} (h : f_105 n a0 a1 a2 C = some (r, C')) : En false 105 0 [(0, .ref a0), (1, .ref a1), (2, .int a2)] [] (mkM C) (.inl (some (.int r))) (mkM C') := by
  unfold f_105 at h
  refine ec_iconst cst_0 rfl ?_
  refine en_istore (l' := [(3, .int (0 : Int32)), (0, .ref a0), (1, .ref a1), (2, .int a2)]) rfl rfl ?_
  obtain ⟨⟨q27, C29⟩, e28, h⟩ := gb h
  refine en_sub [1, 2, 3, 0] rfl rfl (lt_105_2 n _ _ _ _ _ _ e28 _ _ ?_)
  rcases q27 with ⟨u30, u31⟩ | ⟨⟩
  · dsimp only at h ⊢
    refine ec_iconst cst_100 rfl ?_
    refine en_iload rfl rfl ?_
    refine en_imul rfl ?_
    refine en_iload rfl rfl ?_
    refine en_iadd rfl ?_
    cases h
    exact en_iret rfl
  · dsimp only at h ⊢
    refine ec_iconst cst_m1 rfl ?_
    cases h
    exact en_iret rfl
def lp_107_2 : Nat → Nat → Nat → Int32 → AmC → Option (((Int32) ⊕ (Unit)) × AmC)
  | 0, _, _, _, _ => none
  | n + 1, p0, p1, p2, C => if isK p0 6 = true then (if (cI C p0 2) ≤ p2 then some ((.inr ()), C) else (if ¬ (((Int32.toUInt32 (cI C p0 5) >>> (Int32.toUInt32 p2 &&& Int32.toUInt32 31)).toInt32) &&& (1 : Int32)) = (1 : Int32) then lp_107_2 n p0 p1 (p2 + (1 : Int32)) C else (f_105 n p0 p1 p2 C).bind (fun z => match z with | (q4, C5) => (if q4 = (-1 : Int32) then lp_107_2 n p0 p1 (p2 + (1 : Int32)) C5 else some ((.inl p2), C5))))) else none
set_option maxRecDepth 20000 in
set_option maxHeartbeats 4000000 in
theorem lt_107_2 : ∀ (n : Nat) (p0 : Nat) (p1 : Nat) (p2 : Int32) (C : AmC) (r : ((Int32) ⊕ (Unit)) × AmC), lp_107_2 n p0 p1 p2 C = some r → ∀ (o : AmO) (M' : AmM), (match r with
        | ((.inl w2), C') => En false 107 20 [(2, .int w2)] [] (mkM C') o M'
        | ((.inr _), C') => En false 107 24 [] [] (mkM C') o M') → En false 107 2 [(0, .ref p0), (1, .ref p1), (2, .int p2)] [] (mkM C) o M' := by
  intro n
  induction n with
  | zero => intro p0 p1 p2 C r h; cases h
  | succ n ih =>
    intro p0 p1 p2 C r h o M' hk
    unfold lp_107_2 at h
    refine en_iload rfl rfl ?_
    refine en_aload rfl rfl ?_
    obtain ⟨g1, h⟩ := gd h
    refine ec_getI (ci := 6) (j := 2) ⟨rfl, rfl, rfl⟩ g1 rfl ?_
    rcases gi h with ⟨c2, h⟩ | ⟨c2, h⟩
    · refine en_icmp_ge_t c2 rfl ?_
      cases h
      exact en_sub [] rfl rfl hk
    · refine en_icmp_ge_f c2 rfl ?_
      refine en_aload rfl rfl ?_
      refine ec_getI (ci := 6) (j := 5) ⟨rfl, rfl, rfl⟩ g1 rfl ?_
      refine en_iload rfl rfl ?_
      refine en_iushr rfl ?_
      refine ec_iconst cst_1 rfl ?_
      refine en_iand rfl ?_
      refine ec_iconst cst_1 rfl ?_
      rcases gi h with ⟨c3, h⟩ | ⟨c3, h⟩
      · refine en_icmp_ne_t c3 rfl ?_
        refine ec_iinc (l' := [(2, .int (p2 + (1 : Int32))), (0, .ref p0), (1, .ref p1)]) rfl cst_1 rfl rfl ?_
        refine en_goto rfl ?_
        refine en_sub [1, 2, 0] rfl rfl ?_
        exact ih _ _ _ _ _ h o M' hk
      · refine en_icmp_ne_f c3 rfl ?_
        refine en_aload rfl rfl ?_
        refine en_aload rfl rfl ?_
        refine en_iload rfl rfl ?_
        obtain ⟨⟨q4, C5⟩, e6, h⟩ := gb h
        dsimp only at h
        refine ec_callV1 (k' := 105) (n := 3) (rc := 6) (a := p0) (as := [.ref p1, .int p2]) ⟨rfl, rfl⟩ rfl rfl (Nat.le_of_ble_eq_true rfl) (Nat.le_of_ble_eq_true rfl) (Nat.le_of_ble_eq_true rfl) g1 rfl (t_105 e6) ?_
        refine ec_iconst cst_m1 rfl ?_
        rcases gi h with ⟨c7, h⟩ | ⟨c7, h⟩
        · refine en_icmp_eq_t c7 rfl ?_
          refine ec_iinc (l' := [(2, .int (p2 + (1 : Int32))), (0, .ref p0), (1, .ref p1)]) rfl cst_1 rfl rfl ?_
          refine en_goto rfl ?_
          refine en_sub [1, 2, 0] rfl rfl ?_
          exact ih _ _ _ _ _ h o M' hk
        · refine en_icmp_eq_f c7 rfl ?_
          cases h
          exact en_sub [2] rfl rfl hk
/-- BulkWriter$Script.firstClash(LBulkWriter$Rows;)I -/
def f_107 (n : Nat) (a0 : Nat) (a1 : Nat) (C : AmC) : Option (Int32 × AmC) := (lp_107_2 n a0 a1 (0 : Int32) C).bind (fun q => match q with | ((.inl u11), C10) => some (u11, C10) | ((.inr _), C10) => some ((-1 : Int32), C10))
set_option maxRecDepth 20000 in
set_option maxHeartbeats 4000000 in
theorem t_107 {n : Nat} {a0 : Nat} {a1 : Nat} {C : AmC} {r : Int32} {C' : AmC} (h : f_107 n a0 a1 C = some (r, C')) : En false 107 0 [(0, .ref a0), (1, .ref a1)] [] (mkM C) (.inl (some (.int r))) (mkM C') := by
  unfold f_107 at h
  refine ec_iconst cst_0 rfl ?_
  refine en_istore (l' := [(2, .int (0 : Int32)), (0, .ref a0), (1, .ref a1)]) rfl rfl ?_
  obtain ⟨⟨q8, C10⟩, e9, h⟩ := gb h
  refine en_sub [1, 2, 0] rfl rfl (lt_107_2 n _ _ _ _ _ e9 _ _ ?_)
  rcases q8 with u11 | ⟨⟩
  · dsimp only at h ⊢
    refine en_iload rfl rfl ?_
    cases h
    exact en_iret rfl
  · dsimp only at h ⊢
    refine ec_iconst cst_m1 rfl ?_
    cases h
    exact en_iret rfl
