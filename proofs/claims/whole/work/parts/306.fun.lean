/-- BulkWriter.checkCell(II)V -/
def f_146 (n : Nat) (a0 : Nat) (a1 : Int32) (a2 : Int32) (C : AmC) : Option ((Unit ⊕ Nat) × AmC) := (f_148 n a1 C).bind (fun z => match z with | (q1, C2) => (if q1 = 0 then some (.inr 0, C2) else if isK a0 9 = true then (f_149 n a0 a2 C2).bind (fun z => match z with | (q6, C7) => (if ¬ q6 = 0 then some (.inl (), C7) else some (.inr 0, C7))) else none))
set_option maxRecDepth 20000 in
set_option maxHeartbeats 4000000 in
theorem t_146 {n : Nat} {a0 : Nat} {a1 : Int32} {a2 : Int32} {C : AmC} {r : (Unit ⊕ Nat)} {C' : AmC} (h : f_146 n a0 a1 a2 C = some (r, C')) : En false 146 0 [(0, .ref a0), (1, .int a1), (2, .int a2)] [] (mkM C) (ovV r) (mkM C') := by
  unfold f_146 at h
  refine en_iload rfl rfl ?_
  obtain ⟨⟨q1, C2⟩, e3, h⟩ := gb h
  dsimp only at h
  refine ec_callS1 (k' := 148) (n := 1) (as := [.int a1]) rfl rfl rfl (Nat.le_of_ble_eq_true rfl) (Nat.le_of_ble_eq_true rfl) (Nat.le_of_ble_eq_true rfl) rfl (t_148 e3) ?_
  rcases gi h with ⟨c4, h⟩ | ⟨c4, h⟩
  · refine en_if_eq_t c4 rfl ?_
    cases h
    exact en_throw (n := 0) rfl ⟨rfl, Nat.le_of_ble_eq_true rfl⟩
  · refine en_if_eq_f c4 rfl ?_
    refine en_aload rfl rfl ?_
    refine en_iload rfl rfl ?_
    obtain ⟨g5, h⟩ := gd h
    obtain ⟨⟨q6, C7⟩, e8, h⟩ := gb h
    dsimp only at h
    refine ec_callV1 (k' := 149) (n := 2) (rc := 9) (a := a0) (as := [.int a2]) ⟨rfl, rfl⟩ rfl rfl (Nat.le_of_ble_eq_true rfl) (Nat.le_of_ble_eq_true rfl) (Nat.le_of_ble_eq_true rfl) g5 rfl (t_149 e8) ?_
    rcases gi h with ⟨c9, h⟩ | ⟨c9, h⟩
    · refine en_if_ne_t c9 rfl ?_
      cases h
      exact en_vret rfl
    · refine en_if_ne_f c9 rfl ?_
      cases h
      exact en_throw (n := 0) rfl ⟨rfl, Nat.le_of_ble_eq_true rfl⟩
/-- BulkWriter.cell(II)I -/
def f_122 (n : Nat) (a0 : Nat) (a1 : Int32) (a2 : Int32) (C : AmC) : Option ((Int32 ⊕ Nat) × AmC) := if isK a0 9 = true then (f_146 n a0 a1 a2 C).bind (fun z => match z with | (.inl _, C3) => (cP C3 a0 6).bind (fun r6 => if isK r6 7 = true then (cP C3 r6 0).bind (fun r9 => if isK r9 5 = true then (f_76 n r9 a1 a2 C3).bind (fun z => match z with | (q12, C13) => some (.inl q12, C13)) else none) else none) | (.inr x5, C3) => some (.inr x5, C3)) else none
set_option maxRecDepth 20000 in
set_option maxHeartbeats 4000000 in
theorem t_122 {n : Nat} {a0 : Nat} {a1 : Int32} {a2 : Int32} {C : AmC} {r : (Int32 ⊕ Nat)} {C' : AmC} (h : f_122 n a0 a1 a2 C = some (r, C')) : En false 122 0 [(0, .ref a0), (1, .int a1), (2, .int a2)] [] (mkM C) (ovI r) (mkM C') := by
  unfold f_122 at h
  refine en_aload rfl rfl ?_
  refine en_iload rfl rfl ?_
  refine en_iload rfl rfl ?_
  obtain ⟨g1, h⟩ := gd h
  obtain ⟨⟨q2, C3⟩, e4, h⟩ := gb h
  rcases q2 with q2 | x5
  · dsimp only at h
    refine ec_callV0 (k' := 146) (n := 3) (rc := 9) (a := a0) (as := [.int a1, .int a2]) ⟨rfl, rfl⟩ rfl rfl (Nat.le_of_ble_eq_true rfl) (Nat.le_of_ble_eq_true rfl) (Nat.le_of_ble_eq_true rfl) g1 rfl (t_146 e4) ?_
    refine en_aload rfl rfl ?_
    obtain ⟨r6, e7, h⟩ := gb h
    refine ec_getP (ci := 9) (j := 6) ⟨rfl, rfl, rfl⟩ g1 e7 rfl ?_
    obtain ⟨g8, h⟩ := gd h
    obtain ⟨r9, e10, h⟩ := gb h
    refine ec_getP (ci := 7) (j := 0) ⟨rfl, rfl, rfl⟩ g8 e10 rfl ?_
    refine en_iload rfl rfl ?_
    refine en_iload rfl rfl ?_
    obtain ⟨g11, h⟩ := gd h
    obtain ⟨⟨q12, C13⟩, e14, h⟩ := gb h
    dsimp only at h
    refine ec_callV1 (k' := 76) (n := 3) (rc := 5) (a := r9) (as := [.int a1, .int a2]) ⟨rfl, rfl⟩ rfl rfl (Nat.le_of_ble_eq_true rfl) (Nat.le_of_ble_eq_true rfl) (Nat.le_of_ble_eq_true rfl) g11 rfl (t_76 e14) ?_
    cases h
    exact en_iret rfl
  · dsimp only at h
    cases h
    exact ec_callVx (k' := 146) (n := 3) (rc := 9) (a := a0) (as := [.int a1, .int a2]) ⟨rfl, rfl⟩ rfl rfl (Nat.le_of_ble_eq_true rfl) (Nat.le_of_ble_eq_true rfl) (Nat.le_of_ble_eq_true rfl) g1 rfl (t_146 e4)
/-- BulkWriter.checkPath(I)V -/
def f_144 (n : Nat) (a0 : Nat) (a1 : Int32) (C : AmC) : Option ((Unit ⊕ Nat) × AmC) := (if a1 < 0 then some (.inr 0, C) else if isK a0 9 = true then (cP C a0 4).bind (fun r3 => if isK r3 6 = true then (f_87 n r3 C).bind (fun z => match z with | (q6, C7) => (if a1 < q6 then some (.inl (), C7) else some (.inr 0, C7))) else none) else none)
set_option maxRecDepth 20000 in
set_option maxHeartbeats 4000000 in
theorem t_144 {n : Nat} {a0 : Nat} {a1 : Int32} {C : AmC} {r : (Unit ⊕ Nat)} {C' : AmC} (h : f_144 n a0 a1 C = some (r, C')) : En false 144 0 [(0, .ref a0), (1, .int a1)] [] (mkM C) (ovV r) (mkM C') := by
  unfold f_144 at h
  refine en_iload rfl rfl ?_
  rcases gi h with ⟨c1, h⟩ | ⟨c1, h⟩
  · refine en_if_lt_t c1 rfl ?_
    cases h
    exact en_throw (n := 0) rfl ⟨rfl, Nat.le_of_ble_eq_true rfl⟩
  · refine en_if_lt_f c1 rfl ?_
    refine en_iload rfl rfl ?_
    refine en_aload rfl rfl ?_
    obtain ⟨g2, h⟩ := gd h
    obtain ⟨r3, e4, h⟩ := gb h
    refine ec_getP (ci := 9) (j := 4) ⟨rfl, rfl, rfl⟩ g2 e4 rfl ?_
    obtain ⟨g5, h⟩ := gd h
    obtain ⟨⟨q6, C7⟩, e8, h⟩ := gb h
    dsimp only at h
    refine ec_callV1 (k' := 87) (n := 1) (rc := 6) (a := r3) (as := []) ⟨rfl, rfl⟩ rfl rfl (Nat.le_of_ble_eq_true rfl) (Nat.le_of_ble_eq_true rfl) (Nat.le_of_ble_eq_true rfl) g5 rfl (t_87 e8) ?_
    rcases gi h with ⟨c9, h⟩ | ⟨c9, h⟩
    · refine en_icmp_lt_t c9 rfl ?_
      cases h
      exact en_vret rfl
    · refine en_icmp_lt_f c9 rfl ?_
      cases h
      exact en_throw (n := 0) rfl ⟨rfl, Nat.le_of_ble_eq_true rfl⟩
def lp_123_26 : Nat → Nat → Int32 → Int32 → Int32 → AmC → Option (((Int32)) × AmC)
  | 0, _, _, _, _, _ => none
  | n + 1, p0, p2, p3, p4, C => (if p2 < p4 then some (p3, C) else if isK p0 9 = true then (cP C p0 12).bind (fun r27 => (cP C p0 6).bind (fun r29 => if isK r29 7 = true then (cP C r29 0).bind (fun r32 => if isK r27 0 = true then (f_5 n r27 r32 C).bind (fun z => match z with | (q35, C36) => lp_123_26 n p0 p2 q35 (p4 + (1 : Int32)) C36) else none) else none)) else none)
set_option maxRecDepth 20000 in
set_option maxHeartbeats 4000000 in
theorem lt_123_26 : ∀ (n : Nat) (p0 : Nat) (p2 : Int32) (p3 : Int32) (p4 : Int32) (C : AmC) (r : ((Int32)) × AmC), lp_123_26 n p0 p2 p3 p4 C = some r → ∀ (o : AmO) (M' : AmM), (match r with
        | (w3, C') => En false 123 38 [(3, .int w3)] [] (mkM C') o M') → En false 123 26 [(0, .ref p0), (2, .int p2), (3, .int p3), (4, .int p4)] [] (mkM C) o M' := by
  intro n
  induction n with
  | zero => intro p0 p2 p3 p4 C r h; cases h
  | succ n ih =>
    intro p0 p2 p3 p4 C r h o M' hk
    unfold lp_123_26 at h
    refine en_iload rfl rfl ?_
    refine en_iload rfl rfl ?_
    rcases gi h with ⟨c25, h⟩ | ⟨c25, h⟩
    · refine en_icmp_gt_t c25 rfl ?_
      cases h
      exact en_sub [2] rfl rfl hk
    · refine en_icmp_gt_f c25 rfl ?_
      refine en_aload rfl rfl ?_
      obtain ⟨g26, h⟩ := gd h
      obtain ⟨r27, e28, h⟩ := gb h
      refine ec_getP (ci := 9) (j := 12) ⟨rfl, rfl, rfl⟩ g26 e28 rfl ?_
      refine en_aload rfl rfl ?_
      obtain ⟨r29, e30, h⟩ := gb h
      refine ec_getP (ci := 9) (j := 6) ⟨rfl, rfl, rfl⟩ g26 e30 rfl ?_
      obtain ⟨g31, h⟩ := gd h
      obtain ⟨r32, e33, h⟩ := gb h
      refine ec_getP (ci := 7) (j := 0) ⟨rfl, rfl, rfl⟩ g31 e33 rfl ?_
      obtain ⟨g34, h⟩ := gd h
      obtain ⟨⟨q35, C36⟩, e37, h⟩ := gb h
      dsimp only at h
      refine ec_callV1 (k' := 5) (n := 2) (rc := 0) (a := r27) (as := [.ref r32]) ⟨rfl, rfl⟩ rfl rfl (Nat.le_of_ble_eq_true rfl) (Nat.le_of_ble_eq_true rfl) (Nat.le_of_ble_eq_true rfl) g34 rfl (t_5 e37) ?_
      refine en_istore (l' := [(3, .int q35), (0, .ref p0), (2, .int p2), (4, .int p4)]) rfl rfl ?_
      refine ec_iinc (l' := [(4, .int (p4 + (1 : Int32))), (3, .int q35), (0, .ref p0), (2, .int p2)]) rfl cst_1 rfl rfl ?_
      refine en_goto rfl ?_
      refine en_sub [2, 3, 1, 0] rfl rfl ?_
      exact ih _ _ _ _ _ _ h o M' hk
/-- BulkWriter.along(II)I -/
def f_123 (n : Nat) (a0 : Nat) (a1 : Int32) (a2 : Int32) (C : AmC) : Option ((Int32 ⊕ Nat) × AmC) := if isK a0 9 = true then (f_144 n a0 a1 C).bind (fun z => match z with | (.inl _, C3) => (if a2 < 0 then some (.inr 0, C3) else (cP C3 a0 6).bind (fun r7 => if isK r7 7 = true then (cP C3 r7 0).bind (fun r10 => if isK r10 5 = true then (f_81 n r10 C3).bind (fun z => match z with | (q13, C14) => (if a2 < q13 then (cP C14 a0 12).bind (fun r17 => (cP C14 a0 4).bind (fun r19 => if isK r17 0 = true then (f_1 n r17 r19 a1 C14).bind (fun z => match z with | (_, C23) => (lp_123_26 n a0 a2 (-1 : Int32) (0 : Int32) C23).bind (fun q => match q with | (u41, C40) => some (.inl u41, C40))) else none)) else some (.inr 0, C14))) else none) else none)) | (.inr x5, C3) => some (.inr x5, C3)) else none
set_option maxRecDepth 20000 in
set_option maxHeartbeats 4000000 in
theorem t_123 {n : Nat} {a0 : Nat} {a1 : Int32} {a2 : Int32} {C : AmC} {r : (Int32 ⊕ Nat)} {C' : AmC} (h : f_123 n a0 a1 a2 C = some (r, C')) : En false 123 0 [(0, .ref a0), (1, .int a1), (2, .int a2)] [] (mkM C) (ovI r) (mkM C') := by
  unfold f_123 at h
  refine en_aload rfl rfl ?_
  refine en_iload rfl rfl ?_
  obtain ⟨g1, h⟩ := gd h
  obtain ⟨⟨q2, C3⟩, e4, h⟩ := gb h
  rcases q2 with q2 | x5
  · dsimp only at h
    refine ec_callV0 (k' := 144) (n := 2) (rc := 9) (a := a0) (as := [.int a1]) ⟨rfl, rfl⟩ rfl rfl (Nat.le_of_ble_eq_true rfl) (Nat.le_of_ble_eq_true rfl) (Nat.le_of_ble_eq_true rfl) g1 rfl (t_144 e4) ?_
    refine en_iload rfl rfl ?_
    rcases gi h with ⟨c6, h⟩ | ⟨c6, h⟩
    · refine en_if_lt_t c6 rfl ?_
      cases h
      exact en_throw (n := 0) rfl ⟨rfl, Nat.le_of_ble_eq_true rfl⟩
    · refine en_if_lt_f c6 rfl ?_
      refine en_iload rfl rfl ?_
      refine en_aload rfl rfl ?_
      obtain ⟨r7, e8, h⟩ := gb h
      refine ec_getP (ci := 9) (j := 6) ⟨rfl, rfl, rfl⟩ g1 e8 rfl ?_
      obtain ⟨g9, h⟩ := gd h
      obtain ⟨r10, e11, h⟩ := gb h
      refine ec_getP (ci := 7) (j := 0) ⟨rfl, rfl, rfl⟩ g9 e11 rfl ?_
      obtain ⟨g12, h⟩ := gd h
      obtain ⟨⟨q13, C14⟩, e15, h⟩ := gb h
      dsimp only at h
      refine ec_callV1 (k' := 81) (n := 1) (rc := 5) (a := r10) (as := []) ⟨rfl, rfl⟩ rfl rfl (Nat.le_of_ble_eq_true rfl) (Nat.le_of_ble_eq_true rfl) (Nat.le_of_ble_eq_true rfl) g12 rfl (t_81 e15) ?_
      rcases gi h with ⟨c16, h⟩ | ⟨c16, h⟩
      · refine en_icmp_lt_t c16 rfl ?_
        refine en_aload rfl rfl ?_
        obtain ⟨r17, e18, h⟩ := gb h
        refine ec_getP (ci := 9) (j := 12) ⟨rfl, rfl, rfl⟩ g1 e18 rfl ?_
        refine en_aload rfl rfl ?_
        obtain ⟨r19, e20, h⟩ := gb h
        refine ec_getP (ci := 9) (j := 4) ⟨rfl, rfl, rfl⟩ g1 e20 rfl ?_
        refine en_iload rfl rfl ?_
        obtain ⟨g21, h⟩ := gd h
        obtain ⟨⟨q22, C23⟩, e24, h⟩ := gb h
        dsimp only at h
        refine ec_callV0 (k' := 1) (n := 3) (rc := 0) (a := r17) (as := [.ref r19, .int a1]) ⟨rfl, rfl⟩ rfl rfl (Nat.le_of_ble_eq_true rfl) (Nat.le_of_ble_eq_true rfl) (Nat.le_of_ble_eq_true rfl) g21 rfl (t_1 e24) ?_
        refine ec_iconst cst_m1 rfl ?_
        refine en_istore (l' := [(3, .int (-1 : Int32)), (0, .ref a0), (1, .int a1), (2, .int a2)]) rfl rfl ?_
        refine ec_iconst cst_0 rfl ?_
        refine en_istore (l' := [(4, .int (0 : Int32)), (3, .int (-1 : Int32)), (0, .ref a0), (1, .int a1), (2, .int a2)]) rfl rfl ?_
        obtain ⟨⟨q38, C40⟩, e39, h⟩ := gb h
        refine en_sub [2, 4, 1, 0] rfl rfl (lt_123_26 n _ _ _ _ _ _ e39 _ _ ?_)
        revert h e39; revert q38; intro u41 e39 h
        dsimp only at h ⊢
        refine en_iload rfl rfl ?_
        cases h
        exact en_iret rfl
      · refine en_icmp_lt_f c16 rfl ?_
        cases h
        exact en_throw (n := 0) rfl ⟨rfl, Nat.le_of_ble_eq_true rfl⟩
  · dsimp only at h
    cases h
    exact ec_callVx (k' := 144) (n := 2) (rc := 9) (a := a0) (as := [.int a1]) ⟨rfl, rfl⟩ rfl rfl (Nat.le_of_ble_eq_true rfl) (Nat.le_of_ble_eq_true rfl) (Nat.le_of_ble_eq_true rfl) g1 rfl (t_144 e4)
/-- BulkWriter.checkStatement(I)V -/
def f_143 (n : Nat) (a0 : Nat) (a1 : Int32) (C : AmC) : Option ((Unit ⊕ Nat) × AmC) := (if a1 < 0 then some (.inr 0, C) else if isK a0 9 = true then (cP C a0 4).bind (fun r3 => if isK r3 6 = true then (if a1 < (cI C r3 8) then some (.inl (), C) else some (.inr 0, C)) else none) else none)
set_option maxRecDepth 20000 in
set_option maxHeartbeats 4000000 in
theorem t_143 {n : Nat} {a0 : Nat} {a1 : Int32} {C : AmC} {r : (Unit ⊕ Nat)} {C' : AmC} (h : f_143 n a0 a1 C = some (r, C')) : En false 143 0 [(0, .ref a0), (1, .int a1)] [] (mkM C) (ovV r) (mkM C') := by
  unfold f_143 at h
  refine en_iload rfl rfl ?_
  rcases gi h with ⟨c1, h⟩ | ⟨c1, h⟩
  · refine en_if_lt_t c1 rfl ?_
    cases h
    exact en_throw (n := 0) rfl ⟨rfl, Nat.le_of_ble_eq_true rfl⟩
  · refine en_if_lt_f c1 rfl ?_
    refine en_iload rfl rfl ?_
    refine en_aload rfl rfl ?_
    obtain ⟨g2, h⟩ := gd h
    obtain ⟨r3, e4, h⟩ := gb h
    refine ec_getP (ci := 9) (j := 4) ⟨rfl, rfl, rfl⟩ g2 e4 rfl ?_
    obtain ⟨g5, h⟩ := gd h
    refine ec_getI (ci := 6) (j := 8) ⟨rfl, rfl, rfl⟩ g5 rfl ?_
    rcases gi h with ⟨c6, h⟩ | ⟨c6, h⟩
    · refine en_icmp_lt_t c6 rfl ?_
      cases h
      exact en_vret rfl
    · refine en_icmp_lt_f c6 rfl ?_
      cases h
      exact en_throw (n := 0) rfl ⟨rfl, Nat.le_of_ble_eq_true rfl⟩
/-- BulkWriter.checkWhat(II)V -/
def f_147 (n : Nat) (a0 : Int32) (a1 : Int32) (C : AmC) : Option ((Unit ⊕ Nat) × AmC) := (if a0 < 0 then some (.inr 0, C) else (if a0 < a1 then some (.inl (), C) else some (.inr 0, C)))
set_option maxRecDepth 20000 in
set_option maxHeartbeats 4000000 in
theorem t_147 {n : Nat} {a0 : Int32} {a1 : Int32} {C : AmC} {r : (Unit ⊕ Nat)} {C' : AmC} (h : f_147 n a0 a1 C = some (r, C')) : En false 147 0 [(0, .int a0), (1, .int a1)] [] (mkM C) (ovV r) (mkM C') := by
  unfold f_147 at h
  refine en_iload rfl rfl ?_
  rcases gi h with ⟨c1, h⟩ | ⟨c1, h⟩
  · refine en_if_lt_t c1 rfl ?_
    cases h
    exact en_throw (n := 0) rfl ⟨rfl, Nat.le_of_ble_eq_true rfl⟩
  · refine en_if_lt_f c1 rfl ?_
    refine en_iload rfl rfl ?_
    refine en_iload rfl rfl ?_
    rcases gi h with ⟨c2, h⟩ | ⟨c2, h⟩
    · refine en_icmp_lt_t c2 rfl ?_
      cases h
      exact en_vret rfl
    · refine en_icmp_lt_f c2 rfl ?_
      cases h
      exact en_throw (n := 0) rfl ⟨rfl, Nat.le_of_ble_eq_true rfl⟩
/-- BulkWriter.goRight(ILBulkWriter$Rows;)V -/
def f_151 (n : Nat) (a0 : Nat) (a1 : Int32) (a2 : Nat) (C : AmC) : Option (Unit × AmC) := if isK a0 9 = true then (cP C a0 9).bind (fun r2 => (cP C a0 4).bind (fun r4 => if isK r2 3 = true then (f_45 n r2 r4 a1 (0 : Int32) (3 : Int32) a2 C).bind (fun z => match z with | (_, C8) => some ((), C8)) else none)) else none
set_option maxRecDepth 20000 in
set_option maxHeartbeats 4000000 in
theorem t_151 {n : Nat} {a0 : Nat} {a1 : Int32} {a2 : Nat} {C : AmC} {r : Unit} {C' : AmC} (h : f_151 n a0 a1 a2 C = some (r, C')) : En false 151 0 [(0, .ref a0), (1, .int a1), (2, .ref a2)] [] (mkM C) (.inl none) (mkM C') := by
  unfold f_151 at h
  refine en_aload rfl rfl ?_
  obtain ⟨g1, h⟩ := gd h
  obtain ⟨r2, e3, h⟩ := gb h
  refine ec_getP (ci := 9) (j := 9) ⟨rfl, rfl, rfl⟩ g1 e3 rfl ?_
  refine en_aload rfl rfl ?_
  obtain ⟨r4, e5, h⟩ := gb h
  refine ec_getP (ci := 9) (j := 4) ⟨rfl, rfl, rfl⟩ g1 e5 rfl ?_
  refine en_iload rfl rfl ?_
  refine ec_iconst cst_0 rfl ?_
  refine ec_iconst cst_3 rfl ?_
  refine en_aload rfl rfl ?_
  obtain ⟨g6, h⟩ := gd h
  obtain ⟨⟨q7, C8⟩, e9, h⟩ := gb h
  dsimp only at h
  refine ec_callV0 (k' := 45) (n := 6) (rc := 3) (a := r2) (as := [.ref r4, .int a1, .int (0 : Int32), .int (3 : Int32), .ref a2]) ⟨rfl, rfl⟩ rfl rfl (Nat.le_of_ble_eq_true rfl) (Nat.le_of_ble_eq_true rfl) (Nat.le_of_ble_eq_true rfl) g6 rfl (t_45 e9) ?_
  cases h
  exact en_vret rfl
/-- BulkWriter.right(II)I -/
def f_124 (n : Nat) (a0 : Nat) (a1 : Int32) (a2 : Int32) (C : AmC) : Option ((Int32 ⊕ Nat) × AmC) := if isK a0 9 = true then (f_143 n a0 a1 C).bind (fun z => match z with | (.inl _, C3) => (f_147 n a2 (4 : Int32) C3).bind (fun z => match z with | (.inl _, C7) => (cP C7 a0 6).bind (fun r10 => if isK r10 7 = true then (cP C7 r10 0).bind (fun r13 => (f_151 n a0 a1 r13 C7).bind (fun z => match z with | (_, C16) => (if a2 = (0 : Int32) then (cP C16 a0 9).bind (fun r21 => if isK r21 3 = true then some (.inl (cI C16 r21 10), C16) else none) else if a2 = (1 : Int32) then (cP C16 a0 9).bind (fun r24 => if isK r24 3 = true then some (.inl (cI C16 r24 11), C16) else none) else if a2 = (2 : Int32) then (cP C16 a0 9).bind (fun r27 => if isK r27 3 = true then some (.inl (cI C16 r27 12), C16) else none) else (cP C16 a0 9).bind (fun r30 => if isK r30 3 = true then some (.inl (cI C16 r30 13), C16) else none)))) else none) | (.inr x9, C7) => some (.inr x9, C7)) | (.inr x5, C3) => some (.inr x5, C3)) else none
set_option maxRecDepth 20000 in
set_option maxHeartbeats 4000000 in
theorem t_124 {n : Nat} {a0 : Nat} {a1 : Int32} {a2 : Int32} {C : AmC} {r : (Int32 ⊕ Nat)} {C' : AmC} (h : f_124 n a0 a1 a2 C = some (r, C')) : En false 124 0 [(0, .ref a0), (1, .int a1), (2, .int a2)] [] (mkM C) (ovI r) (mkM C') := by
  unfold f_124 at h
  refine en_aload rfl rfl ?_
  refine en_iload rfl rfl ?_
  obtain ⟨g1, h⟩ := gd h
  obtain ⟨⟨q2, C3⟩, e4, h⟩ := gb h
  rcases q2 with q2 | x5
  · dsimp only at h
    refine ec_callV0 (k' := 143) (n := 2) (rc := 9) (a := a0) (as := [.int a1]) ⟨rfl, rfl⟩ rfl rfl (Nat.le_of_ble_eq_true rfl) (Nat.le_of_ble_eq_true rfl) (Nat.le_of_ble_eq_true rfl) g1 rfl (t_143 e4) ?_
    refine en_iload rfl rfl ?_
    refine ec_iconst cst_4 rfl ?_
    obtain ⟨⟨q6, C7⟩, e8, h⟩ := gb h
    rcases q6 with q6 | x9
    · dsimp only at h
      refine ec_callS0 (k' := 147) (n := 2) (as := [.int a2, .int (4 : Int32)]) rfl rfl rfl (Nat.le_of_ble_eq_true rfl) (Nat.le_of_ble_eq_true rfl) (Nat.le_of_ble_eq_true rfl) rfl (t_147 e8) ?_
      refine en_aload rfl rfl ?_
      refine en_iload rfl rfl ?_
      refine en_aload rfl rfl ?_
      obtain ⟨r10, e11, h⟩ := gb h
      refine ec_getP (ci := 9) (j := 6) ⟨rfl, rfl, rfl⟩ g1 e11 rfl ?_
      obtain ⟨g12, h⟩ := gd h
      obtain ⟨r13, e14, h⟩ := gb h
      refine ec_getP (ci := 7) (j := 0) ⟨rfl, rfl, rfl⟩ g12 e14 rfl ?_
      obtain ⟨⟨q15, C16⟩, e17, h⟩ := gb h
      dsimp only at h
      refine ec_callV0 (k' := 151) (n := 3) (rc := 9) (a := a0) (as := [.int a1, .ref r13]) ⟨rfl, rfl⟩ rfl rfl (Nat.le_of_ble_eq_true rfl) (Nat.le_of_ble_eq_true rfl) (Nat.le_of_ble_eq_true rfl) g1 rfl (t_151 e17) ?_
      refine en_iload rfl rfl ?_
      rcases gi h with ⟨c18, h⟩ | ⟨c18, h⟩
      · refine en_tab_i (t := 14) (by rw [c18]; decide) (by rw [c18]; rfl) rfl ?_
        refine en_aload rfl rfl ?_
        obtain ⟨r21, e22, h⟩ := gb h
        refine ec_getP (ci := 9) (j := 9) ⟨rfl, rfl, rfl⟩ g1 e22 rfl ?_
        obtain ⟨g23, h⟩ := gd h
        refine ec_getI (ci := 3) (j := 10) ⟨rfl, rfl, rfl⟩ g23 rfl ?_
        cases h
        exact en_iret rfl
      ·
        rcases gi h with ⟨c19, h⟩ | ⟨c19, h⟩
        · refine en_tab_i (t := 18) (by rw [c19]; decide) (by rw [c19]; rfl) rfl ?_
          refine en_aload rfl rfl ?_
          obtain ⟨r24, e25, h⟩ := gb h
          refine ec_getP (ci := 9) (j := 9) ⟨rfl, rfl, rfl⟩ g1 e25 rfl ?_
          obtain ⟨g26, h⟩ := gd h
          refine ec_getI (ci := 3) (j := 11) ⟨rfl, rfl, rfl⟩ g26 rfl ?_
          cases h
          exact en_iret rfl
        ·
          rcases gi h with ⟨c20, h⟩ | ⟨c20, h⟩
          · refine en_tab_i (t := 22) (by rw [c20]; decide) (by rw [c20]; rfl) rfl ?_
            refine en_aload rfl rfl ?_
            obtain ⟨r27, e28, h⟩ := gb h
            refine ec_getP (ci := 9) (j := 9) ⟨rfl, rfl, rfl⟩ g1 e28 rfl ?_
            obtain ⟨g29, h⟩ := gd h
            refine ec_getI (ci := 3) (j := 12) ⟨rfl, rfl, rfl⟩ g29 rfl ?_
            cases h
            exact en_iret rfl
          ·
            refine en_tab_o (by have z0 := ne_toInt c18 (v := 0) (by decide); have z1 := ne_toInt c19 (v := 1) (by decide); have z2 := ne_toInt c20 (v := 2) (by decide); omega) rfl ?_
            refine en_aload rfl rfl ?_
            obtain ⟨r30, e31, h⟩ := gb h
            refine ec_getP (ci := 9) (j := 9) ⟨rfl, rfl, rfl⟩ g1 e31 rfl ?_
            obtain ⟨g32, h⟩ := gd h
            refine ec_getI (ci := 3) (j := 13) ⟨rfl, rfl, rfl⟩ g32 rfl ?_
            cases h
            exact en_iret rfl
    · dsimp only at h
      cases h
      exact ec_callSx (k' := 147) (n := 2) (as := [.int a2, .int (4 : Int32)]) rfl rfl rfl (Nat.le_of_ble_eq_true rfl) (Nat.le_of_ble_eq_true rfl) (Nat.le_of_ble_eq_true rfl) rfl (t_147 e8)
  · dsimp only at h
    cases h
    exact ec_callVx (k' := 143) (n := 2) (rc := 9) (a := a0) (as := [.int a1]) ⟨rfl, rfl⟩ rfl rfl (Nat.le_of_ble_eq_true rfl) (Nat.le_of_ble_eq_true rfl) (Nat.le_of_ble_eq_true rfl) g1 rfl (t_143 e4)
/-- BulkWriter.plan(III)I -/
def f_125 (n : Nat) (a0 : Nat) (a1 : Int32) (a2 : Int32) (a3 : Int32) (C : AmC) : Option ((Int32 ⊕ Nat) × AmC) := if isK a0 9 = true then (f_143 n a0 a1 C).bind (fun z => match z with | (.inl _, C3) => (f_144 n a0 a2 C3).bind (fun z => match z with | (.inl _, C7) => (f_147 n a3 (4 : Int32) C7).bind (fun z => match z with | (.inl _, C11) => (cP C11 a0 11).bind (fun r14 => (cP C11 a0 4).bind (fun r16 => (cP C11 a0 4).bind (fun r18 => if isK r18 6 = true then (f_90 n r18 a1 C11).bind (fun z => match z with | (q21, C22) => (cP C22 a0 6).bind (fun r24 => if isK r24 7 = true then (cP C22 r24 0).bind (fun r27 => if isK r14 4 = true then (f_61 n r14 r16 q21 a2 r27 C22).bind (fun z => match z with | (_, C31) => (if a3 = (0 : Int32) then (cP C31 a0 11).bind (fun r36 => if isK r36 4 = true then some (.inl (cI C31 r36 4), C31) else none) else if a3 = (1 : Int32) then (cP C31 a0 11).bind (fun r39 => if isK r39 4 = true then some (.inl (cI C31 r39 5), C31) else none) else if a3 = (2 : Int32) then (cP C31 a0 11).bind (fun r42 => if isK r42 4 = true then some (.inl (cI C31 r42 6), C31) else none) else (cP C31 a0 11).bind (fun r45 => if isK r45 4 = true then some (.inl (cI C31 r45 1), C31) else none))) else none) else none)) else none))) | (.inr x13, C11) => some (.inr x13, C11)) | (.inr x9, C7) => some (.inr x9, C7)) | (.inr x5, C3) => some (.inr x5, C3)) else none
set_option maxRecDepth 20000 in
set_option maxHeartbeats 4000000 in
theorem t_125 {n : Nat} {a0 : Nat} {a1 : Int32} {a2 : Int32} {a3 : Int32} {C : AmC} {r : (Int32 ⊕ Nat)} {C' : AmC} (h : f_125 n a0 a1 a2 a3 C = some (r, C')) : En false 125 0 [(0, .ref a0), (1, .int a1), (2, .int a2), (3, .int a3)] [] (mkM C) (ovI r) (mkM C') := by
  unfold f_125 at h
  refine en_aload rfl rfl ?_
  refine en_iload rfl rfl ?_
  obtain ⟨g1, h⟩ := gd h
  obtain ⟨⟨q2, C3⟩, e4, h⟩ := gb h
  rcases q2 with q2 | x5
  · dsimp only at h
    refine ec_callV0 (k' := 143) (n := 2) (rc := 9) (a := a0) (as := [.int a1]) ⟨rfl, rfl⟩ rfl rfl (Nat.le_of_ble_eq_true rfl) (Nat.le_of_ble_eq_true rfl) (Nat.le_of_ble_eq_true rfl) g1 rfl (t_143 e4) ?_
    refine en_aload rfl rfl ?_
    refine en_iload rfl rfl ?_
    obtain ⟨⟨q6, C7⟩, e8, h⟩ := gb h
    rcases q6 with q6 | x9
    · dsimp only at h
      refine ec_callV0 (k' := 144) (n := 2) (rc := 9) (a := a0) (as := [.int a2]) ⟨rfl, rfl⟩ rfl rfl (Nat.le_of_ble_eq_true rfl) (Nat.le_of_ble_eq_true rfl) (Nat.le_of_ble_eq_true rfl) g1 rfl (t_144 e8) ?_
      refine en_iload rfl rfl ?_
      refine ec_iconst cst_4 rfl ?_
      obtain ⟨⟨q10, C11⟩, e12, h⟩ := gb h
      rcases q10 with q10 | x13
      · dsimp only at h
        refine ec_callS0 (k' := 147) (n := 2) (as := [.int a3, .int (4 : Int32)]) rfl rfl rfl (Nat.le_of_ble_eq_true rfl) (Nat.le_of_ble_eq_true rfl) (Nat.le_of_ble_eq_true rfl) rfl (t_147 e12) ?_
        refine en_aload rfl rfl ?_
        obtain ⟨r14, e15, h⟩ := gb h
        refine ec_getP (ci := 9) (j := 11) ⟨rfl, rfl, rfl⟩ g1 e15 rfl ?_
        refine en_aload rfl rfl ?_
        obtain ⟨r16, e17, h⟩ := gb h
        refine ec_getP (ci := 9) (j := 4) ⟨rfl, rfl, rfl⟩ g1 e17 rfl ?_
        refine en_aload rfl rfl ?_
        obtain ⟨r18, e19, h⟩ := gb h
        refine ec_getP (ci := 9) (j := 4) ⟨rfl, rfl, rfl⟩ g1 e19 rfl ?_
        refine en_iload rfl rfl ?_
        obtain ⟨g20, h⟩ := gd h
        obtain ⟨⟨q21, C22⟩, e23, h⟩ := gb h
        dsimp only at h
        refine ec_callV1 (k' := 90) (n := 2) (rc := 6) (a := r18) (as := [.int a1]) ⟨rfl, rfl⟩ rfl rfl (Nat.le_of_ble_eq_true rfl) (Nat.le_of_ble_eq_true rfl) (Nat.le_of_ble_eq_true rfl) g20 rfl (t_90 e23) ?_
        refine en_iload rfl rfl ?_
        refine en_aload rfl rfl ?_
        obtain ⟨r24, e25, h⟩ := gb h
        refine ec_getP (ci := 9) (j := 6) ⟨rfl, rfl, rfl⟩ g1 e25 rfl ?_
        obtain ⟨g26, h⟩ := gd h
        obtain ⟨r27, e28, h⟩ := gb h
        refine ec_getP (ci := 7) (j := 0) ⟨rfl, rfl, rfl⟩ g26 e28 rfl ?_
        obtain ⟨g29, h⟩ := gd h
        obtain ⟨⟨q30, C31⟩, e32, h⟩ := gb h
        dsimp only at h
        refine ec_callV0 (k' := 61) (n := 5) (rc := 4) (a := r14) (as := [.ref r16, .ref q21, .int a2, .ref r27]) ⟨rfl, rfl⟩ rfl rfl (Nat.le_of_ble_eq_true rfl) (Nat.le_of_ble_eq_true rfl) (Nat.le_of_ble_eq_true rfl) g29 rfl (t_61 e32) ?_
        refine en_iload rfl rfl ?_
        rcases gi h with ⟨c33, h⟩ | ⟨c33, h⟩
        · refine en_tab_i (t := 24) (by rw [c33]; decide) (by rw [c33]; rfl) rfl ?_
          refine en_aload rfl rfl ?_
          obtain ⟨r36, e37, h⟩ := gb h
          refine ec_getP (ci := 9) (j := 11) ⟨rfl, rfl, rfl⟩ g1 e37 rfl ?_
          obtain ⟨g38, h⟩ := gd h
          refine ec_getI (ci := 4) (j := 4) ⟨rfl, rfl, rfl⟩ g38 rfl ?_
          cases h
          exact en_iret rfl
        ·
          rcases gi h with ⟨c34, h⟩ | ⟨c34, h⟩
          · refine en_tab_i (t := 28) (by rw [c34]; decide) (by rw [c34]; rfl) rfl ?_
            refine en_aload rfl rfl ?_
            obtain ⟨r39, e40, h⟩ := gb h
            refine ec_getP (ci := 9) (j := 11) ⟨rfl, rfl, rfl⟩ g1 e40 rfl ?_
            obtain ⟨g41, h⟩ := gd h
            refine ec_getI (ci := 4) (j := 5) ⟨rfl, rfl, rfl⟩ g41 rfl ?_
            cases h
            exact en_iret rfl
          ·
            rcases gi h with ⟨c35, h⟩ | ⟨c35, h⟩
            · refine en_tab_i (t := 32) (by rw [c35]; decide) (by rw [c35]; rfl) rfl ?_
              refine en_aload rfl rfl ?_
              obtain ⟨r42, e43, h⟩ := gb h
              refine ec_getP (ci := 9) (j := 11) ⟨rfl, rfl, rfl⟩ g1 e43 rfl ?_
              obtain ⟨g44, h⟩ := gd h
              refine ec_getI (ci := 4) (j := 6) ⟨rfl, rfl, rfl⟩ g44 rfl ?_
              cases h
              exact en_iret rfl
            ·
              refine en_tab_o (by have z0 := ne_toInt c33 (v := 0) (by decide); have z1 := ne_toInt c34 (v := 1) (by decide); have z2 := ne_toInt c35 (v := 2) (by decide); omega) rfl ?_
              refine en_aload rfl rfl ?_
              obtain ⟨r45, e46, h⟩ := gb h
              refine ec_getP (ci := 9) (j := 11) ⟨rfl, rfl, rfl⟩ g1 e46 rfl ?_
              obtain ⟨g47, h⟩ := gd h
              refine ec_getI (ci := 4) (j := 1) ⟨rfl, rfl, rfl⟩ g47 rfl ?_
              cases h
              exact en_iret rfl
      · dsimp only at h
        cases h
        exact ec_callSx (k' := 147) (n := 2) (as := [.int a3, .int (4 : Int32)]) rfl rfl rfl (Nat.le_of_ble_eq_true rfl) (Nat.le_of_ble_eq_true rfl) (Nat.le_of_ble_eq_true rfl) rfl (t_147 e12)
    · dsimp only at h
      cases h
      exact ec_callVx (k' := 144) (n := 2) (rc := 9) (a := a0) (as := [.int a2]) ⟨rfl, rfl⟩ rfl rfl (Nat.le_of_ble_eq_true rfl) (Nat.le_of_ble_eq_true rfl) (Nat.le_of_ble_eq_true rfl) g1 rfl (t_144 e8)
  · dsimp only at h
    cases h
    exact ec_callVx (k' := 143) (n := 2) (rc := 9) (a := a0) (as := [.int a1]) ⟨rfl, rfl⟩ rfl rfl (Nat.le_of_ble_eq_true rfl) (Nat.le_of_ble_eq_true rfl) (Nat.le_of_ble_eq_true rfl) g1 rfl (t_143 e4)
/-- BulkWriter.goes(IIII)I -/
def f_126 (n : Nat) (a0 : Nat) (a1 : Int32) (a2 : Int32) (a3 : Int32) (a4 : Int32) (C : AmC) : Option ((Int32 ⊕ Nat) × AmC) := if isK a0 9 = true then (f_143 n a0 a1 C).bind (fun z => match z with | (.inl _, C3) => (f_144 n a0 a2 C3).bind (fun z => match z with | (.inl _, C7) => (f_147 n a3 (4 : Int32) C7).bind (fun z => match z with | (.inl _, C11) => (f_147 n a4 (4 : Int32) C11).bind (fun z => match z with | (.inl _, C15) => (cP C15 a0 10).bind (fun r18 => (cP C15 a0 4).bind (fun r20 => (cP C15 a0 6).bind (fun r22 => if isK r22 7 = true then (cP C15 r22 0).bind (fun r25 => if isK r18 3 = true then (f_45 n r18 r20 a1 a2 a3 r25 C15).bind (fun z => match z with | (_, C29) => (if a4 = (0 : Int32) then (cP C29 a0 6).bind (fun r34 => if isK r34 7 = true then (cP C29 r34 0).bind (fun r37 => (f_151 n a0 a1 r37 C29).bind (fun z => match z with | (_, C40) => (cP C40 a0 9).bind (fun r42 => if isK r42 3 = true then (cP C40 r42 0).bind (fun r45 => (cP C40 a0 10).bind (fun r47 => if isK r47 3 = true then (cP C40 r47 0).bind (fun r50 => (cP C40 a0 4).bind (fun r52 => if isK r52 6 = true then if isK r45 5 = true then (f_83 n r45 r50 (cI C40 r52 0) C40).bind (fun z => match z with | (q56, C57) => some (.inl q56, C57)) else none else none)) else none)) else none))) else none) else if a4 = (1 : Int32) then (cP C29 a0 10).bind (fun r59 => if isK r59 3 = true then (f_46 n r59 C29).bind (fun z => match z with | (q62, C63) => some (.inl q62, C63)) else none) else if a4 = (2 : Int32) then (cP C29 a0 10).bind (fun r65 => if isK r65 3 = true then some (.inl (cI C29 r65 10), C29) else none) else (cP C29 a0 10).bind (fun r68 => if isK r68 3 = true then (f_47 n r68 C29).bind (fun z => match z with | (q71, C72) => some (.inl q71, C72)) else none))) else none) else none))) | (.inr x17, C15) => some (.inr x17, C15)) | (.inr x13, C11) => some (.inr x13, C11)) | (.inr x9, C7) => some (.inr x9, C7)) | (.inr x5, C3) => some (.inr x5, C3)) else none
set_option maxRecDepth 20000 in
set_option maxHeartbeats 4000000 in
theorem t_126 {n : Nat} {a0 : Nat} {a1 : Int32} {a2 : Int32} {a3 : Int32} {a4 : Int32} {C : AmC} {r : (Int32 ⊕ Nat)} {C' : AmC} (h : f_126 n a0 a1 a2 a3 a4 C = some (r, C')) : En false 126 0 [(0, .ref a0), (1, .int a1), (2, .int a2), (3, .int a3), (4, .int a4)] [] (mkM C) (ovI r) (mkM C') := by
  unfold f_126 at h
  refine en_aload rfl rfl ?_
  refine en_iload rfl rfl ?_
  obtain ⟨g1, h⟩ := gd h
  obtain ⟨⟨q2, C3⟩, e4, h⟩ := gb h
  rcases q2 with q2 | x5
  · dsimp only at h
    refine ec_callV0 (k' := 143) (n := 2) (rc := 9) (a := a0) (as := [.int a1]) ⟨rfl, rfl⟩ rfl rfl (Nat.le_of_ble_eq_true rfl) (Nat.le_of_ble_eq_true rfl) (Nat.le_of_ble_eq_true rfl) g1 rfl (t_143 e4) ?_
    refine en_aload rfl rfl ?_
    refine en_iload rfl rfl ?_
    obtain ⟨⟨q6, C7⟩, e8, h⟩ := gb h
    rcases q6 with q6 | x9
    · dsimp only at h
      refine ec_callV0 (k' := 144) (n := 2) (rc := 9) (a := a0) (as := [.int a2]) ⟨rfl, rfl⟩ rfl rfl (Nat.le_of_ble_eq_true rfl) (Nat.le_of_ble_eq_true rfl) (Nat.le_of_ble_eq_true rfl) g1 rfl (t_144 e8) ?_
      refine en_iload rfl rfl ?_
      refine ec_iconst cst_4 rfl ?_
      obtain ⟨⟨q10, C11⟩, e12, h⟩ := gb h
      rcases q10 with q10 | x13
      · dsimp only at h
        refine ec_callS0 (k' := 147) (n := 2) (as := [.int a3, .int (4 : Int32)]) rfl rfl rfl (Nat.le_of_ble_eq_true rfl) (Nat.le_of_ble_eq_true rfl) (Nat.le_of_ble_eq_true rfl) rfl (t_147 e12) ?_
        refine en_iload rfl rfl ?_
        refine ec_iconst cst_4 rfl ?_
        obtain ⟨⟨q14, C15⟩, e16, h⟩ := gb h
        rcases q14 with q14 | x17
        · dsimp only at h
          refine ec_callS0 (k' := 147) (n := 2) (as := [.int a4, .int (4 : Int32)]) rfl rfl rfl (Nat.le_of_ble_eq_true rfl) (Nat.le_of_ble_eq_true rfl) (Nat.le_of_ble_eq_true rfl) rfl (t_147 e16) ?_
          refine en_aload rfl rfl ?_
          obtain ⟨r18, e19, h⟩ := gb h
          refine ec_getP (ci := 9) (j := 10) ⟨rfl, rfl, rfl⟩ g1 e19 rfl ?_
          refine en_aload rfl rfl ?_
          obtain ⟨r20, e21, h⟩ := gb h
          refine ec_getP (ci := 9) (j := 4) ⟨rfl, rfl, rfl⟩ g1 e21 rfl ?_
          refine en_iload rfl rfl ?_
          refine en_iload rfl rfl ?_
          refine en_iload rfl rfl ?_
          refine en_aload rfl rfl ?_
          obtain ⟨r22, e23, h⟩ := gb h
          refine ec_getP (ci := 9) (j := 6) ⟨rfl, rfl, rfl⟩ g1 e23 rfl ?_
          obtain ⟨g24, h⟩ := gd h
          obtain ⟨r25, e26, h⟩ := gb h
          refine ec_getP (ci := 7) (j := 0) ⟨rfl, rfl, rfl⟩ g24 e26 rfl ?_
          obtain ⟨g27, h⟩ := gd h
          obtain ⟨⟨q28, C29⟩, e30, h⟩ := gb h
          dsimp only at h
          refine ec_callV0 (k' := 45) (n := 6) (rc := 3) (a := r18) (as := [.ref r20, .int a1, .int a2, .int a3, .ref r25]) ⟨rfl, rfl⟩ rfl rfl (Nat.le_of_ble_eq_true rfl) (Nat.le_of_ble_eq_true rfl) (Nat.le_of_ble_eq_true rfl) g27 rfl (t_45 e30) ?_
          refine en_iload rfl rfl ?_
          rcases gi h with ⟨c31, h⟩ | ⟨c31, h⟩
          · refine en_tab_i (t := 25) (by rw [c31]; decide) (by rw [c31]; rfl) rfl ?_
            refine en_aload rfl rfl ?_
            refine en_iload rfl rfl ?_
            refine en_aload rfl rfl ?_
            obtain ⟨r34, e35, h⟩ := gb h
            refine ec_getP (ci := 9) (j := 6) ⟨rfl, rfl, rfl⟩ g1 e35 rfl ?_
            obtain ⟨g36, h⟩ := gd h
            obtain ⟨r37, e38, h⟩ := gb h
            refine ec_getP (ci := 7) (j := 0) ⟨rfl, rfl, rfl⟩ g36 e38 rfl ?_
            obtain ⟨⟨q39, C40⟩, e41, h⟩ := gb h
            dsimp only at h
            refine ec_callV0 (k' := 151) (n := 3) (rc := 9) (a := a0) (as := [.int a1, .ref r37]) ⟨rfl, rfl⟩ rfl rfl (Nat.le_of_ble_eq_true rfl) (Nat.le_of_ble_eq_true rfl) (Nat.le_of_ble_eq_true rfl) g1 rfl (t_151 e41) ?_
            refine en_aload rfl rfl ?_
            obtain ⟨r42, e43, h⟩ := gb h
            refine ec_getP (ci := 9) (j := 9) ⟨rfl, rfl, rfl⟩ g1 e43 rfl ?_
            obtain ⟨g44, h⟩ := gd h
            obtain ⟨r45, e46, h⟩ := gb h
            refine ec_getP (ci := 3) (j := 0) ⟨rfl, rfl, rfl⟩ g44 e46 rfl ?_
            refine en_aload rfl rfl ?_
            obtain ⟨r47, e48, h⟩ := gb h
            refine ec_getP (ci := 9) (j := 10) ⟨rfl, rfl, rfl⟩ g1 e48 rfl ?_
            obtain ⟨g49, h⟩ := gd h
            obtain ⟨r50, e51, h⟩ := gb h
            refine ec_getP (ci := 3) (j := 0) ⟨rfl, rfl, rfl⟩ g49 e51 rfl ?_
            refine en_aload rfl rfl ?_
            obtain ⟨r52, e53, h⟩ := gb h
            refine ec_getP (ci := 9) (j := 4) ⟨rfl, rfl, rfl⟩ g1 e53 rfl ?_
            obtain ⟨g54, h⟩ := gd h
            refine ec_getI (ci := 6) (j := 0) ⟨rfl, rfl, rfl⟩ g54 rfl ?_
            obtain ⟨g55, h⟩ := gd h
            obtain ⟨⟨q56, C57⟩, e58, h⟩ := gb h
            dsimp only at h
            refine ec_callV1 (k' := 83) (n := 3) (rc := 5) (a := r45) (as := [.ref r50, .int (cI C40 r52 0)]) ⟨rfl, rfl⟩ rfl rfl (Nat.le_of_ble_eq_true rfl) (Nat.le_of_ble_eq_true rfl) (Nat.le_of_ble_eq_true rfl) g55 rfl (t_83 e58) ?_
            cases h
            exact en_iret rfl
          ·
            rcases gi h with ⟨c32, h⟩ | ⟨c32, h⟩
            · refine en_tab_i (t := 42) (by rw [c32]; decide) (by rw [c32]; rfl) rfl ?_
              refine en_aload rfl rfl ?_
              obtain ⟨r59, e60, h⟩ := gb h
              refine ec_getP (ci := 9) (j := 10) ⟨rfl, rfl, rfl⟩ g1 e60 rfl ?_
              obtain ⟨g61, h⟩ := gd h
              obtain ⟨⟨q62, C63⟩, e64, h⟩ := gb h
              dsimp only at h
              refine ec_callV1 (k' := 46) (n := 1) (rc := 3) (a := r59) (as := []) ⟨rfl, rfl⟩ rfl rfl (Nat.le_of_ble_eq_true rfl) (Nat.le_of_ble_eq_true rfl) (Nat.le_of_ble_eq_true rfl) g61 rfl (t_46 e64) ?_
              cases h
              exact en_iret rfl
            ·
              rcases gi h with ⟨c33, h⟩ | ⟨c33, h⟩
              · refine en_tab_i (t := 46) (by rw [c33]; decide) (by rw [c33]; rfl) rfl ?_
                refine en_aload rfl rfl ?_
                obtain ⟨r65, e66, h⟩ := gb h
                refine ec_getP (ci := 9) (j := 10) ⟨rfl, rfl, rfl⟩ g1 e66 rfl ?_
                obtain ⟨g67, h⟩ := gd h
                refine ec_getI (ci := 3) (j := 10) ⟨rfl, rfl, rfl⟩ g67 rfl ?_
                cases h
                exact en_iret rfl
              ·
                refine en_tab_o (by have z0 := ne_toInt c31 (v := 0) (by decide); have z1 := ne_toInt c32 (v := 1) (by decide); have z2 := ne_toInt c33 (v := 2) (by decide); omega) rfl ?_
                refine en_aload rfl rfl ?_
                obtain ⟨r68, e69, h⟩ := gb h
                refine ec_getP (ci := 9) (j := 10) ⟨rfl, rfl, rfl⟩ g1 e69 rfl ?_
                obtain ⟨g70, h⟩ := gd h
                obtain ⟨⟨q71, C72⟩, e73, h⟩ := gb h
                dsimp only at h
                refine ec_callV1 (k' := 47) (n := 1) (rc := 3) (a := r68) (as := []) ⟨rfl, rfl⟩ rfl rfl (Nat.le_of_ble_eq_true rfl) (Nat.le_of_ble_eq_true rfl) (Nat.le_of_ble_eq_true rfl) g70 rfl (t_47 e73) ?_
                cases h
                exact en_iret rfl
        · dsimp only at h
          cases h
          exact ec_callSx (k' := 147) (n := 2) (as := [.int a4, .int (4 : Int32)]) rfl rfl rfl (Nat.le_of_ble_eq_true rfl) (Nat.le_of_ble_eq_true rfl) (Nat.le_of_ble_eq_true rfl) rfl (t_147 e16)
      · dsimp only at h
        cases h
        exact ec_callSx (k' := 147) (n := 2) (as := [.int a3, .int (4 : Int32)]) rfl rfl rfl (Nat.le_of_ble_eq_true rfl) (Nat.le_of_ble_eq_true rfl) (Nat.le_of_ble_eq_true rfl) rfl (t_147 e12)
    · dsimp only at h
      cases h
      exact ec_callVx (k' := 144) (n := 2) (rc := 9) (a := a0) (as := [.int a2]) ⟨rfl, rfl⟩ rfl rfl (Nat.le_of_ble_eq_true rfl) (Nat.le_of_ble_eq_true rfl) (Nat.le_of_ble_eq_true rfl) g1 rfl (t_144 e8)
  · dsimp only at h
    cases h
    exact ec_callVx (k' := 143) (n := 2) (rc := 9) (a := a0) (as := [.int a1]) ⟨rfl, rfl⟩ rfl rfl (Nat.le_of_ble_eq_true rfl) (Nat.le_of_ble_eq_true rfl) (Nat.le_of_ble_eq_true rfl) g1 rfl (t_143 e4)
def lp_127_13 : Nat → Nat → Int32 → Int32 → Int32 → AmC → Option (((Int32)) × AmC)
  | 0, _, _, _, _, _ => none
  | n + 1, p0, p1, p2, p3, C => if isK p0 9 = true then (cP C p0 4).bind (fun r15 => if isK r15 6 = true then (f_87 n r15 C).bind (fun z => match z with | (q18, C19) => (if q18 ≤ p3 then some (p2, C19) else (cP C19 p0 10).bind (fun r22 => (cP C19 p0 4).bind (fun r24 => (cP C19 p0 6).bind (fun r26 => if isK r26 7 = true then (cP C19 r26 0).bind (fun r29 => if isK r22 3 = true then (f_45 n r22 r24 p1 p3 (0 : Int32) r29 C19).bind (fun z => match z with | (_, C33) => (cP C33 p0 10).bind (fun r35 => if isK r35 3 = true then (f_46 n r35 C33).bind (fun z => match z with | (q38, C39) => (cP C39 p0 9).bind (fun r41 => if isK r41 3 = true then (f_46 n r41 C39).bind (fun z => match z with | (q44, C45) => (if ¬ q38 = q44 then lp_127_13 n p0 p1 (p2 ||| ((1 : Int32) <<< (p3 &&& 31))) (p3 + (1 : Int32)) C45 else (cP C45 p0 9).bind (fun r48 => if isK r48 3 = true then (cP C45 r48 0).bind (fun r51 => (cP C45 p0 10).bind (fun r53 => if isK r53 3 = true then (cP C45 r53 0).bind (fun r56 => (cP C45 p0 4).bind (fun r58 => if isK r58 6 = true then if isK r51 5 = true then (f_83 n r51 r56 (cI C45 r58 0) C45).bind (fun z => match z with | (q62, C63) => (if q62 ≤ 0 then lp_127_13 n p0 p1 p2 (p3 + (1 : Int32)) C63 else lp_127_13 n p0 p1 (p2 ||| ((1 : Int32) <<< (p3 &&& 31))) (p3 + (1 : Int32)) C63)) else none else none)) else none)) else none))) else none)) else none)) else none) else none))))) else none) else none
set_option maxRecDepth 20000 in
set_option maxHeartbeats 4000000 in
theorem lt_127_13 : ∀ (n : Nat) (p0 : Nat) (p1 : Int32) (p2 : Int32) (p3 : Int32) (C : AmC) (r : ((Int32)) × AmC), lp_127_13 n p0 p1 p2 p3 C = some r → ∀ (o : AmO) (M' : AmM), (match r with
        | (w2, C') => En false 127 55 [(2, .int w2)] [] (mkM C') o M') → En false 127 13 [(0, .ref p0), (1, .int p1), (2, .int p2), (3, .int p3)] [] (mkM C) o M' := by
  intro n
  induction n with
  | zero => intro p0 p1 p2 p3 C r h; cases h
  | succ n ih =>
    intro p0 p1 p2 p3 C r h o M' hk
    unfold lp_127_13 at h
    refine en_iload rfl rfl ?_
    refine en_aload rfl rfl ?_
    obtain ⟨g14, h⟩ := gd h
    obtain ⟨r15, e16, h⟩ := gb h
    refine ec_getP (ci := 9) (j := 4) ⟨rfl, rfl, rfl⟩ g14 e16 rfl ?_
    obtain ⟨g17, h⟩ := gd h
    obtain ⟨⟨q18, C19⟩, e20, h⟩ := gb h
    dsimp only at h
    refine ec_callV1 (k' := 87) (n := 1) (rc := 6) (a := r15) (as := []) ⟨rfl, rfl⟩ rfl rfl (Nat.le_of_ble_eq_true rfl) (Nat.le_of_ble_eq_true rfl) (Nat.le_of_ble_eq_true rfl) g17 rfl (t_87 e20) ?_
    rcases gi h with ⟨c21, h⟩ | ⟨c21, h⟩
    · refine en_icmp_ge_t c21 rfl ?_
      cases h
      exact en_sub [2] rfl rfl hk
    · refine en_icmp_ge_f c21 rfl ?_
      refine en_aload rfl rfl ?_
      obtain ⟨r22, e23, h⟩ := gb h
      refine ec_getP (ci := 9) (j := 10) ⟨rfl, rfl, rfl⟩ g14 e23 rfl ?_
      refine en_aload rfl rfl ?_
      obtain ⟨r24, e25, h⟩ := gb h
      refine ec_getP (ci := 9) (j := 4) ⟨rfl, rfl, rfl⟩ g14 e25 rfl ?_
      refine en_iload rfl rfl ?_
      refine en_iload rfl rfl ?_
      refine ec_iconst cst_0 rfl ?_
      refine en_aload rfl rfl ?_
      obtain ⟨r26, e27, h⟩ := gb h
      refine ec_getP (ci := 9) (j := 6) ⟨rfl, rfl, rfl⟩ g14 e27 rfl ?_
      obtain ⟨g28, h⟩ := gd h
      obtain ⟨r29, e30, h⟩ := gb h
      refine ec_getP (ci := 7) (j := 0) ⟨rfl, rfl, rfl⟩ g28 e30 rfl ?_
      obtain ⟨g31, h⟩ := gd h
      obtain ⟨⟨q32, C33⟩, e34, h⟩ := gb h
      dsimp only at h
      refine ec_callV0 (k' := 45) (n := 6) (rc := 3) (a := r22) (as := [.ref r24, .int p1, .int p3, .int (0 : Int32), .ref r29]) ⟨rfl, rfl⟩ rfl rfl (Nat.le_of_ble_eq_true rfl) (Nat.le_of_ble_eq_true rfl) (Nat.le_of_ble_eq_true rfl) g31 rfl (t_45 e34) ?_
      refine en_aload rfl rfl ?_
      obtain ⟨r35, e36, h⟩ := gb h
      refine ec_getP (ci := 9) (j := 10) ⟨rfl, rfl, rfl⟩ g14 e36 rfl ?_
      obtain ⟨g37, h⟩ := gd h
      obtain ⟨⟨q38, C39⟩, e40, h⟩ := gb h
      dsimp only at h
      refine ec_callV1 (k' := 46) (n := 1) (rc := 3) (a := r35) (as := []) ⟨rfl, rfl⟩ rfl rfl (Nat.le_of_ble_eq_true rfl) (Nat.le_of_ble_eq_true rfl) (Nat.le_of_ble_eq_true rfl) g37 rfl (t_46 e40) ?_
      refine en_aload rfl rfl ?_
      obtain ⟨r41, e42, h⟩ := gb h
      refine ec_getP (ci := 9) (j := 9) ⟨rfl, rfl, rfl⟩ g14 e42 rfl ?_
      obtain ⟨g43, h⟩ := gd h
      obtain ⟨⟨q44, C45⟩, e46, h⟩ := gb h
      dsimp only at h
      refine ec_callV1 (k' := 46) (n := 1) (rc := 3) (a := r41) (as := []) ⟨rfl, rfl⟩ rfl rfl (Nat.le_of_ble_eq_true rfl) (Nat.le_of_ble_eq_true rfl) (Nat.le_of_ble_eq_true rfl) g43 rfl (t_46 e46) ?_
      rcases gi h with ⟨c47, h⟩ | ⟨c47, h⟩
      · refine en_icmp_ne_t c47 rfl ?_
        refine en_iload rfl rfl ?_
        refine ec_iconst cst_1 rfl ?_
        refine en_iload rfl rfl ?_
        refine en_ishl rfl ?_
        refine en_ior rfl ?_
        refine en_istore (l' := [(2, .int (p2 ||| ((1 : Int32) <<< (p3 &&& 31)))), (0, .ref p0), (1, .int p1), (3, .int p3)]) rfl rfl ?_
        refine ec_iinc (l' := [(3, .int (p3 + (1 : Int32))), (2, .int (p2 ||| ((1 : Int32) <<< (p3 &&& 31)))), (0, .ref p0), (1, .int p1)]) rfl cst_1 rfl rfl ?_
        refine en_goto rfl ?_
        refine en_sub [2, 3, 1, 0] rfl rfl ?_
        exact ih _ _ _ _ _ _ h o M' hk
      · refine en_icmp_ne_f c47 rfl ?_
        refine en_aload rfl rfl ?_
        obtain ⟨r48, e49, h⟩ := gb h
        refine ec_getP (ci := 9) (j := 9) ⟨rfl, rfl, rfl⟩ g14 e49 rfl ?_
        obtain ⟨g50, h⟩ := gd h
        obtain ⟨r51, e52, h⟩ := gb h
        refine ec_getP (ci := 3) (j := 0) ⟨rfl, rfl, rfl⟩ g50 e52 rfl ?_
        refine en_aload rfl rfl ?_
        obtain ⟨r53, e54, h⟩ := gb h
        refine ec_getP (ci := 9) (j := 10) ⟨rfl, rfl, rfl⟩ g14 e54 rfl ?_
        obtain ⟨g55, h⟩ := gd h
        obtain ⟨r56, e57, h⟩ := gb h
        refine ec_getP (ci := 3) (j := 0) ⟨rfl, rfl, rfl⟩ g55 e57 rfl ?_
        refine en_aload rfl rfl ?_
        obtain ⟨r58, e59, h⟩ := gb h
        refine ec_getP (ci := 9) (j := 4) ⟨rfl, rfl, rfl⟩ g14 e59 rfl ?_
        obtain ⟨g60, h⟩ := gd h
        refine ec_getI (ci := 6) (j := 0) ⟨rfl, rfl, rfl⟩ g60 rfl ?_
        obtain ⟨g61, h⟩ := gd h
        obtain ⟨⟨q62, C63⟩, e64, h⟩ := gb h
        dsimp only at h
        refine ec_callV1 (k' := 83) (n := 3) (rc := 5) (a := r51) (as := [.ref r56, .int (cI C45 r58 0)]) ⟨rfl, rfl⟩ rfl rfl (Nat.le_of_ble_eq_true rfl) (Nat.le_of_ble_eq_true rfl) (Nat.le_of_ble_eq_true rfl) g61 rfl (t_83 e64) ?_
        rcases gi h with ⟨c65, h⟩ | ⟨c65, h⟩
        · refine en_if_le_t c65 rfl ?_
          refine ec_iinc (l' := [(3, .int (p3 + (1 : Int32))), (0, .ref p0), (1, .int p1), (2, .int p2)]) rfl cst_1 rfl rfl ?_
          refine en_goto rfl ?_
          refine en_sub [1, 2, 3, 0] rfl rfl ?_
          exact ih _ _ _ _ _ _ h o M' hk
        · refine en_if_le_f c65 rfl ?_
          refine en_iload rfl rfl ?_
          refine ec_iconst cst_1 rfl ?_
          refine en_iload rfl rfl ?_
          refine en_ishl rfl ?_
          refine en_ior rfl ?_
          refine en_istore (l' := [(2, .int (p2 ||| ((1 : Int32) <<< (p3 &&& 31)))), (0, .ref p0), (1, .int p1), (3, .int p3)]) rfl rfl ?_
          refine ec_iinc (l' := [(3, .int (p3 + (1 : Int32))), (2, .int (p2 ||| ((1 : Int32) <<< (p3 &&& 31)))), (0, .ref p0), (1, .int p1)]) rfl cst_1 rfl rfl ?_
          refine en_goto rfl ?_
          refine en_sub [2, 3, 1, 0] rfl rfl ?_
          exact ih _ _ _ _ _ _ h o M' hk
/-- BulkWriter.wrongPaths(I)I -/
def f_127 (n : Nat) (a0 : Nat) (a1 : Int32) (C : AmC) : Option ((Int32 ⊕ Nat) × AmC) := if isK a0 9 = true then (f_143 n a0 a1 C).bind (fun z => match z with | (.inl _, C3) => (cP C3 a0 6).bind (fun r6 => if isK r6 7 = true then (cP C3 r6 0).bind (fun r9 => (f_151 n a0 a1 r9 C3).bind (fun z => match z with | (_, C12) => (lp_127_13 n a0 a1 (0 : Int32) (0 : Int32) C12).bind (fun q => match q with | (u69, C68) => some (.inl u69, C68)))) else none) | (.inr x5, C3) => some (.inr x5, C3)) else none
set_option maxRecDepth 20000 in
set_option maxHeartbeats 4000000 in
theorem t_127 {n : Nat} {a0 : Nat} {a1 : Int32} {C : AmC} {r : (Int32 ⊕ Nat)} {C' : AmC} (h : f_127 n a0 a1 C = some (r, C')) : En false 127 0 [(0, .ref a0), (1, .int a1)] [] (mkM C) (ovI r) (mkM C') := by
  unfold f_127 at h
  refine en_aload rfl rfl ?_
  refine en_iload rfl rfl ?_
  obtain ⟨g1, h⟩ := gd h
  obtain ⟨⟨q2, C3⟩, e4, h⟩ := gb h
  rcases q2 with q2 | x5
  · dsimp only at h
    refine ec_callV0 (k' := 143) (n := 2) (rc := 9) (a := a0) (as := [.int a1]) ⟨rfl, rfl⟩ rfl rfl (Nat.le_of_ble_eq_true rfl) (Nat.le_of_ble_eq_true rfl) (Nat.le_of_ble_eq_true rfl) g1 rfl (t_143 e4) ?_
    refine en_aload rfl rfl ?_
    refine en_iload rfl rfl ?_
    refine en_aload rfl rfl ?_
    obtain ⟨r6, e7, h⟩ := gb h
    refine ec_getP (ci := 9) (j := 6) ⟨rfl, rfl, rfl⟩ g1 e7 rfl ?_
    obtain ⟨g8, h⟩ := gd h
    obtain ⟨r9, e10, h⟩ := gb h
    refine ec_getP (ci := 7) (j := 0) ⟨rfl, rfl, rfl⟩ g8 e10 rfl ?_
    obtain ⟨⟨q11, C12⟩, e13, h⟩ := gb h
    dsimp only at h
    refine ec_callV0 (k' := 151) (n := 3) (rc := 9) (a := a0) (as := [.int a1, .ref r9]) ⟨rfl, rfl⟩ rfl rfl (Nat.le_of_ble_eq_true rfl) (Nat.le_of_ble_eq_true rfl) (Nat.le_of_ble_eq_true rfl) g1 rfl (t_151 e13) ?_
    refine ec_iconst cst_0 rfl ?_
    refine en_istore (l' := [(2, .int (0 : Int32)), (0, .ref a0), (1, .int a1)]) rfl rfl ?_
    refine ec_iconst cst_0 rfl ?_
    refine en_istore (l' := [(3, .int (0 : Int32)), (2, .int (0 : Int32)), (0, .ref a0), (1, .int a1)]) rfl rfl ?_
    obtain ⟨⟨q66, C68⟩, e67, h⟩ := gb h
    refine en_sub [2, 3, 1, 0] rfl rfl (lt_127_13 n _ _ _ _ _ _ e67 _ _ ?_)
    revert h e67; revert q66; intro u69 e67 h
    dsimp only at h ⊢
    refine en_iload rfl rfl ?_
    cases h
    exact en_iret rfl
  · dsimp only at h
    cases h
    exact ec_callVx (k' := 143) (n := 2) (rc := 9) (a := a0) (as := [.int a1]) ⟨rfl, rfl⟩ rfl rfl (Nat.le_of_ble_eq_true rfl) (Nat.le_of_ble_eq_true rfl) (Nat.le_of_ble_eq_true rfl) g1 rfl (t_143 e4)
def lp_128_12 : Nat → Nat → Int32 → Int32 → Int32 → Int32 → Int32 → AmC → Option (((Int32 × Int32 × Int32)) × AmC)
  | 0, _, _, _, _, _, _, _ => none
  | n + 1, p0, p1, p2, p3, p4, p5, C => if isK p0 9 = true then (cP C p0 4).bind (fun r11 => if isK r11 6 = true then (f_87 n r11 C).bind (fun z => match z with | (q14, C15) => (if q14 ≤ p5 then some ((p2, p3, p4), C15) else (cP C15 p0 11).bind (fun r18 => (cP C15 p0 4).bind (fun r20 => (cP C15 p0 4).bind (fun r22 => if isK r22 6 = true then (f_90 n r22 p1 C15).bind (fun z => match z with | (q25, C26) => (cP C26 p0 6).bind (fun r28 => if isK r28 7 = true then (cP C26 r28 0).bind (fun r31 => if isK r18 4 = true then (f_61 n r18 r20 q25 p5 r31 C26).bind (fun z => match z with | (_, C35) => (cP C35 p0 11).bind (fun r37 => if isK r37 4 = true then (cP C35 p0 11).bind (fun r40 => if isK r40 4 = true then (if p5 = 0 then lp_128_12 n p0 p1 p2 p5 ((cI C35 r37 1) + (cI C35 r40 6)) (p5 + (1 : Int32)) C35 else (if p4 ≤ ((cI C35 r37 1) + (cI C35 r40 6)) then lp_128_12 n p0 p1 p2 p3 p4 (p5 + (1 : Int32)) C35 else lp_128_12 n p0 p1 p2 p5 ((cI C35 r37 1) + (cI C35 r40 6)) (p5 + (1 : Int32)) C35)) else none) else none)) else none) else none)) else none))))) else none) else none
set_option maxRecDepth 20000 in
set_option maxHeartbeats 4000000 in
theorem lt_128_12 : ∀ (n : Nat) (p0 : Nat) (p1 : Int32) (p2 : Int32) (p3 : Int32) (p4 : Int32) (p5 : Int32) (C : AmC) (r : ((Int32 × Int32 × Int32)) × AmC), lp_128_12 n p0 p1 p2 p3 p4 p5 C = some r → ∀ (o : AmO) (M' : AmM), (match r with
        | ((w2, w3, w4), C') => En false 128 49 [(2, .int w2), (3, .int w3), (4, .int w4)] [] (mkM C') o M') → En false 128 12 [(0, .ref p0), (1, .int p1), (2, .int p2), (3, .int p3), (4, .int p4), (5, .int p5)] [] (mkM C) o M' := by
  intro n
  induction n with
  | zero => intro p0 p1 p2 p3 p4 p5 C r h; cases h
  | succ n ih =>
    intro p0 p1 p2 p3 p4 p5 C r h o M' hk
    unfold lp_128_12 at h
    refine en_iload rfl rfl ?_
    refine en_aload rfl rfl ?_
    obtain ⟨g10, h⟩ := gd h
    obtain ⟨r11, e12, h⟩ := gb h
    refine ec_getP (ci := 9) (j := 4) ⟨rfl, rfl, rfl⟩ g10 e12 rfl ?_
    obtain ⟨g13, h⟩ := gd h
    obtain ⟨⟨q14, C15⟩, e16, h⟩ := gb h
    dsimp only at h
    refine ec_callV1 (k' := 87) (n := 1) (rc := 6) (a := r11) (as := []) ⟨rfl, rfl⟩ rfl rfl (Nat.le_of_ble_eq_true rfl) (Nat.le_of_ble_eq_true rfl) (Nat.le_of_ble_eq_true rfl) g13 rfl (t_87 e16) ?_
    rcases gi h with ⟨c17, h⟩ | ⟨c17, h⟩
    · refine en_icmp_ge_t c17 rfl ?_
      cases h
      exact en_sub [2, 3, 4] rfl rfl hk
    · refine en_icmp_ge_f c17 rfl ?_
      refine en_aload rfl rfl ?_
      obtain ⟨r18, e19, h⟩ := gb h
      refine ec_getP (ci := 9) (j := 11) ⟨rfl, rfl, rfl⟩ g10 e19 rfl ?_
      refine en_aload rfl rfl ?_
      obtain ⟨r20, e21, h⟩ := gb h
      refine ec_getP (ci := 9) (j := 4) ⟨rfl, rfl, rfl⟩ g10 e21 rfl ?_
      refine en_aload rfl rfl ?_
      obtain ⟨r22, e23, h⟩ := gb h
      refine ec_getP (ci := 9) (j := 4) ⟨rfl, rfl, rfl⟩ g10 e23 rfl ?_
      refine en_iload rfl rfl ?_
      obtain ⟨g24, h⟩ := gd h
      obtain ⟨⟨q25, C26⟩, e27, h⟩ := gb h
      dsimp only at h
      refine ec_callV1 (k' := 90) (n := 2) (rc := 6) (a := r22) (as := [.int p1]) ⟨rfl, rfl⟩ rfl rfl (Nat.le_of_ble_eq_true rfl) (Nat.le_of_ble_eq_true rfl) (Nat.le_of_ble_eq_true rfl) g24 rfl (t_90 e27) ?_
      refine en_iload rfl rfl ?_
      refine en_aload rfl rfl ?_
      obtain ⟨r28, e29, h⟩ := gb h
      refine ec_getP (ci := 9) (j := 6) ⟨rfl, rfl, rfl⟩ g10 e29 rfl ?_
      obtain ⟨g30, h⟩ := gd h
      obtain ⟨r31, e32, h⟩ := gb h
      refine ec_getP (ci := 7) (j := 0) ⟨rfl, rfl, rfl⟩ g30 e32 rfl ?_
      obtain ⟨g33, h⟩ := gd h
      obtain ⟨⟨q34, C35⟩, e36, h⟩ := gb h
      dsimp only at h
      refine ec_callV0 (k' := 61) (n := 5) (rc := 4) (a := r18) (as := [.ref r20, .ref q25, .int p5, .ref r31]) ⟨rfl, rfl⟩ rfl rfl (Nat.le_of_ble_eq_true rfl) (Nat.le_of_ble_eq_true rfl) (Nat.le_of_ble_eq_true rfl) g33 rfl (t_61 e36) ?_
      refine en_aload rfl rfl ?_
      obtain ⟨r37, e38, h⟩ := gb h
      refine ec_getP (ci := 9) (j := 11) ⟨rfl, rfl, rfl⟩ g10 e38 rfl ?_
      obtain ⟨g39, h⟩ := gd h
      refine ec_getI (ci := 4) (j := 1) ⟨rfl, rfl, rfl⟩ g39 rfl ?_
      refine en_aload rfl rfl ?_
      obtain ⟨r40, e41, h⟩ := gb h
      refine ec_getP (ci := 9) (j := 11) ⟨rfl, rfl, rfl⟩ g10 e41 rfl ?_
      obtain ⟨g42, h⟩ := gd h
      refine ec_getI (ci := 4) (j := 6) ⟨rfl, rfl, rfl⟩ g42 rfl ?_
      refine en_iadd rfl ?_
      refine en_istore (l' := [(6, .int ((cI C35 r37 1) + (cI C35 r40 6))), (0, .ref p0), (1, .int p1), (2, .int p2), (3, .int p3), (4, .int p4), (5, .int p5)]) rfl rfl ?_
      refine en_iload rfl rfl ?_
      rcases gi h with ⟨c43, h⟩ | ⟨c43, h⟩
      · refine en_if_eq_t c43 rfl ?_
        refine en_iload rfl rfl ?_
        refine en_istore (l' := [(4, .int ((cI C35 r37 1) + (cI C35 r40 6))), (6, .int ((cI C35 r37 1) + (cI C35 r40 6))), (0, .ref p0), (1, .int p1), (2, .int p2), (3, .int p3), (5, .int p5)]) rfl rfl ?_
        refine en_iload rfl rfl ?_
        refine en_istore (l' := [(3, .int p5), (4, .int ((cI C35 r37 1) + (cI C35 r40 6))), (6, .int ((cI C35 r37 1) + (cI C35 r40 6))), (0, .ref p0), (1, .int p1), (2, .int p2), (5, .int p5)]) rfl rfl ?_
        refine ec_iinc (l' := [(5, .int (p5 + (1 : Int32))), (3, .int p5), (4, .int ((cI C35 r37 1) + (cI C35 r40 6))), (6, .int ((cI C35 r37 1) + (cI C35 r40 6))), (0, .ref p0), (1, .int p1), (2, .int p2)]) rfl cst_1 rfl rfl ?_
        refine en_goto rfl ?_
        refine en_sub [4, 5, 6, 1, 2, 0] rfl rfl ?_
        exact ih _ _ _ _ _ _ _ _ h o M' hk
      · refine en_if_eq_f c43 rfl ?_
        refine en_iload rfl rfl ?_
        refine en_iload rfl rfl ?_
        rcases gi h with ⟨c44, h⟩ | ⟨c44, h⟩
        · refine en_icmp_ge_t c44 rfl ?_
          refine ec_iinc (l' := [(5, .int (p5 + (1 : Int32))), (6, .int ((cI C35 r37 1) + (cI C35 r40 6))), (0, .ref p0), (1, .int p1), (2, .int p2), (3, .int p3), (4, .int p4)]) rfl cst_1 rfl rfl ?_
          refine en_goto rfl ?_
          refine en_sub [2, 3, 4, 5, 6, 0] rfl rfl ?_
          exact ih _ _ _ _ _ _ _ _ h o M' hk
        · refine en_icmp_ge_f c44 rfl ?_
          refine en_iload rfl rfl ?_
          refine en_istore (l' := [(4, .int ((cI C35 r37 1) + (cI C35 r40 6))), (6, .int ((cI C35 r37 1) + (cI C35 r40 6))), (0, .ref p0), (1, .int p1), (2, .int p2), (3, .int p3), (5, .int p5)]) rfl rfl ?_
          refine en_iload rfl rfl ?_
          refine en_istore (l' := [(3, .int p5), (4, .int ((cI C35 r37 1) + (cI C35 r40 6))), (6, .int ((cI C35 r37 1) + (cI C35 r40 6))), (0, .ref p0), (1, .int p1), (2, .int p2), (5, .int p5)]) rfl rfl ?_
          refine ec_iinc (l' := [(5, .int (p5 + (1 : Int32))), (3, .int p5), (4, .int ((cI C35 r37 1) + (cI C35 r40 6))), (6, .int ((cI C35 r37 1) + (cI C35 r40 6))), (0, .ref p0), (1, .int p1), (2, .int p2)]) rfl cst_1 rfl rfl ?_
          refine en_goto rfl ?_
          refine en_sub [4, 5, 6, 1, 2, 0] rfl rfl ?_
          exact ih _ _ _ _ _ _ _ _ h o M' hk
/-- BulkWriter.cheapest(II)I -/
def f_128 (n : Nat) (a0 : Nat) (a1 : Int32) (a2 : Int32) (C : AmC) : Option ((Int32 ⊕ Nat) × AmC) := if isK a0 9 = true then (f_143 n a0 a1 C).bind (fun z => match z with | (.inl _, C3) => (f_147 n a2 (2 : Int32) C3).bind (fun z => match z with | (.inl _, C7) => (lp_128_12 n a0 a1 a2 (0 : Int32) (0 : Int32) (0 : Int32) C7).bind (fun q => match q with | ((u48, u49, u50), C47) => (if ¬ u48 = 0 then some (.inl u50, C47) else some (.inl u49, C47))) | (.inr x9, C7) => some (.inr x9, C7)) | (.inr x5, C3) => some (.inr x5, C3)) else none
set_option maxRecDepth 20000 in
set_option maxHeartbeats 4000000 in
theorem t_128 {n : Nat} {a0 : Nat} {a1 : Int32} {a2 : Int32} {C : AmC} {r : (Int32 ⊕ Nat)} {C' : AmC} (h : f_128 n a0 a1 a2 C = some (r, C')) : En false 128 0 [(0, .ref a0), (1, .int a1), (2, .int a2)] [] (mkM C) (ovI r) (mkM C') := by
  unfold f_128 at h
  refine en_aload rfl rfl ?_
  refine en_iload rfl rfl ?_
  obtain ⟨g1, h⟩ := gd h
  obtain ⟨⟨q2, C3⟩, e4, h⟩ := gb h
  rcases q2 with q2 | x5
  · dsimp only at h
    refine ec_callV0 (k' := 143) (n := 2) (rc := 9) (a := a0) (as := [.int a1]) ⟨rfl, rfl⟩ rfl rfl (Nat.le_of_ble_eq_true rfl) (Nat.le_of_ble_eq_true rfl) (Nat.le_of_ble_eq_true rfl) g1 rfl (t_143 e4) ?_
    refine en_iload rfl rfl ?_
    refine ec_iconst cst_2 rfl ?_
    obtain ⟨⟨q6, C7⟩, e8, h⟩ := gb h
    rcases q6 with q6 | x9
    · dsimp only at h
      refine ec_callS0 (k' := 147) (n := 2) (as := [.int a2, .int (2 : Int32)]) rfl rfl rfl (Nat.le_of_ble_eq_true rfl) (Nat.le_of_ble_eq_true rfl) (Nat.le_of_ble_eq_true rfl) rfl (t_147 e8) ?_
      refine ec_iconst cst_0 rfl ?_
      refine en_istore (l' := [(3, .int (0 : Int32)), (0, .ref a0), (1, .int a1), (2, .int a2)]) rfl rfl ?_
      refine ec_iconst cst_0 rfl ?_
      refine en_istore (l' := [(4, .int (0 : Int32)), (3, .int (0 : Int32)), (0, .ref a0), (1, .int a1), (2, .int a2)]) rfl rfl ?_
      refine ec_iconst cst_0 rfl ?_
      refine en_istore (l' := [(5, .int (0 : Int32)), (4, .int (0 : Int32)), (3, .int (0 : Int32)), (0, .ref a0), (1, .int a1), (2, .int a2)]) rfl rfl ?_
      obtain ⟨⟨q45, C47⟩, e46, h⟩ := gb h
      refine en_sub [3, 4, 5, 2, 1, 0] rfl rfl (lt_128_12 n _ _ _ _ _ _ _ _ e46 _ _ ?_)
      obtain ⟨u48, u49, u50⟩ := q45
      dsimp only at h ⊢
      refine en_iload rfl rfl ?_
      rcases gi h with ⟨c51, h⟩ | ⟨c51, h⟩
      · refine en_if_ne_t c51 rfl ?_
        refine en_iload rfl rfl ?_
        cases h
        exact en_iret rfl
      · refine en_if_ne_f c51 rfl ?_
        refine en_iload rfl rfl ?_
        refine en_goto rfl ?_
        cases h
        exact en_iret rfl
    · dsimp only at h
      cases h
      exact ec_callSx (k' := 147) (n := 2) (as := [.int a2, .int (2 : Int32)]) rfl rfl rfl (Nat.le_of_ble_eq_true rfl) (Nat.le_of_ble_eq_true rfl) (Nat.le_of_ble_eq_true rfl) rfl (t_147 e8)
  · dsimp only at h
    cases h
    exact ec_callVx (k' := 143) (n := 2) (rc := 9) (a := a0) (as := [.int a1]) ⟨rfl, rfl⟩ rfl rfl (Nat.le_of_ble_eq_true rfl) (Nat.le_of_ble_eq_true rfl) (Nat.le_of_ble_eq_true rfl) g1 rfl (t_143 e4)
def lp_129_19 : Nat → Nat → Int32 → Int32 → AmC → Option (((Int32)) × AmC)
  | 0, _, _, _, _ => none
  | n + 1, p0, p2, p3, C => if isK p0 9 = true then (cP C p0 9).bind (fun r26 => if isK r26 3 = true then (if ((cI C r26 10) - (1 : Int32)) ≤ p3 then some (p2, C) else (cP C p0 9).bind (fun r30 => (cP C p0 13).bind (fun r32 => if isK r30 3 = true then (f_58 n r30 r32 p3 C).bind (fun z => match z with | (q35, C36) => (cP C36 p0 4).bind (fun r38 => (cP C36 p0 13).bind (fun r40 => if isK r38 6 = true then (f_107 n r38 r40 C36).bind (fun z => match z with | (q43, C44) => (if q43 = (-1 : Int32) then lp_129_19 n p0 p2 (p3 + (1 : Int32)) C44 else lp_129_19 n p0 (p2 + (1 : Int32)) (p3 + (1 : Int32)) C44)) else none))) else none))) else none) else none
set_option maxRecDepth 20000 in
set_option maxHeartbeats 4000000 in
theorem lt_129_19 : ∀ (n : Nat) (p0 : Nat) (p2 : Int32) (p3 : Int32) (C : AmC) (r : ((Int32)) × AmC), lp_129_19 n p0 p2 p3 C = some r → ∀ (o : AmO) (M' : AmM), (match r with
        | (w2, C') => En false 129 43 [(2, .int w2)] [] (mkM C') o M') → En false 129 19 [(0, .ref p0), (2, .int p2), (3, .int p3)] [] (mkM C) o M' := by
  intro n
  induction n with
  | zero => intro p0 p2 p3 C r h; cases h
  | succ n ih =>
    intro p0 p2 p3 C r h o M' hk
    unfold lp_129_19 at h
    refine en_iload rfl rfl ?_
    refine en_aload rfl rfl ?_
    obtain ⟨g25, h⟩ := gd h
    obtain ⟨r26, e27, h⟩ := gb h
    refine ec_getP (ci := 9) (j := 9) ⟨rfl, rfl, rfl⟩ g25 e27 rfl ?_
    obtain ⟨g28, h⟩ := gd h
    refine ec_getI (ci := 3) (j := 10) ⟨rfl, rfl, rfl⟩ g28 rfl ?_
    refine ec_iconst cst_1 rfl ?_
    refine en_isub rfl ?_
    rcases gi h with ⟨c29, h⟩ | ⟨c29, h⟩
    · refine en_icmp_ge_t c29 rfl ?_
      cases h
      exact en_sub [1] rfl rfl hk
    · refine en_icmp_ge_f c29 rfl ?_
      refine en_aload rfl rfl ?_
      obtain ⟨r30, e31, h⟩ := gb h
      refine ec_getP (ci := 9) (j := 9) ⟨rfl, rfl, rfl⟩ g25 e31 rfl ?_
      refine en_aload rfl rfl ?_
      obtain ⟨r32, e33, h⟩ := gb h
      refine ec_getP (ci := 9) (j := 13) ⟨rfl, rfl, rfl⟩ g25 e33 rfl ?_
      refine en_iload rfl rfl ?_
      obtain ⟨g34, h⟩ := gd h
      obtain ⟨⟨q35, C36⟩, e37, h⟩ := gb h
      dsimp only at h
      refine ec_callV1 (k' := 58) (n := 3) (rc := 3) (a := r30) (as := [.ref r32, .int p3]) ⟨rfl, rfl⟩ rfl rfl (Nat.le_of_ble_eq_true rfl) (Nat.le_of_ble_eq_true rfl) (Nat.le_of_ble_eq_true rfl) g34 rfl (t_58 e37) ?_
      refine en_pop rfl rfl ?_
      refine en_aload rfl rfl ?_
      obtain ⟨r38, e39, h⟩ := gb h
      refine ec_getP (ci := 9) (j := 4) ⟨rfl, rfl, rfl⟩ g25 e39 rfl ?_
      refine en_aload rfl rfl ?_
      obtain ⟨r40, e41, h⟩ := gb h
      refine ec_getP (ci := 9) (j := 13) ⟨rfl, rfl, rfl⟩ g25 e41 rfl ?_
      obtain ⟨g42, h⟩ := gd h
      obtain ⟨⟨q43, C44⟩, e45, h⟩ := gb h
      dsimp only at h
      refine ec_callV1 (k' := 107) (n := 2) (rc := 6) (a := r38) (as := [.ref r40]) ⟨rfl, rfl⟩ rfl rfl (Nat.le_of_ble_eq_true rfl) (Nat.le_of_ble_eq_true rfl) (Nat.le_of_ble_eq_true rfl) g42 rfl (t_107 e45) ?_
      refine ec_iconst cst_m1 rfl ?_
      rcases gi h with ⟨c46, h⟩ | ⟨c46, h⟩
      · refine en_icmp_eq_t c46 rfl ?_
        refine ec_iinc (l' := [(3, .int (p3 + (1 : Int32))), (0, .ref p0), (2, .int p2)]) rfl cst_1 rfl rfl ?_
        refine en_goto rfl ?_
        refine en_sub [1, 2, 0] rfl rfl ?_
        exact ih _ _ _ _ _ h o M' hk
      · refine en_icmp_eq_f c46 rfl ?_
        refine ec_iinc (l' := [(2, .int (p2 + (1 : Int32))), (0, .ref p0), (3, .int p3)]) rfl cst_1 rfl rfl ?_
        refine ec_iinc (l' := [(3, .int (p3 + (1 : Int32))), (2, .int (p2 + (1 : Int32))), (0, .ref p0)]) rfl cst_1 rfl rfl ?_
        refine en_goto rfl ?_
        refine en_sub [2, 1, 0] rfl rfl ?_
        exact ih _ _ _ _ _ h o M' hk
/-- BulkWriter.clashes(I)I -/
def f_129 (n : Nat) (a0 : Nat) (a1 : Int32) (C : AmC) : Option ((Int32 ⊕ Nat) × AmC) := if isK a0 9 = true then (f_143 n a0 a1 C).bind (fun z => match z with | (.inl _, C3) => (cP C3 a0 6).bind (fun r6 => if isK r6 7 = true then (cP C3 r6 0).bind (fun r9 => (f_151 n a0 a1 r9 C3).bind (fun z => match z with | (_, C12) => (cP C12 a0 13).bind (fun r14 => (cP C12 a0 6).bind (fun r16 => if isK r16 7 = true then (cP C12 r16 0).bind (fun r19 => if isK r14 5 = true then (f_72 n r14 r19 C12).bind (fun z => match z with | (_, C23) => (lp_129_19 n a0 (0 : Int32) (0 : Int32) C23).bind (fun q => match q with | (u50, C49) => some (.inl u50, C49))) else none) else none)))) else none) | (.inr x5, C3) => some (.inr x5, C3)) else none
set_option maxRecDepth 20000 in
set_option maxHeartbeats 4000000 in
theorem t_129 {n : Nat} {a0 : Nat} {a1 : Int32} {C : AmC} {r : (Int32 ⊕ Nat)} {C' : AmC} (h : f_129 n a0 a1 C = some (r, C')) : En false 129 0 [(0, .ref a0), (1, .int a1)] [] (mkM C) (ovI r) (mkM C') := by
  unfold f_129 at h
  refine en_aload rfl rfl ?_
  refine en_iload rfl rfl ?_
  obtain ⟨g1, h⟩ := gd h
  obtain ⟨⟨q2, C3⟩, e4, h⟩ := gb h
  rcases q2 with q2 | x5
  · dsimp only at h
    refine ec_callV0 (k' := 143) (n := 2) (rc := 9) (a := a0) (as := [.int a1]) ⟨rfl, rfl⟩ rfl rfl (Nat.le_of_ble_eq_true rfl) (Nat.le_of_ble_eq_true rfl) (Nat.le_of_ble_eq_true rfl) g1 rfl (t_143 e4) ?_
    refine en_aload rfl rfl ?_
    refine en_iload rfl rfl ?_
    refine en_aload rfl rfl ?_
    obtain ⟨r6, e7, h⟩ := gb h
    refine ec_getP (ci := 9) (j := 6) ⟨rfl, rfl, rfl⟩ g1 e7 rfl ?_
    obtain ⟨g8, h⟩ := gd h
    obtain ⟨r9, e10, h⟩ := gb h
    refine ec_getP (ci := 7) (j := 0) ⟨rfl, rfl, rfl⟩ g8 e10 rfl ?_
    obtain ⟨⟨q11, C12⟩, e13, h⟩ := gb h
    dsimp only at h
    refine ec_callV0 (k' := 151) (n := 3) (rc := 9) (a := a0) (as := [.int a1, .ref r9]) ⟨rfl, rfl⟩ rfl rfl (Nat.le_of_ble_eq_true rfl) (Nat.le_of_ble_eq_true rfl) (Nat.le_of_ble_eq_true rfl) g1 rfl (t_151 e13) ?_
    refine en_aload rfl rfl ?_
    obtain ⟨r14, e15, h⟩ := gb h
    refine ec_getP (ci := 9) (j := 13) ⟨rfl, rfl, rfl⟩ g1 e15 rfl ?_
    refine en_aload rfl rfl ?_
    obtain ⟨r16, e17, h⟩ := gb h
    refine ec_getP (ci := 9) (j := 6) ⟨rfl, rfl, rfl⟩ g1 e17 rfl ?_
    obtain ⟨g18, h⟩ := gd h
    obtain ⟨r19, e20, h⟩ := gb h
    refine ec_getP (ci := 7) (j := 0) ⟨rfl, rfl, rfl⟩ g18 e20 rfl ?_
    obtain ⟨g21, h⟩ := gd h
    obtain ⟨⟨q22, C23⟩, e24, h⟩ := gb h
    dsimp only at h
    refine ec_callV0 (k' := 72) (n := 2) (rc := 5) (a := r14) (as := [.ref r19]) ⟨rfl, rfl⟩ rfl rfl (Nat.le_of_ble_eq_true rfl) (Nat.le_of_ble_eq_true rfl) (Nat.le_of_ble_eq_true rfl) g21 rfl (t_72 e24) ?_
    refine ec_iconst cst_0 rfl ?_
    refine en_istore (l' := [(2, .int (0 : Int32)), (0, .ref a0), (1, .int a1)]) rfl rfl ?_
    refine ec_iconst cst_0 rfl ?_
    refine en_istore (l' := [(3, .int (0 : Int32)), (2, .int (0 : Int32)), (0, .ref a0), (1, .int a1)]) rfl rfl ?_
    obtain ⟨⟨q47, C49⟩, e48, h⟩ := gb h
    refine en_sub [2, 1, 0] rfl rfl (lt_129_19 n _ _ _ _ _ e48 _ _ ?_)
    revert h e48; revert q47; intro u50 e48 h
    dsimp only at h ⊢
    refine en_iload rfl rfl ?_
    cases h
    exact en_iret rfl
  · dsimp only at h
    cases h
    exact ec_callVx (k' := 143) (n := 2) (rc := 9) (a := a0) (as := [.int a1]) ⟨rfl, rfl⟩ rfl rfl (Nat.le_of_ble_eq_true rfl) (Nat.le_of_ble_eq_true rfl) (Nat.le_of_ble_eq_true rfl) g1 rfl (t_143 e4)
def lp_156_6 : Nat → Nat → Int32 → Int64 → Nat → Int32 → AmC → Option (((Nat × Nat × Int32) ⊕ (Unit)) × AmC)
  | 0, _, _, _, _, _, _ => none
  | n + 1, p0, p1, p2, p4, p5, C => (if p1 ≤ p5 then some ((.inr ()), C) else (if ¬ (lg_cmp (((Int64.toUInt64 p2 >>> ((Int32.toInt64 p5).toUInt64 &&& Int64.toUInt64 63)).toInt64) &&& (1 : Int64)) (1 : Int64)) = 0 then if isK p0 9 = true then (cP C p0 13).bind (fun r10 => if isK p4 5 = true then (f_72 n p4 r10 C).bind (fun z => match z with | (_, C14) => (cP C14 p0 9).bind (fun r16 => if isK r16 3 = true then (f_58 n r16 p4 p5 C14).bind (fun z => match z with | (q19, C20) => (if q19 = (-1 : Int32) then lp_156_6 n p0 p1 p2 p4 (p5 + (1 : Int32)) C20 else (cP C20 p0 4).bind (fun r23 => if isK r23 6 = true then (f_106 n r23 p4 q19 C20).bind (fun z => match z with | (q26, C27) => (if ¬ q26 = 0 then lp_156_6 n p0 p1 p2 p4 (p5 + (1 : Int32)) C27 else some ((.inl (p0, p4, p5)), C27))) else none))) else none)) else none) else none else lp_156_6 n p0 p1 p2 p4 (p5 + (1 : Int32)) C))
set_option maxRecDepth 20000 in
set_option maxHeartbeats 4000000 in
theorem lt_156_6 : ∀ (n : Nat) (p0 : Nat) (p1 : Int32) (p2 : Int64) (p4 : Nat) (p5 : Int32) (C : AmC) (r : ((Nat × Nat × Int32) ⊕ (Unit)) × AmC), lp_156_6 n p0 p1 p2 p4 p5 C = some r → ∀ (o : AmO) (M' : AmM), (match r with
        | ((.inl (w0, w4, w5)), C') => En false 156 37 [(0, .ref w0), (4, .ref w4), (5, .int w5)] [] (mkM C') o M'
        | ((.inr _), C') => En false 156 45 [] [] (mkM C') o M') → En false 156 6 [(0, .ref p0), (1, .int p1), (2, .long p2), (4, .ref p4), (5, .int p5)] [] (mkM C) o M' := by
  intro n
  induction n with
  | zero => intro p0 p1 p2 p4 p5 C r h; cases h
  | succ n ih =>
    intro p0 p1 p2 p4 p5 C r h o M' hk
    unfold lp_156_6 at h
    refine en_iload rfl rfl ?_
    refine en_iload rfl rfl ?_
    rcases gi h with ⟨c7, h⟩ | ⟨c7, h⟩
    · refine en_icmp_ge_t c7 rfl ?_
      cases h
      exact en_sub [] rfl rfl hk
    · refine en_icmp_ge_f c7 rfl ?_
      refine en_lload rfl rfl ?_
      refine en_iload rfl rfl ?_
      refine en_lushr rfl ?_
      refine ec_lconst cst_1L rfl ?_
      refine en_land rfl ?_
      refine ec_lconst cst_1L rfl ?_
      refine en_lcmp rfl ?_
      rcases gi h with ⟨c8, h⟩ | ⟨c8, h⟩
      · refine en_if_ne_t c8 rfl ?_
        refine en_aload rfl rfl ?_
        refine en_aload rfl rfl ?_
        obtain ⟨g9, h⟩ := gd h
        obtain ⟨r10, e11, h⟩ := gb h
        refine ec_getP (ci := 9) (j := 13) ⟨rfl, rfl, rfl⟩ g9 e11 rfl ?_
        obtain ⟨g12, h⟩ := gd h
        obtain ⟨⟨q13, C14⟩, e15, h⟩ := gb h
        dsimp only at h
        refine ec_callV0 (k' := 72) (n := 2) (rc := 5) (a := p4) (as := [.ref r10]) ⟨rfl, rfl⟩ rfl rfl (Nat.le_of_ble_eq_true rfl) (Nat.le_of_ble_eq_true rfl) (Nat.le_of_ble_eq_true rfl) g12 rfl (t_72 e15) ?_
        refine en_aload rfl rfl ?_
        obtain ⟨r16, e17, h⟩ := gb h
        refine ec_getP (ci := 9) (j := 9) ⟨rfl, rfl, rfl⟩ g9 e17 rfl ?_
        refine en_aload rfl rfl ?_
        refine en_iload rfl rfl ?_
        obtain ⟨g18, h⟩ := gd h
        obtain ⟨⟨q19, C20⟩, e21, h⟩ := gb h
        dsimp only at h
        refine ec_callV1 (k' := 58) (n := 3) (rc := 3) (a := r16) (as := [.ref p4, .int p5]) ⟨rfl, rfl⟩ rfl rfl (Nat.le_of_ble_eq_true rfl) (Nat.le_of_ble_eq_true rfl) (Nat.le_of_ble_eq_true rfl) g18 rfl (t_58 e21) ?_
        refine en_istore (l' := [(6, .int q19), (0, .ref p0), (1, .int p1), (2, .long p2), (4, .ref p4), (5, .int p5)]) rfl rfl ?_
        refine en_iload rfl rfl ?_
        refine ec_iconst cst_m1 rfl ?_
        rcases gi h with ⟨c22, h⟩ | ⟨c22, h⟩
        · refine en_icmp_eq_t c22 rfl ?_
          refine ec_iinc (l' := [(5, .int (p5 + (1 : Int32))), (6, .int q19), (0, .ref p0), (1, .int p1), (2, .long p2), (4, .ref p4)]) rfl cst_1 rfl rfl ?_
          refine en_goto rfl ?_
          refine en_sub [2, 3, 4, 5, 0] rfl rfl ?_
          exact ih _ _ _ _ _ _ _ h o M' hk
        · refine en_icmp_eq_f c22 rfl ?_
          refine en_aload rfl rfl ?_
          obtain ⟨r23, e24, h⟩ := gb h
          refine ec_getP (ci := 9) (j := 4) ⟨rfl, rfl, rfl⟩ g9 e24 rfl ?_
          refine en_aload rfl rfl ?_
          refine en_iload rfl rfl ?_
          obtain ⟨g25, h⟩ := gd h
          obtain ⟨⟨q26, C27⟩, e28, h⟩ := gb h
          dsimp only at h
          refine ec_callV1 (k' := 106) (n := 3) (rc := 6) (a := r23) (as := [.ref p4, .int q19]) ⟨rfl, rfl⟩ rfl rfl (Nat.le_of_ble_eq_true rfl) (Nat.le_of_ble_eq_true rfl) (Nat.le_of_ble_eq_true rfl) g25 rfl (t_106 e28) ?_
          rcases gi h with ⟨c29, h⟩ | ⟨c29, h⟩
          · refine en_if_ne_t c29 rfl ?_
            refine ec_iinc (l' := [(5, .int (p5 + (1 : Int32))), (6, .int q19), (0, .ref p0), (1, .int p1), (2, .long p2), (4, .ref p4)]) rfl cst_1 rfl rfl ?_
            refine en_goto rfl ?_
            refine en_sub [2, 3, 4, 5, 0] rfl rfl ?_
            exact ih _ _ _ _ _ _ _ h o M' hk
          · refine en_if_ne_f c29 rfl ?_
            cases h
            exact en_sub [1, 4, 5] rfl rfl hk
      · refine en_if_ne_f c8 rfl ?_
        refine en_goto rfl ?_
        refine ec_iinc (l' := [(5, .int (p5 + (1 : Int32))), (0, .ref p0), (1, .int p1), (2, .long p2), (4, .ref p4)]) rfl cst_1 rfl rfl ?_
        refine en_goto rfl ?_
        refine en_sub [1, 2, 3, 4, 0] rfl rfl ?_
        exact ih _ _ _ _ _ _ _ h o M' hk
/-- BulkWriter.firstWritable(IJ)I -/
def f_156 (n : Nat) (a0 : Nat) (a1 : Int32) (a2 : Int64) (C : AmC) : Option (Int32 × AmC) := if isK a0 9 = true then (cP C a0 10).bind (fun r2 => if isK r2 3 = true then (cP C r2 0).bind (fun r5 => (lp_156_6 n a0 a1 a2 r5 (0 : Int32) C).bind (fun q => match q with | ((.inl (u33, u34, u35)), C32) => if isK u33 9 = true then (cP C32 u33 13).bind (fun r37 => if isK r37 5 = true then (f_72 n r37 u34 C32).bind (fun z => match z with | (_, C41) => some (u35, C41)) else none) else none | ((.inr _), C32) => some ((-1 : Int32), C32))) else none) else none
set_option maxRecDepth 20000 in
set_option maxHeartbeats 4000000 in
theorem t_156 {n : Nat} {a0 : Nat} {a1 : Int32} {a2 : Int64} {C : AmC} {r : Int32} {C' : AmC} (h : f_156 n a0 a1 a2 C = some (r, C')) : En false 156 0 [(0, .ref a0), (1, .int a1), (2, .long a2)] [] (mkM C) (.inl (some (.int r))) (mkM C') := by
  unfold f_156 at h
  refine en_aload rfl rfl ?_
  obtain ⟨g1, h⟩ := gd h
  obtain ⟨r2, e3, h⟩ := gb h
  refine ec_getP (ci := 9) (j := 10) ⟨rfl, rfl, rfl⟩ g1 e3 rfl ?_
  obtain ⟨g4, h⟩ := gd h
  obtain ⟨r5, e6, h⟩ := gb h
  refine ec_getP (ci := 3) (j := 0) ⟨rfl, rfl, rfl⟩ g4 e6 rfl ?_
  refine en_astore (l' := [(4, .ref r5), (0, .ref a0), (1, .int a1), (2, .long a2)]) rfl rfl ?_
  refine ec_iconst cst_0 rfl ?_
  refine en_istore (l' := [(5, .int (0 : Int32)), (4, .ref r5), (0, .ref a0), (1, .int a1), (2, .long a2)]) rfl rfl ?_
  obtain ⟨⟨q30, C32⟩, e31, h⟩ := gb h
  refine en_sub [2, 3, 4, 1, 0] rfl rfl (lt_156_6 n _ _ _ _ _ _ _ e31 _ _ ?_)
  rcases q30 with ⟨u33, u34, u35⟩ | ⟨⟩
  · dsimp only at h ⊢
    refine en_aload rfl rfl ?_
    obtain ⟨g36, h⟩ := gd h
    obtain ⟨r37, e38, h⟩ := gb h
    refine ec_getP (ci := 9) (j := 13) ⟨rfl, rfl, rfl⟩ g36 e38 rfl ?_
    refine en_aload rfl rfl ?_
    obtain ⟨g39, h⟩ := gd h
    obtain ⟨⟨q40, C41⟩, e42, h⟩ := gb h
    dsimp only at h
    refine ec_callV0 (k' := 72) (n := 2) (rc := 5) (a := r37) (as := [.ref u34]) ⟨rfl, rfl⟩ rfl rfl (Nat.le_of_ble_eq_true rfl) (Nat.le_of_ble_eq_true rfl) (Nat.le_of_ble_eq_true rfl) g39 rfl (t_72 e42) ?_
    refine en_iload rfl rfl ?_
    cases h
    exact en_iret rfl
  · dsimp only at h ⊢
    refine ec_iconst cst_m1 rfl ?_
    cases h
    exact en_iret rfl
def lp_155_24 : Nat → Nat → Int32 → Int64 → Int32 → AmC → Option (((Unit) ⊕ (Int32)) × AmC)
  | 0, _, _, _, _, _ => none
  | n + 1, p0, p1, p2, p4, C => (if p1 ≤ p4 then some ((.inr p1), C) else if isK p0 9 = true then (f_156 n p0 p1 p2 C).bind (fun z => match z with | (q25, C26) => (if ¬ q25 = (-1 : Int32) then (cP C26 p0 15).bind (fun r29 => if isK r29 12 = true then if amIn p4 (aLen r29) = true then lp_155_24 n p0 p1 (p2 ||| ((1 : Int64) <<< (Int32.toInt64 q25 &&& 63))) (p4 + (1 : Int32)) (uI C26 r29 (Int32.toNatClampNeg p4) q25) else none else none) else some ((.inl ()), C26))) else none)
set_option maxRecDepth 20000 in
set_option maxHeartbeats 4000000 in
theorem lt_155_24 : ∀ (n : Nat) (p0 : Nat) (p1 : Int32) (p2 : Int64) (p4 : Int32) (C : AmC) (r : ((Unit) ⊕ (Int32)) × AmC), lp_155_24 n p0 p1 p2 p4 C = some r → ∀ (o : AmO) (M' : AmM), (match r with
        | ((.inl _), C') => En false 155 35 [] [] (mkM C') o M'
        | ((.inr w1), C') => En false 155 50 [(1, .int w1)] [] (mkM C') o M') → En false 155 24 [(0, .ref p0), (1, .int p1), (2, .long p2), (4, .int p4)] [] (mkM C) o M' := by
  intro n
  induction n with
  | zero => intro p0 p1 p2 p4 C r h; cases h
  | succ n ih =>
    intro p0 p1 p2 p4 C r h o M' hk
    unfold lp_155_24 at h
    refine en_iload rfl rfl ?_
    refine en_iload rfl rfl ?_
    rcases gi h with ⟨c23, h⟩ | ⟨c23, h⟩
    · refine en_icmp_ge_t c23 rfl ?_
      cases h
      exact en_sub [1] rfl rfl hk
    · refine en_icmp_ge_f c23 rfl ?_
      refine en_aload rfl rfl ?_
      refine en_iload rfl rfl ?_
      refine en_lload rfl rfl ?_
      obtain ⟨g24, h⟩ := gd h
      obtain ⟨⟨q25, C26⟩, e27, h⟩ := gb h
      dsimp only at h
      refine ec_callV1 (k' := 156) (n := 3) (rc := 9) (a := p0) (as := [.int p1, .long p2]) ⟨rfl, rfl⟩ rfl rfl (Nat.le_of_ble_eq_true rfl) (Nat.le_of_ble_eq_true rfl) (Nat.le_of_ble_eq_true rfl) g24 rfl (t_156 e27) ?_
      refine en_istore (l' := [(5, .int q25), (0, .ref p0), (1, .int p1), (2, .long p2), (4, .int p4)]) rfl rfl ?_
      refine en_iload rfl rfl ?_
      refine ec_iconst cst_m1 rfl ?_
      rcases gi h with ⟨c28, h⟩ | ⟨c28, h⟩
      · refine en_icmp_ne_t c28 rfl ?_
        refine en_aload rfl rfl ?_
        obtain ⟨r29, e30, h⟩ := gb h
        refine ec_getP (ci := 9) (j := 15) ⟨rfl, rfl, rfl⟩ g24 e30 rfl ?_
        refine en_iload rfl rfl ?_
        refine en_iload rfl rfl ?_
        obtain ⟨g31, h⟩ := gd h
        obtain ⟨g32, h⟩ := gd h
        refine ec_iastore g31 g32 rfl ?_
        refine en_lload rfl rfl ?_
        refine ec_lconst cst_1L rfl ?_
        refine en_iload rfl rfl ?_
        refine en_lshl rfl ?_
        refine en_lor rfl ?_
        refine en_lstore (l' := [(2, .long (p2 ||| ((1 : Int64) <<< (Int32.toInt64 q25 &&& 63)))), (5, .int q25), (0, .ref p0), (1, .int p1), (4, .int p4)]) rfl rfl ?_
        refine ec_iinc (l' := [(4, .int (p4 + (1 : Int32))), (2, .long (p2 ||| ((1 : Int64) <<< (Int32.toInt64 q25 &&& 63)))), (5, .int q25), (0, .ref p0), (1, .int p1)]) rfl cst_1 rfl rfl ?_
        refine en_goto rfl ?_
        refine en_sub [3, 4, 1, 0] rfl rfl ?_
        exact ih _ _ _ _ _ _ h o M' hk
      · refine en_icmp_ne_f c28 rfl ?_
        cases h
        exact en_sub [] rfl rfl hk
/-- BulkWriter.findOrder()I -/
def f_155 (n : Nat) (a0 : Nat) (C : AmC) : Option (Int32 × AmC) := if isK a0 9 = true then (cP C a0 9).bind (fun r2 => if isK r2 3 = true then (if (cI C r2 11) = 0 then (cP C a0 13).bind (fun r6 => (cP C a0 6).bind (fun r8 => if isK r8 7 = true then (cP C r8 0).bind (fun r11 => if isK r6 5 = true then (f_72 n r6 r11 C).bind (fun z => match z with | (_, C15) => (cP C15 a0 9).bind (fun r17 => if isK r17 3 = true then (cP C15 a0 15).bind (fun r20 => if isK r20 12 = true then (lp_155_24 n a0 (if (Int32.ofNat (aLen r20)) < (cI C15 r17 10) then (Int32.ofNat (aLen r20)) else (cI C15 r17 10)) (0 : Int64) (0 : Int32) C15).bind (fun q => match q with | ((.inl _), C35) => some ((-1 : Int32), C35) | ((.inr u36), C35) => some (u36, C35)) else none) else none)) else none) else none)) else some ((-1 : Int32), C)) else none) else none
set_option maxRecDepth 20000 in
set_option maxHeartbeats 4000000 in
theorem t_155 {n : Nat} {a0 : Nat} {C : AmC} {r : Int32} {C' : AmC} (h : f_155 n a0 C = some (r, C')) : En false 155 0 [(0, .ref a0)] [] (mkM C) (.inl (some (.int r))) (mkM C') := by
  unfold f_155 at h
  refine en_aload rfl rfl ?_
  obtain ⟨g1, h⟩ := gd h
  obtain ⟨r2, e3, h⟩ := gb h
  refine ec_getP (ci := 9) (j := 9) ⟨rfl, rfl, rfl⟩ g1 e3 rfl ?_
  obtain ⟨g4, h⟩ := gd h
  refine ec_getI (ci := 3) (j := 11) ⟨rfl, rfl, rfl⟩ g4 rfl ?_
  rcases gi h with ⟨c5, h⟩ | ⟨c5, h⟩
  · refine en_if_eq_t c5 rfl ?_
    refine en_aload rfl rfl ?_
    obtain ⟨r6, e7, h⟩ := gb h
    refine ec_getP (ci := 9) (j := 13) ⟨rfl, rfl, rfl⟩ g1 e7 rfl ?_
    refine en_aload rfl rfl ?_
    obtain ⟨r8, e9, h⟩ := gb h
    refine ec_getP (ci := 9) (j := 6) ⟨rfl, rfl, rfl⟩ g1 e9 rfl ?_
    obtain ⟨g10, h⟩ := gd h
    obtain ⟨r11, e12, h⟩ := gb h
    refine ec_getP (ci := 7) (j := 0) ⟨rfl, rfl, rfl⟩ g10 e12 rfl ?_
    obtain ⟨g13, h⟩ := gd h
    obtain ⟨⟨q14, C15⟩, e16, h⟩ := gb h
    dsimp only at h
    refine ec_callV0 (k' := 72) (n := 2) (rc := 5) (a := r6) (as := [.ref r11]) ⟨rfl, rfl⟩ rfl rfl (Nat.le_of_ble_eq_true rfl) (Nat.le_of_ble_eq_true rfl) (Nat.le_of_ble_eq_true rfl) g13 rfl (t_72 e16) ?_
    refine en_aload rfl rfl ?_
    obtain ⟨r17, e18, h⟩ := gb h
    refine ec_getP (ci := 9) (j := 9) ⟨rfl, rfl, rfl⟩ g1 e18 rfl ?_
    obtain ⟨g19, h⟩ := gd h
    refine ec_getI (ci := 3) (j := 10) ⟨rfl, rfl, rfl⟩ g19 rfl ?_
    refine en_aload rfl rfl ?_
    obtain ⟨r20, e21, h⟩ := gb h
    refine ec_getP (ci := 9) (j := 15) ⟨rfl, rfl, rfl⟩ g1 e21 rfl ?_
    obtain ⟨g22, h⟩ := gd h
    refine ec_alen g22 (by decide) rfl ?_
    refine en_min (Nat.le_of_ble_eq_true rfl) rfl ?_
    refine en_istore (l' := [(1, .int (if (Int32.ofNat (aLen r20)) < (cI C15 r17 10) then (Int32.ofNat (aLen r20)) else (cI C15 r17 10))), (0, .ref a0)]) rfl rfl ?_
    refine ec_lconst cst_0L rfl ?_
    refine en_lstore (l' := [(2, .long (0 : Int64)), (1, .int (if (Int32.ofNat (aLen r20)) < (cI C15 r17 10) then (Int32.ofNat (aLen r20)) else (cI C15 r17 10))), (0, .ref a0)]) rfl rfl ?_
    refine ec_iconst cst_0 rfl ?_
    refine en_istore (l' := [(4, .int (0 : Int32)), (2, .long (0 : Int64)), (1, .int (if (Int32.ofNat (aLen r20)) < (cI C15 r17 10) then (Int32.ofNat (aLen r20)) else (cI C15 r17 10))), (0, .ref a0)]) rfl rfl ?_
    obtain ⟨⟨q33, C35⟩, e34, h⟩ := gb h
    refine en_sub [3, 2, 1, 0] rfl rfl (lt_155_24 n _ _ _ _ _ _ e34 _ _ ?_)
    rcases q33 with ⟨⟩ | u36
    · dsimp only at h ⊢
      refine ec_iconst cst_m1 rfl ?_
      cases h
      exact en_iret rfl
    · dsimp only at h ⊢
      refine en_iload rfl rfl ?_
      cases h
      exact en_iret rfl
  · refine en_if_eq_f c5 rfl ?_
    refine ec_iconst cst_m1 rfl ?_
    cases h
    exact en_iret rfl
/-- BulkWriter.order(II)I -/
def f_130 (n : Nat) (a0 : Nat) (a1 : Int32) (a2 : Int32) (C : AmC) : Option ((Int32 ⊕ Nat) × AmC) := if isK a0 9 = true then (f_143 n a0 a1 C).bind (fun z => match z with | (.inl _, C3) => (cP C3 a0 6).bind (fun r6 => if isK r6 7 = true then (cP C3 r6 0).bind (fun r9 => (f_151 n a0 a1 r9 C3).bind (fun z => match z with | (_, C12) => (f_155 n a0 C12).bind (fun z => match z with | (q14, C15) => (if ¬ a2 = (-1 : Int32) then (if a2 < 0 then some (.inr 0, C15) else (if q14 ≤ a2 then some (.inr 0, C15) else (cP C15 a0 15).bind (fun r20 => if isK r20 12 = true then (if a2 < (Int32.ofNat (aLen r20)) then (cP C15 a0 15).bind (fun r24 => if isK r24 12 = true then if amIn a2 (aLen r24) = true then some (.inl (cI C15 r24 (Int32.toNatClampNeg a2)), C15) else none else none) else some (.inr 0, C15)) else none))) else some (.inl q14, C15))))) else none) | (.inr x5, C3) => some (.inr x5, C3)) else none
set_option maxRecDepth 20000 in
set_option maxHeartbeats 4000000 in
theorem t_130 {n : Nat} {a0 : Nat} {a1 : Int32} {a2 : Int32} {C : AmC} {r : (Int32 ⊕ Nat)} {C' : AmC} (h : f_130 n a0 a1 a2 C = some (r, C')) : En false 130 0 [(0, .ref a0), (1, .int a1), (2, .int a2)] [] (mkM C) (ovI r) (mkM C') := by
  unfold f_130 at h
  refine en_aload rfl rfl ?_
  refine en_iload rfl rfl ?_
  obtain ⟨g1, h⟩ := gd h
  obtain ⟨⟨q2, C3⟩, e4, h⟩ := gb h
  rcases q2 with q2 | x5
  · dsimp only at h
    refine ec_callV0 (k' := 143) (n := 2) (rc := 9) (a := a0) (as := [.int a1]) ⟨rfl, rfl⟩ rfl rfl (Nat.le_of_ble_eq_true rfl) (Nat.le_of_ble_eq_true rfl) (Nat.le_of_ble_eq_true rfl) g1 rfl (t_143 e4) ?_
    refine en_aload rfl rfl ?_
    refine en_iload rfl rfl ?_
    refine en_aload rfl rfl ?_
    obtain ⟨r6, e7, h⟩ := gb h
    refine ec_getP (ci := 9) (j := 6) ⟨rfl, rfl, rfl⟩ g1 e7 rfl ?_
    obtain ⟨g8, h⟩ := gd h
    obtain ⟨r9, e10, h⟩ := gb h
    refine ec_getP (ci := 7) (j := 0) ⟨rfl, rfl, rfl⟩ g8 e10 rfl ?_
    obtain ⟨⟨q11, C12⟩, e13, h⟩ := gb h
    dsimp only at h
    refine ec_callV0 (k' := 151) (n := 3) (rc := 9) (a := a0) (as := [.int a1, .ref r9]) ⟨rfl, rfl⟩ rfl rfl (Nat.le_of_ble_eq_true rfl) (Nat.le_of_ble_eq_true rfl) (Nat.le_of_ble_eq_true rfl) g1 rfl (t_151 e13) ?_
    refine en_aload rfl rfl ?_
    obtain ⟨⟨q14, C15⟩, e16, h⟩ := gb h
    dsimp only at h
    refine ec_callV1 (k' := 155) (n := 1) (rc := 9) (a := a0) (as := []) ⟨rfl, rfl⟩ rfl rfl (Nat.le_of_ble_eq_true rfl) (Nat.le_of_ble_eq_true rfl) (Nat.le_of_ble_eq_true rfl) g1 rfl (t_155 e16) ?_
    refine en_istore (l' := [(3, .int q14), (0, .ref a0), (1, .int a1), (2, .int a2)]) rfl rfl ?_
    refine en_iload rfl rfl ?_
    refine ec_iconst cst_m1 rfl ?_
    rcases gi h with ⟨c17, h⟩ | ⟨c17, h⟩
    · refine en_icmp_ne_t c17 rfl ?_
      refine en_iload rfl rfl ?_
      rcases gi h with ⟨c18, h⟩ | ⟨c18, h⟩
      · refine en_if_lt_t c18 rfl ?_
        cases h
        exact en_throw (n := 0) rfl ⟨rfl, Nat.le_of_ble_eq_true rfl⟩
      · refine en_if_lt_f c18 rfl ?_
        refine en_iload rfl rfl ?_
        refine en_iload rfl rfl ?_
        rcases gi h with ⟨c19, h⟩ | ⟨c19, h⟩
        · refine en_icmp_ge_t c19 rfl ?_
          cases h
          exact en_throw (n := 0) rfl ⟨rfl, Nat.le_of_ble_eq_true rfl⟩
        · refine en_icmp_ge_f c19 rfl ?_
          refine en_iload rfl rfl ?_
          refine en_aload rfl rfl ?_
          obtain ⟨r20, e21, h⟩ := gb h
          refine ec_getP (ci := 9) (j := 15) ⟨rfl, rfl, rfl⟩ g1 e21 rfl ?_
          obtain ⟨g22, h⟩ := gd h
          refine ec_alen g22 (by decide) rfl ?_
          rcases gi h with ⟨c23, h⟩ | ⟨c23, h⟩
          · refine en_icmp_lt_t c23 rfl ?_
            refine en_aload rfl rfl ?_
            obtain ⟨r24, e25, h⟩ := gb h
            refine ec_getP (ci := 9) (j := 15) ⟨rfl, rfl, rfl⟩ g1 e25 rfl ?_
            refine en_iload rfl rfl ?_
            obtain ⟨g26, h⟩ := gd h
            obtain ⟨g27, h⟩ := gd h
            refine ec_iaload g26 g27 rfl ?_
            cases h
            exact en_iret rfl
          · refine en_icmp_lt_f c23 rfl ?_
            cases h
            exact en_throw (n := 0) rfl ⟨rfl, Nat.le_of_ble_eq_true rfl⟩
    · refine en_icmp_ne_f c17 rfl ?_
      refine en_iload rfl rfl ?_
      cases h
      exact en_iret rfl
  · dsimp only at h
    cases h
    exact ec_callVx (k' := 143) (n := 2) (rc := 9) (a := a0) (as := [.int a1]) ⟨rfl, rfl⟩ rfl rfl (Nat.le_of_ble_eq_true rfl) (Nat.le_of_ble_eq_true rfl) (Nat.le_of_ble_eq_true rfl) g1 rfl (t_143 e4)
/-- BulkWriter.run(I)I -/
def f_131 (n : Nat) (a0 : Nat) (a1 : Int32) (C : AmC) : Option ((Int32 ⊕ Nat) × AmC) := if isK a0 9 = true then (f_143 n a0 a1 C).bind (fun z => match z with | (.inl _, C3) => (cP C3 a0 6).bind (fun r6 => if isK r6 7 = true then (cP C3 r6 0).bind (fun r9 => (f_151 n a0 a1 r9 C3).bind (fun z => match z with | (_, C12) => (cP C12 a0 9).bind (fun r14 => if isK r14 3 = true then (if (cI C12 r14 11) = 0 then (cP C12 a0 6).bind (fun r18 => if isK r18 7 = true then (cP C12 r18 1).bind (fun r21 => (cP C12 a0 6).bind (fun r23 => if isK r23 7 = true then (cP C12 r23 0).bind (fun r26 => if isK r21 1 = true then (f_11 n r21 r26 C12).bind (fun z => match z with | (_, C30) => (cP C30 a0 6).bind (fun r32 => if isK r32 7 = true then (cP C30 r32 0).bind (fun r35 => (cP C30 a0 9).bind (fun r37 => if isK r37 3 = true then (cP C30 r37 0).bind (fun r40 => if isK r35 5 = true then (f_72 n r35 r40 C30).bind (fun z => match z with | (_, C44) => (cP C44 a0 9).bind (fun r46 => if isK r46 3 = true then some (.inl (cI C44 r46 10), C44) else none)) else none) else none)) else none)) else none) else none)) else none) else (cP C12 a0 6).bind (fun r49 => if isK r49 7 = true then (cP C12 r49 6).bind (fun r52 => if isK r52 12 = true then if amIn (1 : Int32) (aLen r52) = true then if amIn (1 : Int32) (aLen r52) = true then (cP (uI C12 r52 (Int32.toNatClampNeg (1 : Int32)) ((cI C12 r52 (Int32.toNatClampNeg (1 : Int32))) + (1 : Int32))) a0 9).bind (fun r57 => if isK r57 3 = true then some (.inl ((-1 : Int32) - (cI (uI C12 r52 (Int32.toNatClampNeg (1 : Int32)) ((cI C12 r52 (Int32.toNatClampNeg (1 : Int32))) + (1 : Int32))) r57 11)), uI C12 r52 (Int32.toNatClampNeg (1 : Int32)) ((cI C12 r52 (Int32.toNatClampNeg (1 : Int32))) + (1 : Int32))) else none) else none else none else none) else none)) else none))) else none) | (.inr x5, C3) => some (.inr x5, C3)) else none
set_option maxRecDepth 20000 in
set_option maxHeartbeats 4000000 in
theorem t_131 {n : Nat} {a0 : Nat} {a1 : Int32} {C : AmC} {r : (Int32 ⊕ Nat)} {C' : AmC} (h : f_131 n a0 a1 C = some (r, C')) : En false 131 0 [(0, .ref a0), (1, .int a1)] [] (mkM C) (ovI r) (mkM C') := by
  unfold f_131 at h
  refine en_aload rfl rfl ?_
  refine en_iload rfl rfl ?_
  obtain ⟨g1, h⟩ := gd h
  obtain ⟨⟨q2, C3⟩, e4, h⟩ := gb h
  rcases q2 with q2 | x5
  · dsimp only at h
    refine ec_callV0 (k' := 143) (n := 2) (rc := 9) (a := a0) (as := [.int a1]) ⟨rfl, rfl⟩ rfl rfl (Nat.le_of_ble_eq_true rfl) (Nat.le_of_ble_eq_true rfl) (Nat.le_of_ble_eq_true rfl) g1 rfl (t_143 e4) ?_
    refine en_aload rfl rfl ?_
    refine en_iload rfl rfl ?_
    refine en_aload rfl rfl ?_
    obtain ⟨r6, e7, h⟩ := gb h
    refine ec_getP (ci := 9) (j := 6) ⟨rfl, rfl, rfl⟩ g1 e7 rfl ?_
    obtain ⟨g8, h⟩ := gd h
    obtain ⟨r9, e10, h⟩ := gb h
    refine ec_getP (ci := 7) (j := 0) ⟨rfl, rfl, rfl⟩ g8 e10 rfl ?_
    obtain ⟨⟨q11, C12⟩, e13, h⟩ := gb h
    dsimp only at h
    refine ec_callV0 (k' := 151) (n := 3) (rc := 9) (a := a0) (as := [.int a1, .ref r9]) ⟨rfl, rfl⟩ rfl rfl (Nat.le_of_ble_eq_true rfl) (Nat.le_of_ble_eq_true rfl) (Nat.le_of_ble_eq_true rfl) g1 rfl (t_151 e13) ?_
    refine en_aload rfl rfl ?_
    obtain ⟨r14, e15, h⟩ := gb h
    refine ec_getP (ci := 9) (j := 9) ⟨rfl, rfl, rfl⟩ g1 e15 rfl ?_
    obtain ⟨g16, h⟩ := gd h
    refine ec_getI (ci := 3) (j := 11) ⟨rfl, rfl, rfl⟩ g16 rfl ?_
    rcases gi h with ⟨c17, h⟩ | ⟨c17, h⟩
    · refine en_if_eq_t c17 rfl ?_
      refine en_aload rfl rfl ?_
      obtain ⟨r18, e19, h⟩ := gb h
      refine ec_getP (ci := 9) (j := 6) ⟨rfl, rfl, rfl⟩ g1 e19 rfl ?_
      obtain ⟨g20, h⟩ := gd h
      obtain ⟨r21, e22, h⟩ := gb h
      refine ec_getP (ci := 7) (j := 1) ⟨rfl, rfl, rfl⟩ g20 e22 rfl ?_
      refine en_aload rfl rfl ?_
      obtain ⟨r23, e24, h⟩ := gb h
      refine ec_getP (ci := 9) (j := 6) ⟨rfl, rfl, rfl⟩ g1 e24 rfl ?_
      obtain ⟨g25, h⟩ := gd h
      obtain ⟨r26, e27, h⟩ := gb h
      refine ec_getP (ci := 7) (j := 0) ⟨rfl, rfl, rfl⟩ g25 e27 rfl ?_
      obtain ⟨g28, h⟩ := gd h
      obtain ⟨⟨q29, C30⟩, e31, h⟩ := gb h
      dsimp only at h
      refine ec_callV0 (k' := 11) (n := 2) (rc := 1) (a := r21) (as := [.ref r26]) ⟨rfl, rfl⟩ rfl rfl (Nat.le_of_ble_eq_true rfl) (Nat.le_of_ble_eq_true rfl) (Nat.le_of_ble_eq_true rfl) g28 rfl (t_11 e31) ?_
      refine en_aload rfl rfl ?_
      obtain ⟨r32, e33, h⟩ := gb h
      refine ec_getP (ci := 9) (j := 6) ⟨rfl, rfl, rfl⟩ g1 e33 rfl ?_
      obtain ⟨g34, h⟩ := gd h
      obtain ⟨r35, e36, h⟩ := gb h
      refine ec_getP (ci := 7) (j := 0) ⟨rfl, rfl, rfl⟩ g34 e36 rfl ?_
      refine en_aload rfl rfl ?_
      obtain ⟨r37, e38, h⟩ := gb h
      refine ec_getP (ci := 9) (j := 9) ⟨rfl, rfl, rfl⟩ g1 e38 rfl ?_
      obtain ⟨g39, h⟩ := gd h
      obtain ⟨r40, e41, h⟩ := gb h
      refine ec_getP (ci := 3) (j := 0) ⟨rfl, rfl, rfl⟩ g39 e41 rfl ?_
      obtain ⟨g42, h⟩ := gd h
      obtain ⟨⟨q43, C44⟩, e45, h⟩ := gb h
      dsimp only at h
      refine ec_callV0 (k' := 72) (n := 2) (rc := 5) (a := r35) (as := [.ref r40]) ⟨rfl, rfl⟩ rfl rfl (Nat.le_of_ble_eq_true rfl) (Nat.le_of_ble_eq_true rfl) (Nat.le_of_ble_eq_true rfl) g42 rfl (t_72 e45) ?_
      refine en_aload rfl rfl ?_
      obtain ⟨r46, e47, h⟩ := gb h
      refine ec_getP (ci := 9) (j := 9) ⟨rfl, rfl, rfl⟩ g1 e47 rfl ?_
      obtain ⟨g48, h⟩ := gd h
      refine ec_getI (ci := 3) (j := 10) ⟨rfl, rfl, rfl⟩ g48 rfl ?_
      cases h
      exact en_iret rfl
    · refine en_if_eq_f c17 rfl ?_
      refine en_aload rfl rfl ?_
      obtain ⟨r49, e50, h⟩ := gb h
      refine ec_getP (ci := 9) (j := 6) ⟨rfl, rfl, rfl⟩ g1 e50 rfl ?_
      obtain ⟨g51, h⟩ := gd h
      obtain ⟨r52, e53, h⟩ := gb h
      refine ec_getP (ci := 7) (j := 6) ⟨rfl, rfl, rfl⟩ g51 e53 rfl ?_
      refine ec_iconst cst_1 rfl ?_
      refine en_dup2 ⟨rfl, rfl⟩ rfl ?_
      obtain ⟨g54, h⟩ := gd h
      obtain ⟨g55, h⟩ := gd h
      refine ec_iaload g54 g55 rfl ?_
      refine ec_iconst cst_1 rfl ?_
      refine en_iadd rfl ?_
      obtain ⟨g56, h⟩ := gd h
      refine ec_iastore g54 g56 rfl ?_
      refine ec_iconst cst_m1 rfl ?_
      refine en_aload rfl rfl ?_
      obtain ⟨r57, e58, h⟩ := gb h
      refine ec_getP (ci := 9) (j := 9) ⟨rfl, rfl, rfl⟩ g1 e58 rfl ?_
      obtain ⟨g59, h⟩ := gd h
      refine ec_getI (ci := 3) (j := 11) ⟨rfl, rfl, rfl⟩ g59 rfl ?_
      refine en_isub rfl ?_
      cases h
      exact en_iret rfl
  · dsimp only at h
    cases h
    exact ec_callVx (k' := 143) (n := 2) (rc := 9) (a := a0) (as := [.int a1]) ⟨rfl, rfl⟩ rfl rfl (Nat.le_of_ble_eq_true rfl) (Nat.le_of_ble_eq_true rfl) (Nat.le_of_ble_eq_true rfl) g1 rfl (t_143 e4)
/-- BulkWriter.canHold(I)Z -/
def f_150 (n : Nat) (a0 : Int32) (C : AmC) : Option (Int32 × AmC) := (if a0 < (-9999 : Int32) then some ((0 : Int32), C) else (if (9999 : Int32) < a0 then some ((0 : Int32), C) else some ((1 : Int32), C)))
set_option maxRecDepth 20000 in
set_option maxHeartbeats 4000000 in
theorem t_150 {n : Nat} {a0 : Int32} {C : AmC} {r : Int32} {C' : AmC} (h : f_150 n a0 C = some (r, C')) : En false 150 0 [(0, .int a0)] [] (mkM C) (.inl (some (.int r))) (mkM C') := by
  unfold f_150 at h
  refine en_iload rfl rfl ?_
  refine ec_iconst cst_m9999 rfl ?_
  rcases gi h with ⟨c1, h⟩ | ⟨c1, h⟩
  · refine en_icmp_lt_t c1 rfl ?_
    refine ec_iconst cst_0 rfl ?_
    cases h
    exact en_zret (Or.inl rfl) rfl
  · refine en_icmp_lt_f c1 rfl ?_
    refine en_iload rfl rfl ?_
    refine ec_iconst cst_9999 rfl ?_
    rcases gi h with ⟨c2, h⟩ | ⟨c2, h⟩
    · refine en_icmp_gt_t c2 rfl ?_
      refine ec_iconst cst_0 rfl ?_
      cases h
      exact en_zret (Or.inl rfl) rfl
    · refine en_icmp_gt_f c2 rfl ?_
      refine ec_iconst cst_1 rfl ?_
      refine en_goto rfl ?_
      cases h
      exact en_zret (Or.inr rfl) rfl
/-- BulkWriter.putByHand(LBulkWriter$Rows;III)Z -/
def f_152 (n : Nat) (a0 : Nat) (a1 : Nat) (a2 : Int32) (a3 : Int32) (a4 : Int32) (C : AmC) : Option (Int32 × AmC) := if isK a1 5 = true then (f_75 n a1 a2 C).bind (fun z => match z with | (q2, C3) => (if ¬ q2 = 0 then (f_76 n a1 a2 a3 C3).bind (fun z => match z with | (q6, C7) => (f_77 n a1 a2 a3 a4 C7).bind (fun z => match z with | (_, C10) => if isK a0 9 = true then (cP C10 a0 4).bind (fun r13 => if isK r13 6 = true then (f_106 n r13 a1 a2 C10).bind (fun z => match z with | (q16, C17) => (if q16 = 0 then some ((1 : Int32), C17) else (f_77 n a1 a2 a3 q6 C17).bind (fun z => match z with | (_, C21) => some ((0 : Int32), C21)))) else none) else none)) else some ((0 : Int32), C3))) else none
set_option maxRecDepth 20000 in
set_option maxHeartbeats 4000000 in
theorem t_152 {n : Nat} {a0 : Nat} {a1 : Nat} {a2 : Int32} {a3 : Int32} {a4 : Int32} {C : AmC} {r : Int32} {C' : AmC} (h : f_152 n a0 a1 a2 a3 a4 C = some (r, C')) : En false 152 0 [(0, .ref a0), (1, .ref a1), (2, .int a2), (3, .int a3), (4, .int a4)] [] (mkM C) (.inl (some (.int r))) (mkM C') := by
  unfold f_152 at h
  refine en_aload rfl rfl ?_
  refine en_iload rfl rfl ?_
  obtain ⟨g1, h⟩ := gd h
  obtain ⟨⟨q2, C3⟩, e4, h⟩ := gb h
  dsimp only at h
  refine ec_callV1 (k' := 75) (n := 2) (rc := 5) (a := a1) (as := [.int a2]) ⟨rfl, rfl⟩ rfl rfl (Nat.le_of_ble_eq_true rfl) (Nat.le_of_ble_eq_true rfl) (Nat.le_of_ble_eq_true rfl) g1 rfl (t_75 e4) ?_
  rcases gi h with ⟨c5, h⟩ | ⟨c5, h⟩
  · refine en_if_ne_t c5 rfl ?_
    refine en_aload rfl rfl ?_
    refine en_iload rfl rfl ?_
    refine en_iload rfl rfl ?_
    obtain ⟨⟨q6, C7⟩, e8, h⟩ := gb h
    dsimp only at h
    refine ec_callV1 (k' := 76) (n := 3) (rc := 5) (a := a1) (as := [.int a2, .int a3]) ⟨rfl, rfl⟩ rfl rfl (Nat.le_of_ble_eq_true rfl) (Nat.le_of_ble_eq_true rfl) (Nat.le_of_ble_eq_true rfl) g1 rfl (t_76 e8) ?_
    refine en_istore (l' := [(5, .int q6), (0, .ref a0), (1, .ref a1), (2, .int a2), (3, .int a3), (4, .int a4)]) rfl rfl ?_
    refine en_aload rfl rfl ?_
    refine en_iload rfl rfl ?_
    refine en_iload rfl rfl ?_
    refine en_iload rfl rfl ?_
    obtain ⟨⟨q9, C10⟩, e11, h⟩ := gb h
    dsimp only at h
    refine ec_callV0 (k' := 77) (n := 4) (rc := 5) (a := a1) (as := [.int a2, .int a3, .int a4]) ⟨rfl, rfl⟩ rfl rfl (Nat.le_of_ble_eq_true rfl) (Nat.le_of_ble_eq_true rfl) (Nat.le_of_ble_eq_true rfl) g1 rfl (t_77 e11) ?_
    refine en_aload rfl rfl ?_
    obtain ⟨g12, h⟩ := gd h
    obtain ⟨r13, e14, h⟩ := gb h
    refine ec_getP (ci := 9) (j := 4) ⟨rfl, rfl, rfl⟩ g12 e14 rfl ?_
    refine en_aload rfl rfl ?_
    refine en_iload rfl rfl ?_
    obtain ⟨g15, h⟩ := gd h
    obtain ⟨⟨q16, C17⟩, e18, h⟩ := gb h
    dsimp only at h
    refine ec_callV1 (k' := 106) (n := 3) (rc := 6) (a := r13) (as := [.ref a1, .int a2]) ⟨rfl, rfl⟩ rfl rfl (Nat.le_of_ble_eq_true rfl) (Nat.le_of_ble_eq_true rfl) (Nat.le_of_ble_eq_true rfl) g15 rfl (t_106 e18) ?_
    rcases gi h with ⟨c19, h⟩ | ⟨c19, h⟩
    · refine en_if_eq_t c19 rfl ?_
      refine ec_iconst cst_1 rfl ?_
      cases h
      exact en_zret (Or.inr rfl) rfl
    · refine en_if_eq_f c19 rfl ?_
      refine en_aload rfl rfl ?_
      refine en_iload rfl rfl ?_
      refine en_iload rfl rfl ?_
      refine en_iload rfl rfl ?_
      obtain ⟨⟨q20, C21⟩, e22, h⟩ := gb h
      dsimp only at h
      refine ec_callV0 (k' := 77) (n := 4) (rc := 5) (a := a1) (as := [.int a2, .int a3, .int q6]) ⟨rfl, rfl⟩ rfl rfl (Nat.le_of_ble_eq_true rfl) (Nat.le_of_ble_eq_true rfl) (Nat.le_of_ble_eq_true rfl) g1 rfl (t_77 e22) ?_
      refine ec_iconst cst_0 rfl ?_
      cases h
      exact en_zret (Or.inl rfl) rfl
  · refine en_if_ne_f c5 rfl ?_
    refine ec_iconst cst_0 rfl ?_
    cases h
    exact en_zret (Or.inl rfl) rfl
/-- BulkWriter.lay(III)I -/
def f_132 (n : Nat) (a0 : Nat) (a1 : Int32) (a2 : Int32) (a3 : Int32) (C : AmC) : Option ((Int32 ⊕ Nat) × AmC) := if isK a0 9 = true then (f_146 n a0 a1 a2 C).bind (fun z => match z with | (.inl _, C3) => (cP C3 a0 6).bind (fun r6 => if isK r6 7 = true then (cP C3 r6 0).bind (fun r9 => if isK r9 5 = true then (f_76 n r9 a1 a2 C3).bind (fun z => match z with | (q12, C13) => (cP C13 a0 13).bind (fun r15 => (cP C13 a0 6).bind (fun r17 => if isK r17 7 = true then (cP C13 r17 0).bind (fun r20 => if isK r15 5 = true then (f_72 n r15 r20 C13).bind (fun z => match z with | (_, C24) => (f_150 n a3 C24).bind (fun z => match z with | (q26, C27) => (if q26 = 0 then (cP C27 a0 6).bind (fun r30 => if isK r30 7 = true then (cP C27 r30 6).bind (fun r33 => if isK r33 12 = true then if amIn (1 : Int32) (aLen r33) = true then if amIn (1 : Int32) (aLen r33) = true then some (.inl (-100000 : Int32), uI C27 r33 (Int32.toNatClampNeg (1 : Int32)) ((cI C27 r33 (Int32.toNatClampNeg (1 : Int32))) + (1 : Int32))) else none else none else none) else none) else (cP C27 a0 13).bind (fun r38 => (f_152 n a0 r38 a1 a2 a3 C27).bind (fun z => match z with | (q40, C41) => (if ¬ q40 = 0 then (cP C41 a0 6).bind (fun r44 => if isK r44 7 = true then (cP C41 r44 1).bind (fun r47 => (cP C41 a0 6).bind (fun r49 => if isK r49 7 = true then (cP C41 r49 0).bind (fun r52 => if isK r47 1 = true then (f_11 n r47 r52 C41).bind (fun z => match z with | (_, C56) => (cP C56 a0 6).bind (fun r58 => if isK r58 7 = true then (cP C56 r58 0).bind (fun r61 => (cP C56 a0 13).bind (fun r63 => if isK r61 5 = true then (f_72 n r61 r63 C56).bind (fun z => match z with | (_, C67) => some (.inl q12, C67)) else none)) else none)) else none) else none)) else none) else (cP C41 a0 6).bind (fun r69 => if isK r69 7 = true then (cP C41 r69 6).bind (fun r72 => if isK r72 12 = true then if amIn (1 : Int32) (aLen r72) = true then if amIn (1 : Int32) (aLen r72) = true then some (.inl (-100000 : Int32), uI C41 r72 (Int32.toNatClampNeg (1 : Int32)) ((cI C41 r72 (Int32.toNatClampNeg (1 : Int32))) + (1 : Int32))) else none else none else none) else none))))))) else none) else none))) else none) else none) | (.inr x5, C3) => some (.inr x5, C3)) else none
set_option maxRecDepth 20000 in
set_option maxHeartbeats 4000000 in
theorem t_132 {n : Nat} {a0 : Nat} {a1 : Int32} {a2 : Int32} {a3 : Int32} {C : AmC} {r : (Int32 ⊕ Nat)} {C' : AmC} (h : f_132 n a0 a1 a2 a3 C = some (r, C')) : En false 132 0 [(0, .ref a0), (1, .int a1), (2, .int a2), (3, .int a3)] [] (mkM C) (ovI r) (mkM C') := by
  unfold f_132 at h
  refine en_aload rfl rfl ?_
  refine en_iload rfl rfl ?_
  refine en_iload rfl rfl ?_
  obtain ⟨g1, h⟩ := gd h
  obtain ⟨⟨q2, C3⟩, e4, h⟩ := gb h
  rcases q2 with q2 | x5
  · dsimp only at h
    refine ec_callV0 (k' := 146) (n := 3) (rc := 9) (a := a0) (as := [.int a1, .int a2]) ⟨rfl, rfl⟩ rfl rfl (Nat.le_of_ble_eq_true rfl) (Nat.le_of_ble_eq_true rfl) (Nat.le_of_ble_eq_true rfl) g1 rfl (t_146 e4) ?_
    refine en_aload rfl rfl ?_
    obtain ⟨r6, e7, h⟩ := gb h
    refine ec_getP (ci := 9) (j := 6) ⟨rfl, rfl, rfl⟩ g1 e7 rfl ?_
    obtain ⟨g8, h⟩ := gd h
    obtain ⟨r9, e10, h⟩ := gb h
    refine ec_getP (ci := 7) (j := 0) ⟨rfl, rfl, rfl⟩ g8 e10 rfl ?_
    refine en_iload rfl rfl ?_
    refine en_iload rfl rfl ?_
    obtain ⟨g11, h⟩ := gd h
    obtain ⟨⟨q12, C13⟩, e14, h⟩ := gb h
    dsimp only at h
    refine ec_callV1 (k' := 76) (n := 3) (rc := 5) (a := r9) (as := [.int a1, .int a2]) ⟨rfl, rfl⟩ rfl rfl (Nat.le_of_ble_eq_true rfl) (Nat.le_of_ble_eq_true rfl) (Nat.le_of_ble_eq_true rfl) g11 rfl (t_76 e14) ?_
    refine en_istore (l' := [(4, .int q12), (0, .ref a0), (1, .int a1), (2, .int a2), (3, .int a3)]) rfl rfl ?_
    refine en_aload rfl rfl ?_
    obtain ⟨r15, e16, h⟩ := gb h
    refine ec_getP (ci := 9) (j := 13) ⟨rfl, rfl, rfl⟩ g1 e16 rfl ?_
    refine en_aload rfl rfl ?_
    obtain ⟨r17, e18, h⟩ := gb h
    refine ec_getP (ci := 9) (j := 6) ⟨rfl, rfl, rfl⟩ g1 e18 rfl ?_
    obtain ⟨g19, h⟩ := gd h
    obtain ⟨r20, e21, h⟩ := gb h
    refine ec_getP (ci := 7) (j := 0) ⟨rfl, rfl, rfl⟩ g19 e21 rfl ?_
    obtain ⟨g22, h⟩ := gd h
    obtain ⟨⟨q23, C24⟩, e25, h⟩ := gb h
    dsimp only at h
    refine ec_callV0 (k' := 72) (n := 2) (rc := 5) (a := r15) (as := [.ref r20]) ⟨rfl, rfl⟩ rfl rfl (Nat.le_of_ble_eq_true rfl) (Nat.le_of_ble_eq_true rfl) (Nat.le_of_ble_eq_true rfl) g22 rfl (t_72 e25) ?_
    refine en_iload rfl rfl ?_
    obtain ⟨⟨q26, C27⟩, e28, h⟩ := gb h
    dsimp only at h
    refine ec_callS1 (k' := 150) (n := 1) (as := [.int a3]) rfl rfl rfl (Nat.le_of_ble_eq_true rfl) (Nat.le_of_ble_eq_true rfl) (Nat.le_of_ble_eq_true rfl) rfl (t_150 e28) ?_
    rcases gi h with ⟨c29, h⟩ | ⟨c29, h⟩
    · refine en_if_eq_t c29 rfl ?_
      refine en_aload rfl rfl ?_
      obtain ⟨r30, e31, h⟩ := gb h
      refine ec_getP (ci := 9) (j := 6) ⟨rfl, rfl, rfl⟩ g1 e31 rfl ?_
      obtain ⟨g32, h⟩ := gd h
      obtain ⟨r33, e34, h⟩ := gb h
      refine ec_getP (ci := 7) (j := 6) ⟨rfl, rfl, rfl⟩ g32 e34 rfl ?_
      refine ec_iconst cst_1 rfl ?_
      refine en_dup2 ⟨rfl, rfl⟩ rfl ?_
      obtain ⟨g35, h⟩ := gd h
      obtain ⟨g36, h⟩ := gd h
      refine ec_iaload g35 g36 rfl ?_
      refine ec_iconst cst_1 rfl ?_
      refine en_iadd rfl ?_
      obtain ⟨g37, h⟩ := gd h
      refine ec_iastore g35 g37 rfl ?_
      refine ec_iconst cst_m100000 rfl ?_
      cases h
      exact en_iret rfl
    · refine en_if_eq_f c29 rfl ?_
      refine en_aload rfl rfl ?_
      refine en_aload rfl rfl ?_
      obtain ⟨r38, e39, h⟩ := gb h
      refine ec_getP (ci := 9) (j := 13) ⟨rfl, rfl, rfl⟩ g1 e39 rfl ?_
      refine en_iload rfl rfl ?_
      refine en_iload rfl rfl ?_
      refine en_iload rfl rfl ?_
      obtain ⟨⟨q40, C41⟩, e42, h⟩ := gb h
      dsimp only at h
      refine ec_callV1 (k' := 152) (n := 5) (rc := 9) (a := a0) (as := [.ref r38, .int a1, .int a2, .int a3]) ⟨rfl, rfl⟩ rfl rfl (Nat.le_of_ble_eq_true rfl) (Nat.le_of_ble_eq_true rfl) (Nat.le_of_ble_eq_true rfl) g1 rfl (t_152 e42) ?_
      rcases gi h with ⟨c43, h⟩ | ⟨c43, h⟩
      · refine en_if_ne_t c43 rfl ?_
        refine en_aload rfl rfl ?_
        obtain ⟨r44, e45, h⟩ := gb h
        refine ec_getP (ci := 9) (j := 6) ⟨rfl, rfl, rfl⟩ g1 e45 rfl ?_
        obtain ⟨g46, h⟩ := gd h
        obtain ⟨r47, e48, h⟩ := gb h
        refine ec_getP (ci := 7) (j := 1) ⟨rfl, rfl, rfl⟩ g46 e48 rfl ?_
        refine en_aload rfl rfl ?_
        obtain ⟨r49, e50, h⟩ := gb h
        refine ec_getP (ci := 9) (j := 6) ⟨rfl, rfl, rfl⟩ g1 e50 rfl ?_
        obtain ⟨g51, h⟩ := gd h
        obtain ⟨r52, e53, h⟩ := gb h
        refine ec_getP (ci := 7) (j := 0) ⟨rfl, rfl, rfl⟩ g51 e53 rfl ?_
        obtain ⟨g54, h⟩ := gd h
        obtain ⟨⟨q55, C56⟩, e57, h⟩ := gb h
        dsimp only at h
        refine ec_callV0 (k' := 11) (n := 2) (rc := 1) (a := r47) (as := [.ref r52]) ⟨rfl, rfl⟩ rfl rfl (Nat.le_of_ble_eq_true rfl) (Nat.le_of_ble_eq_true rfl) (Nat.le_of_ble_eq_true rfl) g54 rfl (t_11 e57) ?_
        refine en_aload rfl rfl ?_
        obtain ⟨r58, e59, h⟩ := gb h
        refine ec_getP (ci := 9) (j := 6) ⟨rfl, rfl, rfl⟩ g1 e59 rfl ?_
        obtain ⟨g60, h⟩ := gd h
        obtain ⟨r61, e62, h⟩ := gb h
        refine ec_getP (ci := 7) (j := 0) ⟨rfl, rfl, rfl⟩ g60 e62 rfl ?_
        refine en_aload rfl rfl ?_
        obtain ⟨r63, e64, h⟩ := gb h
        refine ec_getP (ci := 9) (j := 13) ⟨rfl, rfl, rfl⟩ g1 e64 rfl ?_
        obtain ⟨g65, h⟩ := gd h
        obtain ⟨⟨q66, C67⟩, e68, h⟩ := gb h
        dsimp only at h
        refine ec_callV0 (k' := 72) (n := 2) (rc := 5) (a := r61) (as := [.ref r63]) ⟨rfl, rfl⟩ rfl rfl (Nat.le_of_ble_eq_true rfl) (Nat.le_of_ble_eq_true rfl) (Nat.le_of_ble_eq_true rfl) g65 rfl (t_72 e68) ?_
        refine en_iload rfl rfl ?_
        cases h
        exact en_iret rfl
      · refine en_if_ne_f c43 rfl ?_
        refine en_aload rfl rfl ?_
        obtain ⟨r69, e70, h⟩ := gb h
        refine ec_getP (ci := 9) (j := 6) ⟨rfl, rfl, rfl⟩ g1 e70 rfl ?_
        obtain ⟨g71, h⟩ := gd h
        obtain ⟨r72, e73, h⟩ := gb h
        refine ec_getP (ci := 7) (j := 6) ⟨rfl, rfl, rfl⟩ g71 e73 rfl ?_
        refine ec_iconst cst_1 rfl ?_
        refine en_dup2 ⟨rfl, rfl⟩ rfl ?_
        obtain ⟨g74, h⟩ := gd h
        obtain ⟨g75, h⟩ := gd h
        refine ec_iaload g74 g75 rfl ?_
        refine ec_iconst cst_1 rfl ?_
        refine en_iadd rfl ?_
        obtain ⟨g76, h⟩ := gd h
        refine ec_iastore g74 g76 rfl ?_
        refine ec_iconst cst_m100000 rfl ?_
        cases h
        exact en_iret rfl
  · dsimp only at h
    cases h
    exact ec_callVx (k' := 146) (n := 3) (rc := 9) (a := a0) (as := [.int a1, .int a2]) ⟨rfl, rfl⟩ rfl rfl (Nat.le_of_ble_eq_true rfl) (Nat.le_of_ble_eq_true rfl) (Nat.le_of_ble_eq_true rfl) g1 rfl (t_146 e4)
/-- BulkWriter.checkPlace(I)V -/
def f_145 (n : Nat) (a0 : Nat) (a1 : Int32) (C : AmC) : Option ((Unit ⊕ Nat) × AmC) := (f_148 n a1 C).bind (fun z => match z with | (q1, C2) => (if ¬ q1 = 0 then some (.inl (), C2) else some (.inr 0, C2)))
set_option maxRecDepth 20000 in
set_option maxHeartbeats 4000000 in
theorem t_145 {n : Nat} {a0 : Nat} {a1 : Int32} {C : AmC} {r : (Unit ⊕ Nat)} {C' : AmC} (h : f_145 n a0 a1 C = some (r, C')) : En false 145 0 [(0, .ref a0), (1, .int a1)] [] (mkM C) (ovV r) (mkM C') := by
  unfold f_145 at h
  refine en_iload rfl rfl ?_
  obtain ⟨⟨q1, C2⟩, e3, h⟩ := gb h
  dsimp only at h
  refine ec_callS1 (k' := 148) (n := 1) (as := [.int a1]) rfl rfl rfl (Nat.le_of_ble_eq_true rfl) (Nat.le_of_ble_eq_true rfl) (Nat.le_of_ble_eq_true rfl) rfl (t_148 e3) ?_
  rcases gi h with ⟨c4, h⟩ | ⟨c4, h⟩
  · refine en_if_ne_t c4 rfl ?_
    cases h
    exact en_vret rfl
  · refine en_if_ne_f c4 rfl ?_
    cases h
    exact en_throw (n := 0) rfl ⟨rfl, Nat.le_of_ble_eq_true rfl⟩
/-- BulkWriter.take(I)I -/
def f_133 (n : Nat) (a0 : Nat) (a1 : Int32) (C : AmC) : Option ((Int32 ⊕ Nat) × AmC) := if isK a0 9 = true then (f_145 n a0 a1 C).bind (fun z => match z with | (.inl _, C3) => (cP C3 a0 6).bind (fun r6 => if isK r6 7 = true then (cP C3 r6 0).bind (fun r9 => if isK r9 5 = true then (f_75 n r9 a1 C3).bind (fun z => match z with | (q12, C13) => (if ¬ q12 = 0 then (cP C13 a0 6).bind (fun r16 => if isK r16 7 = true then (cP C13 r16 1).bind (fun r19 => (cP C13 a0 6).bind (fun r21 => if isK r21 7 = true then (cP C13 r21 0).bind (fun r24 => if isK r19 1 = true then (f_11 n r19 r24 C13).bind (fun z => match z with | (_, C28) => (cP C28 a0 6).bind (fun r30 => if isK r30 7 = true then (cP C28 r30 0).bind (fun r33 => if isK r33 5 = true then (f_79 n r33 a1 C28).bind (fun z => match z with | (_, C37) => (cP C37 a0 6).bind (fun r39 => if isK r39 7 = true then (cP C37 r39 0).bind (fun r42 => if isK r42 5 = true then (f_81 n r42 C37).bind (fun z => match z with | (q45, C46) => some (.inl q45, C46)) else none) else none)) else none) else none)) else none) else none)) else none) else (cP C13 a0 6).bind (fun r48 => if isK r48 7 = true then (cP C13 r48 6).bind (fun r51 => if isK r51 12 = true then if amIn (1 : Int32) (aLen r51) = true then if amIn (1 : Int32) (aLen r51) = true then some (.inl (-1 : Int32), uI C13 r51 (Int32.toNatClampNeg (1 : Int32)) ((cI C13 r51 (Int32.toNatClampNeg (1 : Int32))) + (1 : Int32))) else none else none else none) else none))) else none) else none) | (.inr x5, C3) => some (.inr x5, C3)) else none
set_option maxRecDepth 20000 in
set_option maxHeartbeats 4000000 in
theorem t_133 {n : Nat} {a0 : Nat} {a1 : Int32} {C : AmC} {r : (Int32 ⊕ Nat)} {C' : AmC} (h : f_133 n a0 a1 C = some (r, C')) : En false 133 0 [(0, .ref a0), (1, .int a1)] [] (mkM C) (ovI r) (mkM C') := by
  unfold f_133 at h
  refine en_aload rfl rfl ?_
  refine en_iload rfl rfl ?_
  obtain ⟨g1, h⟩ := gd h
  obtain ⟨⟨q2, C3⟩, e4, h⟩ := gb h
  rcases q2 with q2 | x5
  · dsimp only at h
    refine ec_callV0 (k' := 145) (n := 2) (rc := 9) (a := a0) (as := [.int a1]) ⟨rfl, rfl⟩ rfl rfl (Nat.le_of_ble_eq_true rfl) (Nat.le_of_ble_eq_true rfl) (Nat.le_of_ble_eq_true rfl) g1 rfl (t_145 e4) ?_
    refine en_aload rfl rfl ?_
    obtain ⟨r6, e7, h⟩ := gb h
    refine ec_getP (ci := 9) (j := 6) ⟨rfl, rfl, rfl⟩ g1 e7 rfl ?_
    obtain ⟨g8, h⟩ := gd h
    obtain ⟨r9, e10, h⟩ := gb h
    refine ec_getP (ci := 7) (j := 0) ⟨rfl, rfl, rfl⟩ g8 e10 rfl ?_
    refine en_iload rfl rfl ?_
    obtain ⟨g11, h⟩ := gd h
    obtain ⟨⟨q12, C13⟩, e14, h⟩ := gb h
    dsimp only at h
    refine ec_callV1 (k' := 75) (n := 2) (rc := 5) (a := r9) (as := [.int a1]) ⟨rfl, rfl⟩ rfl rfl (Nat.le_of_ble_eq_true rfl) (Nat.le_of_ble_eq_true rfl) (Nat.le_of_ble_eq_true rfl) g11 rfl (t_75 e14) ?_
    rcases gi h with ⟨c15, h⟩ | ⟨c15, h⟩
    · refine en_if_ne_t c15 rfl ?_
      refine en_aload rfl rfl ?_
      obtain ⟨r16, e17, h⟩ := gb h
      refine ec_getP (ci := 9) (j := 6) ⟨rfl, rfl, rfl⟩ g1 e17 rfl ?_
      obtain ⟨g18, h⟩ := gd h
      obtain ⟨r19, e20, h⟩ := gb h
      refine ec_getP (ci := 7) (j := 1) ⟨rfl, rfl, rfl⟩ g18 e20 rfl ?_
      refine en_aload rfl rfl ?_
      obtain ⟨r21, e22, h⟩ := gb h
      refine ec_getP (ci := 9) (j := 6) ⟨rfl, rfl, rfl⟩ g1 e22 rfl ?_
      obtain ⟨g23, h⟩ := gd h
      obtain ⟨r24, e25, h⟩ := gb h
      refine ec_getP (ci := 7) (j := 0) ⟨rfl, rfl, rfl⟩ g23 e25 rfl ?_
      obtain ⟨g26, h⟩ := gd h
      obtain ⟨⟨q27, C28⟩, e29, h⟩ := gb h
      dsimp only at h
      refine ec_callV0 (k' := 11) (n := 2) (rc := 1) (a := r19) (as := [.ref r24]) ⟨rfl, rfl⟩ rfl rfl (Nat.le_of_ble_eq_true rfl) (Nat.le_of_ble_eq_true rfl) (Nat.le_of_ble_eq_true rfl) g26 rfl (t_11 e29) ?_
      refine en_aload rfl rfl ?_
      obtain ⟨r30, e31, h⟩ := gb h
      refine ec_getP (ci := 9) (j := 6) ⟨rfl, rfl, rfl⟩ g1 e31 rfl ?_
      obtain ⟨g32, h⟩ := gd h
      obtain ⟨r33, e34, h⟩ := gb h
      refine ec_getP (ci := 7) (j := 0) ⟨rfl, rfl, rfl⟩ g32 e34 rfl ?_
      refine en_iload rfl rfl ?_
      obtain ⟨g35, h⟩ := gd h
      obtain ⟨⟨q36, C37⟩, e38, h⟩ := gb h
      dsimp only at h
      refine ec_callV0 (k' := 79) (n := 2) (rc := 5) (a := r33) (as := [.int a1]) ⟨rfl, rfl⟩ rfl rfl (Nat.le_of_ble_eq_true rfl) (Nat.le_of_ble_eq_true rfl) (Nat.le_of_ble_eq_true rfl) g35 rfl (t_79 e38) ?_
      refine en_aload rfl rfl ?_
      obtain ⟨r39, e40, h⟩ := gb h
      refine ec_getP (ci := 9) (j := 6) ⟨rfl, rfl, rfl⟩ g1 e40 rfl ?_
      obtain ⟨g41, h⟩ := gd h
      obtain ⟨r42, e43, h⟩ := gb h
      refine ec_getP (ci := 7) (j := 0) ⟨rfl, rfl, rfl⟩ g41 e43 rfl ?_
      obtain ⟨g44, h⟩ := gd h
      obtain ⟨⟨q45, C46⟩, e47, h⟩ := gb h
      dsimp only at h
      refine ec_callV1 (k' := 81) (n := 1) (rc := 5) (a := r42) (as := []) ⟨rfl, rfl⟩ rfl rfl (Nat.le_of_ble_eq_true rfl) (Nat.le_of_ble_eq_true rfl) (Nat.le_of_ble_eq_true rfl) g44 rfl (t_81 e47) ?_
      cases h
      exact en_iret rfl
    · refine en_if_ne_f c15 rfl ?_
      refine en_aload rfl rfl ?_
      obtain ⟨r48, e49, h⟩ := gb h
      refine ec_getP (ci := 9) (j := 6) ⟨rfl, rfl, rfl⟩ g1 e49 rfl ?_
      obtain ⟨g50, h⟩ := gd h
      obtain ⟨r51, e52, h⟩ := gb h
      refine ec_getP (ci := 7) (j := 6) ⟨rfl, rfl, rfl⟩ g50 e52 rfl ?_
      refine ec_iconst cst_1 rfl ?_
      refine en_dup2 ⟨rfl, rfl⟩ rfl ?_
      obtain ⟨g53, h⟩ := gd h
      obtain ⟨g54, h⟩ := gd h
      refine ec_iaload g53 g54 rfl ?_
      refine ec_iconst cst_1 rfl ?_
      refine en_iadd rfl ?_
      obtain ⟨g55, h⟩ := gd h
      refine ec_iastore g53 g55 rfl ?_
      refine ec_iconst cst_m1 rfl ?_
      cases h
      exact en_iret rfl
  · dsimp only at h
    cases h
    exact ec_callVx (k' := 145) (n := 2) (rc := 9) (a := a0) (as := [.int a1]) ⟨rfl, rfl⟩ rfl rfl (Nat.le_of_ble_eq_true rfl) (Nat.le_of_ble_eq_true rfl) (Nat.le_of_ble_eq_true rfl) g1 rfl (t_145 e4)
/-- BulkWriter.undo()I -/
def f_134 (n : Nat) (a0 : Nat) (C : AmC) : Option (Int32 × AmC) := if isK a0 9 = true then (cP C a0 6).bind (fun r2 => if isK r2 7 = true then (cP C r2 1).bind (fun r5 => if isK r5 1 = true then (if ¬ (cI C r5 3) = 0 then (cP C a0 6).bind (fun r9 => if isK r9 7 = true then (cP C r9 1).bind (fun r12 => (cP C a0 6).bind (fun r14 => if isK r14 7 = true then (cP C r14 0).bind (fun r17 => if isK r12 1 = true then (f_12 n r12 r17 C).bind (fun z => match z with | (_, C21) => (cP C21 a0 6).bind (fun r23 => if isK r23 7 = true then (cP C21 r23 1).bind (fun r26 => if isK r26 1 = true then some ((cI C21 r26 3), C21) else none) else none)) else none) else none)) else none) else some ((-1 : Int32), C)) else none) else none) else none
set_option maxRecDepth 20000 in
set_option maxHeartbeats 4000000 in
theorem t_134 {n : Nat} {a0 : Nat} {C : AmC} {r : Int32} {C' : AmC} (h : f_134 n a0 C = some (r, C')) : En false 134 0 [(0, .ref a0)] [] (mkM C) (.inl (some (.int r))) (mkM C') := by
  unfold f_134 at h
  refine en_aload rfl rfl ?_
  obtain ⟨g1, h⟩ := gd h
  obtain ⟨r2, e3, h⟩ := gb h
  refine ec_getP (ci := 9) (j := 6) ⟨rfl, rfl, rfl⟩ g1 e3 rfl ?_
  obtain ⟨g4, h⟩ := gd h
  obtain ⟨r5, e6, h⟩ := gb h
  refine ec_getP (ci := 7) (j := 1) ⟨rfl, rfl, rfl⟩ g4 e6 rfl ?_
  obtain ⟨g7, h⟩ := gd h
  refine ec_getI (ci := 1) (j := 3) ⟨rfl, rfl, rfl⟩ g7 rfl ?_
  rcases gi h with ⟨c8, h⟩ | ⟨c8, h⟩
  · refine en_if_ne_t c8 rfl ?_
    refine en_aload rfl rfl ?_
    obtain ⟨r9, e10, h⟩ := gb h
    refine ec_getP (ci := 9) (j := 6) ⟨rfl, rfl, rfl⟩ g1 e10 rfl ?_
    obtain ⟨g11, h⟩ := gd h
    obtain ⟨r12, e13, h⟩ := gb h
    refine ec_getP (ci := 7) (j := 1) ⟨rfl, rfl, rfl⟩ g11 e13 rfl ?_
    refine en_aload rfl rfl ?_
    obtain ⟨r14, e15, h⟩ := gb h
    refine ec_getP (ci := 9) (j := 6) ⟨rfl, rfl, rfl⟩ g1 e15 rfl ?_
    obtain ⟨g16, h⟩ := gd h
    obtain ⟨r17, e18, h⟩ := gb h
    refine ec_getP (ci := 7) (j := 0) ⟨rfl, rfl, rfl⟩ g16 e18 rfl ?_
    obtain ⟨g19, h⟩ := gd h
    obtain ⟨⟨q20, C21⟩, e22, h⟩ := gb h
    dsimp only at h
    refine ec_callV0 (k' := 12) (n := 2) (rc := 1) (a := r12) (as := [.ref r17]) ⟨rfl, rfl⟩ rfl rfl (Nat.le_of_ble_eq_true rfl) (Nat.le_of_ble_eq_true rfl) (Nat.le_of_ble_eq_true rfl) g19 rfl (t_12 e22) ?_
    refine en_aload rfl rfl ?_
    obtain ⟨r23, e24, h⟩ := gb h
    refine ec_getP (ci := 9) (j := 6) ⟨rfl, rfl, rfl⟩ g1 e24 rfl ?_
    obtain ⟨g25, h⟩ := gd h
    obtain ⟨r26, e27, h⟩ := gb h
    refine ec_getP (ci := 7) (j := 1) ⟨rfl, rfl, rfl⟩ g25 e27 rfl ?_
    obtain ⟨g28, h⟩ := gd h
    refine ec_getI (ci := 1) (j := 3) ⟨rfl, rfl, rfl⟩ g28 rfl ?_
    cases h
    exact en_iret rfl
  · refine en_if_ne_f c8 rfl ?_
    refine ec_iconst cst_m1 rfl ?_
    cases h
    exact en_iret rfl
/-- BulkWriter.see(III)I -/
def f_135 (n : Nat) (a0 : Nat) (a1 : Int32) (a2 : Int32) (a3 : Int32) (C : AmC) : Option (Int32 × AmC) := (f_148 n a1 C).bind (fun z => match z with | (q1, C2) => (if q1 = 0 then if isK a0 9 = true then (cP C2 a0 6).bind (fun r6 => if isK r6 7 = true then (cP C2 r6 6).bind (fun r9 => if isK r9 12 = true then if amIn (2 : Int32) (aLen r9) = true then if amIn (2 : Int32) (aLen r9) = true then some ((-1 : Int32), uI C2 r9 (Int32.toNatClampNeg (2 : Int32)) ((cI C2 r9 (Int32.toNatClampNeg (2 : Int32))) + (1 : Int32))) else none else none else none) else none) else none else if isK a0 9 = true then (f_149 n a0 a2 C2).bind (fun z => match z with | (q15, C16) => (if q15 = 0 then (cP C16 a0 6).bind (fun r19 => if isK r19 7 = true then (cP C16 r19 6).bind (fun r22 => if isK r22 12 = true then if amIn (2 : Int32) (aLen r22) = true then if amIn (2 : Int32) (aLen r22) = true then some ((-1 : Int32), uI C16 r22 (Int32.toNatClampNeg (2 : Int32)) ((cI C16 r22 (Int32.toNatClampNeg (2 : Int32))) + (1 : Int32))) else none else none else none) else none) else (if a3 = (-100000 : Int32) then (cP C16 a0 6).bind (fun r28 => if isK r28 7 = true then (if (cI C16 r28 5) < (8 : Int32) then (cP C16 a0 6).bind (fun r32 => if isK r32 7 = true then (f_111 n r32 a1 a2 a3 C16).bind (fun z => match z with | (_, C36) => (cP C36 a0 6).bind (fun r38 => if isK r38 7 = true then some ((cI C36 r38 5), C36) else none)) else none) else (cP C16 a0 6).bind (fun r41 => if isK r41 7 = true then (cP C16 r41 6).bind (fun r44 => if isK r44 12 = true then if amIn (2 : Int32) (aLen r44) = true then if amIn (2 : Int32) (aLen r44) = true then some ((-1 : Int32), uI C16 r44 (Int32.toNatClampNeg (2 : Int32)) ((cI C16 r44 (Int32.toNatClampNeg (2 : Int32))) + (1 : Int32))) else none else none else none) else none)) else none) else (f_150 n a3 C16).bind (fun z => match z with | (q49, C50) => (if q49 = 0 then (cP C50 a0 6).bind (fun r53 => if isK r53 7 = true then (cP C50 r53 6).bind (fun r56 => if isK r56 12 = true then if amIn (2 : Int32) (aLen r56) = true then if amIn (2 : Int32) (aLen r56) = true then some ((-1 : Int32), uI C50 r56 (Int32.toNatClampNeg (2 : Int32)) ((cI C50 r56 (Int32.toNatClampNeg (2 : Int32))) + (1 : Int32))) else none else none else none) else none) else (cP C50 a0 6).bind (fun r61 => if isK r61 7 = true then (if (cI C50 r61 5) < (8 : Int32) then (cP C50 a0 6).bind (fun r65 => if isK r65 7 = true then (f_111 n r65 a1 a2 a3 C50).bind (fun z => match z with | (_, C69) => (cP C69 a0 6).bind (fun r71 => if isK r71 7 = true then some ((cI C69 r71 5), C69) else none)) else none) else (cP C50 a0 6).bind (fun r74 => if isK r74 7 = true then (cP C50 r74 6).bind (fun r77 => if isK r77 12 = true then if amIn (2 : Int32) (aLen r77) = true then if amIn (2 : Int32) (aLen r77) = true then some ((-1 : Int32), uI C50 r77 (Int32.toNatClampNeg (2 : Int32)) ((cI C50 r77 (Int32.toNatClampNeg (2 : Int32))) + (1 : Int32))) else none else none else none) else none)) else none)))))) else none))
set_option maxRecDepth 20000 in
set_option maxHeartbeats 4000000 in
theorem t_135 {n : Nat} {a0 : Nat} {a1 : Int32} {a2 : Int32} {a3 : Int32} {C : AmC} {r : Int32} {C' : AmC} (h : f_135 n a0 a1 a2 a3 C = some (r, C')) : En false 135 0 [(0, .ref a0), (1, .int a1), (2, .int a2), (3, .int a3)] [] (mkM C) (.inl (some (.int r))) (mkM C') := by
  unfold f_135 at h
  refine en_iload rfl rfl ?_
  obtain ⟨⟨q1, C2⟩, e3, h⟩ := gb h
  dsimp only at h
  refine ec_callS1 (k' := 148) (n := 1) (as := [.int a1]) rfl rfl rfl (Nat.le_of_ble_eq_true rfl) (Nat.le_of_ble_eq_true rfl) (Nat.le_of_ble_eq_true rfl) rfl (t_148 e3) ?_
  rcases gi h with ⟨c4, h⟩ | ⟨c4, h⟩
  · refine en_if_eq_t c4 rfl ?_
    refine ec_iconst cst_0 rfl ?_
    refine en_istore (l' := [(4, .int (0 : Int32)), (0, .ref a0), (1, .int a1), (2, .int a2), (3, .int a3)]) rfl rfl ?_
    refine en_iload rfl rfl ?_
    refine en_if_eq_t (by decide) rfl ?_
    refine en_aload rfl rfl ?_
    obtain ⟨g5, h⟩ := gd h
    obtain ⟨r6, e7, h⟩ := gb h
    refine ec_getP (ci := 9) (j := 6) ⟨rfl, rfl, rfl⟩ g5 e7 rfl ?_
    obtain ⟨g8, h⟩ := gd h
    obtain ⟨r9, e10, h⟩ := gb h
    refine ec_getP (ci := 7) (j := 6) ⟨rfl, rfl, rfl⟩ g8 e10 rfl ?_
    refine ec_iconst cst_2 rfl ?_
    refine en_dup2 ⟨rfl, rfl⟩ rfl ?_
    obtain ⟨g11, h⟩ := gd h
    obtain ⟨g12, h⟩ := gd h
    refine ec_iaload g11 g12 rfl ?_
    refine ec_iconst cst_1 rfl ?_
    refine en_iadd rfl ?_
    obtain ⟨g13, h⟩ := gd h
    refine ec_iastore g11 g13 rfl ?_
    refine ec_iconst cst_m1 rfl ?_
    cases h
    exact en_iret rfl
  · refine en_if_eq_f c4 rfl ?_
    refine en_aload rfl rfl ?_
    refine en_iload rfl rfl ?_
    obtain ⟨g14, h⟩ := gd h
    obtain ⟨⟨q15, C16⟩, e17, h⟩ := gb h
    dsimp only at h
    refine ec_callV1 (k' := 149) (n := 2) (rc := 9) (a := a0) (as := [.int a2]) ⟨rfl, rfl⟩ rfl rfl (Nat.le_of_ble_eq_true rfl) (Nat.le_of_ble_eq_true rfl) (Nat.le_of_ble_eq_true rfl) g14 rfl (t_149 e17) ?_
    rcases gi h with ⟨c18, h⟩ | ⟨c18, h⟩
    · refine en_if_eq_t c18 rfl ?_
      refine ec_iconst cst_0 rfl ?_
      refine en_istore (l' := [(4, .int (0 : Int32)), (0, .ref a0), (1, .int a1), (2, .int a2), (3, .int a3)]) rfl rfl ?_
      refine en_iload rfl rfl ?_
      refine en_if_eq_t (by decide) rfl ?_
      refine en_aload rfl rfl ?_
      obtain ⟨r19, e20, h⟩ := gb h
      refine ec_getP (ci := 9) (j := 6) ⟨rfl, rfl, rfl⟩ g14 e20 rfl ?_
      obtain ⟨g21, h⟩ := gd h
      obtain ⟨r22, e23, h⟩ := gb h
      refine ec_getP (ci := 7) (j := 6) ⟨rfl, rfl, rfl⟩ g21 e23 rfl ?_
      refine ec_iconst cst_2 rfl ?_
      refine en_dup2 ⟨rfl, rfl⟩ rfl ?_
      obtain ⟨g24, h⟩ := gd h
      obtain ⟨g25, h⟩ := gd h
      refine ec_iaload g24 g25 rfl ?_
      refine ec_iconst cst_1 rfl ?_
      refine en_iadd rfl ?_
      obtain ⟨g26, h⟩ := gd h
      refine ec_iastore g24 g26 rfl ?_
      refine ec_iconst cst_m1 rfl ?_
      cases h
      exact en_iret rfl
    · refine en_if_eq_f c18 rfl ?_
      refine en_iload rfl rfl ?_
      refine ec_iconst cst_m100000 rfl ?_
      rcases gi h with ⟨c27, h⟩ | ⟨c27, h⟩
      · refine en_icmp_eq_t c27 rfl ?_
        refine ec_iconst cst_1 rfl ?_
        refine en_goto rfl ?_
        refine en_istore (l' := [(4, .int (1 : Int32)), (0, .ref a0), (1, .int a1), (2, .int a2), (3, .int a3)]) rfl rfl ?_
        refine en_iload rfl rfl ?_
        refine en_if_eq_f (by decide) rfl ?_
        refine en_aload rfl rfl ?_
        obtain ⟨r28, e29, h⟩ := gb h
        refine ec_getP (ci := 9) (j := 6) ⟨rfl, rfl, rfl⟩ g14 e29 rfl ?_
        obtain ⟨g30, h⟩ := gd h
        refine ec_getI (ci := 7) (j := 5) ⟨rfl, rfl, rfl⟩ g30 rfl ?_
        refine ec_iconst cst_8 rfl ?_
        rcases gi h with ⟨c31, h⟩ | ⟨c31, h⟩
        · refine en_icmp_lt_t c31 rfl ?_
          refine en_aload rfl rfl ?_
          obtain ⟨r32, e33, h⟩ := gb h
          refine ec_getP (ci := 9) (j := 6) ⟨rfl, rfl, rfl⟩ g14 e33 rfl ?_
          refine en_iload rfl rfl ?_
          refine en_iload rfl rfl ?_
          refine en_iload rfl rfl ?_
          obtain ⟨g34, h⟩ := gd h
          obtain ⟨⟨q35, C36⟩, e37, h⟩ := gb h
          dsimp only at h
          refine ec_callV0 (k' := 111) (n := 4) (rc := 7) (a := r32) (as := [.int a1, .int a2, .int a3]) ⟨rfl, rfl⟩ rfl rfl (Nat.le_of_ble_eq_true rfl) (Nat.le_of_ble_eq_true rfl) (Nat.le_of_ble_eq_true rfl) g34 rfl (t_111 e37) ?_
          refine en_aload rfl rfl ?_
          obtain ⟨r38, e39, h⟩ := gb h
          refine ec_getP (ci := 9) (j := 6) ⟨rfl, rfl, rfl⟩ g14 e39 rfl ?_
          obtain ⟨g40, h⟩ := gd h
          refine ec_getI (ci := 7) (j := 5) ⟨rfl, rfl, rfl⟩ g40 rfl ?_
          cases h
          exact en_iret rfl
        · refine en_icmp_lt_f c31 rfl ?_
          refine en_aload rfl rfl ?_
          obtain ⟨r41, e42, h⟩ := gb h
          refine ec_getP (ci := 9) (j := 6) ⟨rfl, rfl, rfl⟩ g14 e42 rfl ?_
          obtain ⟨g43, h⟩ := gd h
          obtain ⟨r44, e45, h⟩ := gb h
          refine ec_getP (ci := 7) (j := 6) ⟨rfl, rfl, rfl⟩ g43 e45 rfl ?_
          refine ec_iconst cst_2 rfl ?_
          refine en_dup2 ⟨rfl, rfl⟩ rfl ?_
          obtain ⟨g46, h⟩ := gd h
          obtain ⟨g47, h⟩ := gd h
          refine ec_iaload g46 g47 rfl ?_
          refine ec_iconst cst_1 rfl ?_
          refine en_iadd rfl ?_
          obtain ⟨g48, h⟩ := gd h
          refine ec_iastore g46 g48 rfl ?_
          refine ec_iconst cst_m1 rfl ?_
          cases h
          exact en_iret rfl
      · refine en_icmp_eq_f c27 rfl ?_
        refine en_iload rfl rfl ?_
        obtain ⟨⟨q49, C50⟩, e51, h⟩ := gb h
        dsimp only at h
        refine ec_callS1 (k' := 150) (n := 1) (as := [.int a3]) rfl rfl rfl (Nat.le_of_ble_eq_true rfl) (Nat.le_of_ble_eq_true rfl) (Nat.le_of_ble_eq_true rfl) rfl (t_150 e51) ?_
        rcases gi h with ⟨c52, h⟩ | ⟨c52, h⟩
        · refine en_if_eq_t c52 rfl ?_
          refine ec_iconst cst_0 rfl ?_
          refine en_istore (l' := [(4, .int (0 : Int32)), (0, .ref a0), (1, .int a1), (2, .int a2), (3, .int a3)]) rfl rfl ?_
          refine en_iload rfl rfl ?_
          refine en_if_eq_t (by decide) rfl ?_
          refine en_aload rfl rfl ?_
          obtain ⟨r53, e54, h⟩ := gb h
          refine ec_getP (ci := 9) (j := 6) ⟨rfl, rfl, rfl⟩ g14 e54 rfl ?_
          obtain ⟨g55, h⟩ := gd h
          obtain ⟨r56, e57, h⟩ := gb h
          refine ec_getP (ci := 7) (j := 6) ⟨rfl, rfl, rfl⟩ g55 e57 rfl ?_
          refine ec_iconst cst_2 rfl ?_
          refine en_dup2 ⟨rfl, rfl⟩ rfl ?_
          obtain ⟨g58, h⟩ := gd h
          obtain ⟨g59, h⟩ := gd h
          refine ec_iaload g58 g59 rfl ?_
          refine ec_iconst cst_1 rfl ?_
          refine en_iadd rfl ?_
          obtain ⟨g60, h⟩ := gd h
          refine ec_iastore g58 g60 rfl ?_
          refine ec_iconst cst_m1 rfl ?_
          cases h
          exact en_iret rfl
        · refine en_if_eq_f c52 rfl ?_
          refine ec_iconst cst_1 rfl ?_
          refine en_goto rfl ?_
          refine en_istore (l' := [(4, .int (1 : Int32)), (0, .ref a0), (1, .int a1), (2, .int a2), (3, .int a3)]) rfl rfl ?_
          refine en_iload rfl rfl ?_
          refine en_if_eq_f (by decide) rfl ?_
          refine en_aload rfl rfl ?_
          obtain ⟨r61, e62, h⟩ := gb h
          refine ec_getP (ci := 9) (j := 6) ⟨rfl, rfl, rfl⟩ g14 e62 rfl ?_
          obtain ⟨g63, h⟩ := gd h
          refine ec_getI (ci := 7) (j := 5) ⟨rfl, rfl, rfl⟩ g63 rfl ?_
          refine ec_iconst cst_8 rfl ?_
          rcases gi h with ⟨c64, h⟩ | ⟨c64, h⟩
          · refine en_icmp_lt_t c64 rfl ?_
            refine en_aload rfl rfl ?_
            obtain ⟨r65, e66, h⟩ := gb h
            refine ec_getP (ci := 9) (j := 6) ⟨rfl, rfl, rfl⟩ g14 e66 rfl ?_
            refine en_iload rfl rfl ?_
            refine en_iload rfl rfl ?_
            refine en_iload rfl rfl ?_
            obtain ⟨g67, h⟩ := gd h
            obtain ⟨⟨q68, C69⟩, e70, h⟩ := gb h
            dsimp only at h
            refine ec_callV0 (k' := 111) (n := 4) (rc := 7) (a := r65) (as := [.int a1, .int a2, .int a3]) ⟨rfl, rfl⟩ rfl rfl (Nat.le_of_ble_eq_true rfl) (Nat.le_of_ble_eq_true rfl) (Nat.le_of_ble_eq_true rfl) g67 rfl (t_111 e70) ?_
            refine en_aload rfl rfl ?_
            obtain ⟨r71, e72, h⟩ := gb h
            refine ec_getP (ci := 9) (j := 6) ⟨rfl, rfl, rfl⟩ g14 e72 rfl ?_
            obtain ⟨g73, h⟩ := gd h
            refine ec_getI (ci := 7) (j := 5) ⟨rfl, rfl, rfl⟩ g73 rfl ?_
            cases h
            exact en_iret rfl
          · refine en_icmp_lt_f c64 rfl ?_
            refine en_aload rfl rfl ?_
            obtain ⟨r74, e75, h⟩ := gb h
            refine ec_getP (ci := 9) (j := 6) ⟨rfl, rfl, rfl⟩ g14 e75 rfl ?_
            obtain ⟨g76, h⟩ := gd h
            obtain ⟨r77, e78, h⟩ := gb h
            refine ec_getP (ci := 7) (j := 6) ⟨rfl, rfl, rfl⟩ g76 e78 rfl ?_
            refine ec_iconst cst_2 rfl ?_
            refine en_dup2 ⟨rfl, rfl⟩ rfl ?_
            obtain ⟨g79, h⟩ := gd h
            obtain ⟨g80, h⟩ := gd h
            refine ec_iaload g79 g80 rfl ?_
            refine ec_iconst cst_1 rfl ?_
            refine en_iadd rfl ?_
            obtain ⟨g81, h⟩ := gd h
            refine ec_iastore g79 g81 rfl ?_
            refine ec_iconst cst_m1 rfl ?_
            cases h
            exact en_iret rfl
/-- BulkWriter.fitsBehind(I)Z -/
def f_153 (n : Nat) (a0 : Nat) (a1 : Int32) (C : AmC) : Option (Int32 × AmC) := if isK a0 9 = true then (cP C a0 9).bind (fun r2 => (cP C a0 4).bind (fun r4 => (cP C a0 6).bind (fun r6 => if isK r6 7 = true then (cP C r6 0).bind (fun r9 => if isK r2 3 = true then (f_45 n r2 r4 a1 (0 : Int32) (3 : Int32) r9 C).bind (fun z => match z with | (_, C13) => (cP C13 a0 13).bind (fun r15 => (cP C13 a0 9).bind (fun r17 => if isK r17 3 = true then (if ¬ (cI C13 r17 11) = 0 then (cP C13 a0 6).bind (fun r21 => if isK r21 7 = true then (cP C13 r21 0).bind (fun r24 => if isK r15 5 = true then (f_72 n r15 r24 C13).bind (fun z => match z with | (_, C28) => (cP C28 a0 6).bind (fun r30 => (cP C28 a0 13).bind (fun r32 => if isK r30 7 = true then (f_112 n r30 r32 C28).bind (fun z => match z with | (q35, C36) => if q35 = 0 ∨ q35 = 1 then some (q35, C36) else none) else none))) else none) else none) else (cP C13 a0 9).bind (fun r39 => if isK r39 3 = true then (cP C13 r39 0).bind (fun r42 => if isK r15 5 = true then (f_72 n r15 r42 C13).bind (fun z => match z with | (_, C46) => (cP C46 a0 6).bind (fun r48 => (cP C46 a0 13).bind (fun r50 => if isK r48 7 = true then (f_112 n r48 r50 C46).bind (fun z => match z with | (q53, C54) => if q53 = 0 ∨ q53 = 1 then some (q53, C54) else none) else none))) else none) else none)) else none))) else none) else none))) else none
set_option maxRecDepth 20000 in
set_option maxHeartbeats 4000000 in
theorem t_153 {n : Nat} {a0 : Nat} {a1 : Int32} {C : AmC} {r : Int32} {C' : AmC} (h : f_153 n a0 a1 C = some (r, C')) : En false 153 0 [(0, .ref a0), (1, .int a1)] [] (mkM C) (.inl (some (.int r))) (mkM C') := by
  unfold f_153 at h
  refine en_aload rfl rfl ?_
  obtain ⟨g1, h⟩ := gd h
  obtain ⟨r2, e3, h⟩ := gb h
  refine ec_getP (ci := 9) (j := 9) ⟨rfl, rfl, rfl⟩ g1 e3 rfl ?_
  refine en_aload rfl rfl ?_
  obtain ⟨r4, e5, h⟩ := gb h
  refine ec_getP (ci := 9) (j := 4) ⟨rfl, rfl, rfl⟩ g1 e5 rfl ?_
  refine en_iload rfl rfl ?_
  refine ec_iconst cst_0 rfl ?_
  refine ec_iconst cst_3 rfl ?_
  refine en_aload rfl rfl ?_
  obtain ⟨r6, e7, h⟩ := gb h
  refine ec_getP (ci := 9) (j := 6) ⟨rfl, rfl, rfl⟩ g1 e7 rfl ?_
  obtain ⟨g8, h⟩ := gd h
  obtain ⟨r9, e10, h⟩ := gb h
  refine ec_getP (ci := 7) (j := 0) ⟨rfl, rfl, rfl⟩ g8 e10 rfl ?_
  obtain ⟨g11, h⟩ := gd h
  obtain ⟨⟨q12, C13⟩, e14, h⟩ := gb h
  dsimp only at h
  refine ec_callV0 (k' := 45) (n := 6) (rc := 3) (a := r2) (as := [.ref r4, .int a1, .int (0 : Int32), .int (3 : Int32), .ref r9]) ⟨rfl, rfl⟩ rfl rfl (Nat.le_of_ble_eq_true rfl) (Nat.le_of_ble_eq_true rfl) (Nat.le_of_ble_eq_true rfl) g11 rfl (t_45 e14) ?_
  refine en_aload rfl rfl ?_
  obtain ⟨r15, e16, h⟩ := gb h
  refine ec_getP (ci := 9) (j := 13) ⟨rfl, rfl, rfl⟩ g1 e16 rfl ?_
  refine en_aload rfl rfl ?_
  obtain ⟨r17, e18, h⟩ := gb h
  refine ec_getP (ci := 9) (j := 9) ⟨rfl, rfl, rfl⟩ g1 e18 rfl ?_
  obtain ⟨g19, h⟩ := gd h
  refine ec_getI (ci := 3) (j := 11) ⟨rfl, rfl, rfl⟩ g19 rfl ?_
  rcases gi h with ⟨c20, h⟩ | ⟨c20, h⟩
  · refine en_if_ne_t c20 rfl ?_
    refine en_aload rfl rfl ?_
    obtain ⟨r21, e22, h⟩ := gb h
    refine ec_getP (ci := 9) (j := 6) ⟨rfl, rfl, rfl⟩ g1 e22 rfl ?_
    obtain ⟨g23, h⟩ := gd h
    obtain ⟨r24, e25, h⟩ := gb h
    refine ec_getP (ci := 7) (j := 0) ⟨rfl, rfl, rfl⟩ g23 e25 rfl ?_
    obtain ⟨g26, h⟩ := gd h
    obtain ⟨⟨q27, C28⟩, e29, h⟩ := gb h
    dsimp only at h
    refine ec_callV0 (k' := 72) (n := 2) (rc := 5) (a := r15) (as := [.ref r24]) ⟨rfl, rfl⟩ rfl rfl (Nat.le_of_ble_eq_true rfl) (Nat.le_of_ble_eq_true rfl) (Nat.le_of_ble_eq_true rfl) g26 rfl (t_72 e29) ?_
    refine en_aload rfl rfl ?_
    obtain ⟨r30, e31, h⟩ := gb h
    refine ec_getP (ci := 9) (j := 6) ⟨rfl, rfl, rfl⟩ g1 e31 rfl ?_
    refine en_aload rfl rfl ?_
    obtain ⟨r32, e33, h⟩ := gb h
    refine ec_getP (ci := 9) (j := 13) ⟨rfl, rfl, rfl⟩ g1 e33 rfl ?_
    obtain ⟨g34, h⟩ := gd h
    obtain ⟨⟨q35, C36⟩, e37, h⟩ := gb h
    dsimp only at h
    refine ec_callV1 (k' := 112) (n := 2) (rc := 7) (a := r30) (as := [.ref r32]) ⟨rfl, rfl⟩ rfl rfl (Nat.le_of_ble_eq_true rfl) (Nat.le_of_ble_eq_true rfl) (Nat.le_of_ble_eq_true rfl) g34 rfl (t_112 e37) ?_
    obtain ⟨g38, h⟩ := gd h
    cases h
    exact en_zret g38 rfl
  · refine en_if_ne_f c20 rfl ?_
    refine en_aload rfl rfl ?_
    obtain ⟨r39, e40, h⟩ := gb h
    refine ec_getP (ci := 9) (j := 9) ⟨rfl, rfl, rfl⟩ g1 e40 rfl ?_
    obtain ⟨g41, h⟩ := gd h
    obtain ⟨r42, e43, h⟩ := gb h
    refine ec_getP (ci := 3) (j := 0) ⟨rfl, rfl, rfl⟩ g41 e43 rfl ?_
    refine en_goto rfl ?_
    obtain ⟨g44, h⟩ := gd h
    obtain ⟨⟨q45, C46⟩, e47, h⟩ := gb h
    dsimp only at h
    refine ec_callV0 (k' := 72) (n := 2) (rc := 5) (a := r15) (as := [.ref r42]) ⟨rfl, rfl⟩ rfl rfl (Nat.le_of_ble_eq_true rfl) (Nat.le_of_ble_eq_true rfl) (Nat.le_of_ble_eq_true rfl) g44 rfl (t_72 e47) ?_
    refine en_aload rfl rfl ?_
    obtain ⟨r48, e49, h⟩ := gb h
    refine ec_getP (ci := 9) (j := 6) ⟨rfl, rfl, rfl⟩ g1 e49 rfl ?_
    refine en_aload rfl rfl ?_
    obtain ⟨r50, e51, h⟩ := gb h
    refine ec_getP (ci := 9) (j := 13) ⟨rfl, rfl, rfl⟩ g1 e51 rfl ?_
    obtain ⟨g52, h⟩ := gd h
    obtain ⟨⟨q53, C54⟩, e55, h⟩ := gb h
    dsimp only at h
    refine ec_callV1 (k' := 112) (n := 2) (rc := 7) (a := r48) (as := [.ref r50]) ⟨rfl, rfl⟩ rfl rfl (Nat.le_of_ble_eq_true rfl) (Nat.le_of_ble_eq_true rfl) (Nat.le_of_ble_eq_true rfl) g52 rfl (t_112 e55) ?_
    obtain ⟨g56, h⟩ := gd h
    cases h
    exact en_zret g56 rfl
def lp_136_4 : Nat → Nat → Int32 → Int32 → AmC → Option (((Int32)) × AmC)
  | 0, _, _, _, _ => none
  | n + 1, p0, p1, p2, C => if isK p0 9 = true then (cP C p0 4).bind (fun r2 => if isK r2 6 = true then (if (cI C r2 8) ≤ p2 then some (p1, C) else (f_153 n p0 p2 C).bind (fun z => match z with | (q6, C7) => (if q6 = 0 then lp_136_4 n p0 p1 (p2 + (1 : Int32)) C7 else lp_136_4 n p0 (p1 ||| ((1 : Int32) <<< (p2 &&& 31))) (p2 + (1 : Int32)) C7))) else none) else none
set_option maxRecDepth 20000 in
set_option maxHeartbeats 4000000 in
theorem lt_136_4 : ∀ (n : Nat) (p0 : Nat) (p1 : Int32) (p2 : Int32) (C : AmC) (r : ((Int32)) × AmC), lp_136_4 n p0 p1 p2 C = some r → ∀ (o : AmO) (M' : AmM), (match r with
        | (w1, C') => En false 136 21 [(1, .int w1)] [] (mkM C') o M') → En false 136 4 [(0, .ref p0), (1, .int p1), (2, .int p2)] [] (mkM C) o M' := by
  intro n
  induction n with
  | zero => intro p0 p1 p2 C r h; cases h
  | succ n ih =>
    intro p0 p1 p2 C r h o M' hk
    unfold lp_136_4 at h
    refine en_iload rfl rfl ?_
    refine en_aload rfl rfl ?_
    obtain ⟨g1, h⟩ := gd h
    obtain ⟨r2, e3, h⟩ := gb h
    refine ec_getP (ci := 9) (j := 4) ⟨rfl, rfl, rfl⟩ g1 e3 rfl ?_
    obtain ⟨g4, h⟩ := gd h
    refine ec_getI (ci := 6) (j := 8) ⟨rfl, rfl, rfl⟩ g4 rfl ?_
    rcases gi h with ⟨c5, h⟩ | ⟨c5, h⟩
    · refine en_icmp_ge_t c5 rfl ?_
      cases h
      exact en_sub [1] rfl rfl hk
    · refine en_icmp_ge_f c5 rfl ?_
      refine en_aload rfl rfl ?_
      refine en_iload rfl rfl ?_
      obtain ⟨⟨q6, C7⟩, e8, h⟩ := gb h
      dsimp only at h
      refine ec_callV1 (k' := 153) (n := 2) (rc := 9) (a := p0) (as := [.int p2]) ⟨rfl, rfl⟩ rfl rfl (Nat.le_of_ble_eq_true rfl) (Nat.le_of_ble_eq_true rfl) (Nat.le_of_ble_eq_true rfl) g1 rfl (t_153 e8) ?_
      rcases gi h with ⟨c9, h⟩ | ⟨c9, h⟩
      · refine en_if_eq_t c9 rfl ?_
        refine ec_iinc (l' := [(2, .int (p2 + (1 : Int32))), (0, .ref p0), (1, .int p1)]) rfl cst_1 rfl rfl ?_
        refine en_goto rfl ?_
        refine en_sub [1, 2, 0] rfl rfl ?_
        exact ih _ _ _ _ _ h o M' hk
      · refine en_if_eq_f c9 rfl ?_
        refine en_iload rfl rfl ?_
        refine ec_iconst cst_1 rfl ?_
        refine en_iload rfl rfl ?_
        refine en_ishl rfl ?_
        refine en_ior rfl ?_
        refine en_istore (l' := [(1, .int (p1 ||| ((1 : Int32) <<< (p2 &&& 31)))), (0, .ref p0), (2, .int p2)]) rfl rfl ?_
        refine ec_iinc (l' := [(2, .int (p2 + (1 : Int32))), (1, .int (p1 ||| ((1 : Int32) <<< (p2 &&& 31)))), (0, .ref p0)]) rfl cst_1 rfl rfl ?_
        refine en_goto rfl ?_
        refine en_sub [2, 1, 0] rfl rfl ?_
        exact ih _ _ _ _ _ h o M' hk
/-- BulkWriter.fits()I -/
def f_136 (n : Nat) (a0 : Nat) (C : AmC) : Option (Int32 × AmC) := (lp_136_4 n a0 (0 : Int32) (0 : Int32) C).bind (fun q => match q with | (u13, C12) => some (u13, C12))
set_option maxRecDepth 20000 in
set_option maxHeartbeats 4000000 in
theorem t_136 {n : Nat} {a0 : Nat} {C : AmC} {r : Int32} {C' : AmC} (h : f_136 n a0 C = some (r, C')) : En false 136 0 [(0, .ref a0)] [] (mkM C) (.inl (some (.int r))) (mkM C') := by
  unfold f_136 at h
  refine ec_iconst cst_0 rfl ?_
  refine en_istore (l' := [(1, .int (0 : Int32)), (0, .ref a0)]) rfl rfl ?_
  refine ec_iconst cst_0 rfl ?_
  refine en_istore (l' := [(2, .int (0 : Int32)), (1, .int (0 : Int32)), (0, .ref a0)]) rfl rfl ?_
  obtain ⟨⟨q10, C12⟩, e11, h⟩ := gb h
  refine en_sub [2, 1, 0] rfl rfl (lt_136_4 n _ _ _ _ _ e11 _ _ ?_)
  revert h e11; revert q10; intro u13 e11 h
  dsimp only at h ⊢
  refine en_iload rfl rfl ?_
  cases h
  exact en_iret rfl
def lp_154_22 : Nat → Nat → Int32 → Int32 → Int32 → Int32 → Int32 → Int32 → Int32 → Int32 → AmC → Option (((Nat × Int32 × Int32 × Int32 × Int32 × Int32 × Int32)) × AmC)
  | 0, _, _, _, _, _, _, _, _, _, _ => none
  | n + 1, p0, p1, p2, p3, p4, p5, p6, p7, p8, C => (if p5 ≤ p8 then some ((p0, p1, p2, p3, p4, p5, p7), C) else if isK p0 9 = true then (cP C p0 14).bind (fun r16 => if isK r16 14 = true then if amIn p8 (aLen r16) = true then (cP C r16 (Int32.toNatClampNeg p8)).bind (fun r20 => if isK r20 5 = true then (f_76 n r20 p1 p2 C).bind (fun z => match z with | (q23, C24) => (if ¬ q23 = p6 then lp_154_22 n p0 p1 p2 p3 p4 p5 p6 p7 (p8 + (1 : Int32)) C24 else lp_154_22 n p0 p1 p2 p3 p4 p5 p6 (0 : Int32) (p8 + (1 : Int32)) C24)) else none) else none else none) else none)
set_option maxRecDepth 20000 in
set_option maxHeartbeats 4000000 in
theorem lt_154_22 : ∀ (n : Nat) (p0 : Nat) (p1 : Int32) (p2 : Int32) (p3 : Int32) (p4 : Int32) (p5 : Int32) (p6 : Int32) (p7 : Int32) (p8 : Int32) (C : AmC) (r : ((Nat × Int32 × Int32 × Int32 × Int32 × Int32 × Int32)) × AmC), lp_154_22 n p0 p1 p2 p3 p4 p5 p6 p7 p8 C = some r → ∀ (o : AmO) (M' : AmM), (match r with
        | ((w0, w1, w2, w3, w4, w5, w7), C') => En false 154 38 [(0, .ref w0), (1, .int w1), (2, .int w2), (3, .int w3), (4, .int w4), (5, .int w5), (7, .int w7)] [] (mkM C') o M') → En false 154 22 [(0, .ref p0), (1, .int p1), (2, .int p2), (3, .int p3), (4, .int p4), (5, .int p5), (6, .int p6), (7, .int p7), (8, .int p8)] [] (mkM C) o M' := by
  intro n
  induction n with
  | zero => intro p0 p1 p2 p3 p4 p5 p6 p7 p8 C r h; cases h
  | succ n ih =>
    intro p0 p1 p2 p3 p4 p5 p6 p7 p8 C r h o M' hk
    unfold lp_154_22 at h
    refine en_iload rfl rfl ?_
    refine en_iload rfl rfl ?_
    rcases gi h with ⟨c14, h⟩ | ⟨c14, h⟩
    · refine en_icmp_ge_t c14 rfl ?_
      cases h
      exact en_sub [0, 1, 2, 3, 4, 5, 7] rfl rfl hk
    · refine en_icmp_ge_f c14 rfl ?_
      refine en_aload rfl rfl ?_
      obtain ⟨g15, h⟩ := gd h
      obtain ⟨r16, e17, h⟩ := gb h
      refine ec_getP (ci := 9) (j := 14) ⟨rfl, rfl, rfl⟩ g15 e17 rfl ?_
      refine en_iload rfl rfl ?_
      obtain ⟨g18, h⟩ := gd h
      obtain ⟨g19, h⟩ := gd h
      obtain ⟨r20, e21, h⟩ := gb h
      refine ec_aaload g18 (by decide) g19 e21 rfl ?_
      refine en_iload rfl rfl ?_
      refine en_iload rfl rfl ?_
      obtain ⟨g22, h⟩ := gd h
      obtain ⟨⟨q23, C24⟩, e25, h⟩ := gb h
      dsimp only at h
      refine ec_callV1 (k' := 76) (n := 3) (rc := 5) (a := r20) (as := [.int p1, .int p2]) ⟨rfl, rfl⟩ rfl rfl (Nat.le_of_ble_eq_true rfl) (Nat.le_of_ble_eq_true rfl) (Nat.le_of_ble_eq_true rfl) g22 rfl (t_76 e25) ?_
      refine en_iload rfl rfl ?_
      rcases gi h with ⟨c26, h⟩ | ⟨c26, h⟩
      · refine en_icmp_ne_t c26 rfl ?_
        refine ec_iinc (l' := [(8, .int (p8 + (1 : Int32))), (0, .ref p0), (1, .int p1), (2, .int p2), (3, .int p3), (4, .int p4), (5, .int p5), (6, .int p6), (7, .int p7)]) rfl cst_1 rfl rfl ?_
        refine en_goto rfl ?_
        refine en_sub [1, 2, 3, 4, 5, 6, 7, 8, 0] rfl rfl ?_
        exact ih _ _ _ _ _ _ _ _ _ _ _ h o M' hk
      · refine en_icmp_ne_f c26 rfl ?_
        refine ec_iconst cst_0 rfl ?_
        refine en_istore (l' := [(7, .int (0 : Int32)), (0, .ref p0), (1, .int p1), (2, .int p2), (3, .int p3), (4, .int p4), (5, .int p5), (6, .int p6), (8, .int p8)]) rfl rfl ?_
        refine ec_iinc (l' := [(8, .int (p8 + (1 : Int32))), (7, .int (0 : Int32)), (0, .ref p0), (1, .int p1), (2, .int p2), (3, .int p3), (4, .int p4), (5, .int p5), (6, .int p6)]) rfl cst_1 rfl rfl ?_
        refine en_goto rfl ?_
        refine en_sub [2, 3, 4, 5, 6, 7, 8, 1, 0] rfl rfl ?_
        exact ih _ _ _ _ _ _ _ _ _ _ _ h o M' hk
def lp_154_4 : Nat → Nat → Int32 → Int32 → Int32 → Int32 → Int32 → AmC → Option (((Int32)) × AmC)
  | 0, _, _, _, _, _, _, _ => none
  | n + 1, p0, p1, p2, p3, p4, p5, C => (if p3 ≤ p5 then some (p4, C) else (if (8 : Int32) ≤ p5 then some (p4, C) else if isK p0 9 = true then (cP C p0 14).bind (fun r4 => if isK r4 14 = true then if amIn p5 (aLen r4) = true then (cP C r4 (Int32.toNatClampNeg p5)).bind (fun r8 => if isK r8 5 = true then (f_76 n r8 p1 p2 C).bind (fun z => match z with | (q11, C12) => (lp_154_22 n p0 p1 p2 p3 p4 p5 q11 (1 : Int32) (0 : Int32) C12).bind (fun q => match q with | ((u30, u31, u32, u33, u34, u35, u36), C29) => (if u36 = 0 then lp_154_4 n u30 u31 u32 u33 u34 (u35 + (1 : Int32)) C29 else lp_154_4 n u30 u31 u32 u33 (u34 + (1 : Int32)) (u35 + (1 : Int32)) C29))) else none) else none else none) else none))
set_option maxRecDepth 20000 in
set_option maxHeartbeats 4000000 in
theorem lt_154_4 : ∀ (n : Nat) (p0 : Nat) (p1 : Int32) (p2 : Int32) (p3 : Int32) (p4 : Int32) (p5 : Int32) (C : AmC) (r : ((Int32)) × AmC), lp_154_4 n p0 p1 p2 p3 p4 p5 C = some r → ∀ (o : AmO) (M' : AmM), (match r with
        | (w4, C') => En false 154 43 [(4, .int w4)] [] (mkM C') o M') → En false 154 4 [(0, .ref p0), (1, .int p1), (2, .int p2), (3, .int p3), (4, .int p4), (5, .int p5)] [] (mkM C) o M' := by
  intro n
  induction n with
  | zero => intro p0 p1 p2 p3 p4 p5 C r h; cases h
  | succ n ih =>
    intro p0 p1 p2 p3 p4 p5 C r h o M' hk
    unfold lp_154_4 at h
    refine en_iload rfl rfl ?_
    refine en_iload rfl rfl ?_
    rcases gi h with ⟨c1, h⟩ | ⟨c1, h⟩
    · refine en_icmp_ge_t c1 rfl ?_
      cases h
      exact en_sub [4] rfl rfl hk
    · refine en_icmp_ge_f c1 rfl ?_
      refine en_iload rfl rfl ?_
      refine ec_iconst cst_8 rfl ?_
      rcases gi h with ⟨c2, h⟩ | ⟨c2, h⟩
      · refine en_icmp_ge_t c2 rfl ?_
        cases h
        exact en_sub [4] rfl rfl hk
      · refine en_icmp_ge_f c2 rfl ?_
        refine en_aload rfl rfl ?_
        obtain ⟨g3, h⟩ := gd h
        obtain ⟨r4, e5, h⟩ := gb h
        refine ec_getP (ci := 9) (j := 14) ⟨rfl, rfl, rfl⟩ g3 e5 rfl ?_
        refine en_iload rfl rfl ?_
        obtain ⟨g6, h⟩ := gd h
        obtain ⟨g7, h⟩ := gd h
        obtain ⟨r8, e9, h⟩ := gb h
        refine ec_aaload g6 (by decide) g7 e9 rfl ?_
        refine en_iload rfl rfl ?_
        refine en_iload rfl rfl ?_
        obtain ⟨g10, h⟩ := gd h
        obtain ⟨⟨q11, C12⟩, e13, h⟩ := gb h
        dsimp only at h
        refine ec_callV1 (k' := 76) (n := 3) (rc := 5) (a := r8) (as := [.int p1, .int p2]) ⟨rfl, rfl⟩ rfl rfl (Nat.le_of_ble_eq_true rfl) (Nat.le_of_ble_eq_true rfl) (Nat.le_of_ble_eq_true rfl) g10 rfl (t_76 e13) ?_
        refine en_istore (l' := [(6, .int q11), (0, .ref p0), (1, .int p1), (2, .int p2), (3, .int p3), (4, .int p4), (5, .int p5)]) rfl rfl ?_
        refine ec_iconst cst_1 rfl ?_
        refine en_istore (l' := [(7, .int (1 : Int32)), (6, .int q11), (0, .ref p0), (1, .int p1), (2, .int p2), (3, .int p3), (4, .int p4), (5, .int p5)]) rfl rfl ?_
        refine ec_iconst cst_0 rfl ?_
        refine en_istore (l' := [(8, .int (0 : Int32)), (7, .int (1 : Int32)), (6, .int q11), (0, .ref p0), (1, .int p1), (2, .int p2), (3, .int p3), (4, .int p4), (5, .int p5)]) rfl rfl ?_
        obtain ⟨⟨q27, C29⟩, e28, h⟩ := gb h
        refine en_sub [3, 4, 5, 6, 7, 8, 2, 1, 0] rfl rfl (lt_154_22 n _ _ _ _ _ _ _ _ _ _ _ e28 o M' ?_)
        obtain ⟨u30, u31, u32, u33, u34, u35, u36⟩ := q27
        dsimp only at h ⊢
        refine en_iload rfl rfl ?_
        rcases gi h with ⟨c37, h⟩ | ⟨c37, h⟩
        · refine en_if_eq_t c37 rfl ?_
          refine ec_iinc (l' := [(5, .int (u35 + (1 : Int32))), (0, .ref u30), (1, .int u31), (2, .int u32), (3, .int u33), (4, .int u34), (7, .int u36)]) rfl cst_1 rfl rfl ?_
          refine en_goto rfl ?_
          refine en_sub [1, 2, 3, 4, 5, 0] rfl rfl ?_
          exact ih _ _ _ _ _ _ _ _ h o M' hk
        · refine en_if_eq_f c37 rfl ?_
          refine ec_iinc (l' := [(4, .int (u34 + (1 : Int32))), (0, .ref u30), (1, .int u31), (2, .int u32), (3, .int u33), (5, .int u35), (7, .int u36)]) rfl cst_1 rfl rfl ?_
          refine ec_iinc (l' := [(5, .int (u35 + (1 : Int32))), (4, .int (u34 + (1 : Int32))), (0, .ref u30), (1, .int u31), (2, .int u32), (3, .int u33), (7, .int u36)]) rfl cst_1 rfl rfl ?_
          refine en_goto rfl ?_
          refine en_sub [2, 3, 4, 5, 1, 0] rfl rfl ?_
          exact ih _ _ _ _ _ _ _ _ h o M' hk
/-- BulkWriter.unlikeAt(III)I -/
def f_154 (n : Nat) (a0 : Nat) (a1 : Int32) (a2 : Int32) (a3 : Int32) (C : AmC) : Option (Int32 × AmC) := (lp_154_4 n a0 a1 a2 a3 (0 : Int32) (0 : Int32) C).bind (fun q => match q with | (u41, C40) => some (u41, C40))
set_option maxRecDepth 20000 in
set_option maxHeartbeats 4000000 in
theorem t_154 {n : Nat} {a0 : Nat} {a1 : Int32} {a2 : Int32} {a3 : Int32} {C : AmC} {r : Int32} {C' : AmC} (h : f_154 n a0 a1 a2 a3 C = some (r, C')) : En false 154 0 [(0, .ref a0), (1, .int a1), (2, .int a2), (3, .int a3)] [] (mkM C) (.inl (some (.int r))) (mkM C') := by
  unfold f_154 at h
  refine ec_iconst cst_0 rfl ?_
  refine en_istore (l' := [(4, .int (0 : Int32)), (0, .ref a0), (1, .int a1), (2, .int a2), (3, .int a3)]) rfl rfl ?_
  refine ec_iconst cst_0 rfl ?_
  refine en_istore (l' := [(5, .int (0 : Int32)), (4, .int (0 : Int32)), (0, .ref a0), (1, .int a1), (2, .int a2), (3, .int a3)]) rfl rfl ?_
  obtain ⟨⟨q38, C40⟩, e39, h⟩ := gb h
  refine en_sub [2, 3, 4, 5, 1, 0] rfl rfl (lt_154_4 n _ _ _ _ _ _ _ _ e39 _ _ ?_)
  revert h e39; revert q38; intro u41 e39 h
  dsimp only at h ⊢
  refine en_iload rfl rfl ?_
  cases h
  exact en_iret rfl
def lp_137_7 : Nat → Nat → Int32 → Int32 → Int32 → AmC → Option (((Nat × Int32 × Int32)) × AmC)
  | 0, _, _, _, _, _ => none
  | n + 1, p0, p1, p2, p3, C => if isK p0 9 = true then (cP C p0 4).bind (fun r6 => if isK r6 6 = true then (if (cI C r6 8) ≤ p3 then some ((p0, p1, p2), C) else (if (8 : Int32) ≤ p3 then some ((p0, p1, p2), C) else (f_153 n p0 p3 C).bind (fun z => match z with | (q11, C12) => (if q11 = 0 then lp_137_7 n p0 p1 p2 (p3 + (1 : Int32)) C12 else (cP C12 p0 14).bind (fun r15 => if isK r15 14 = true then if amIn p2 (aLen r15) = true then (cP C12 r15 (Int32.toNatClampNeg p2)).bind (fun r19 => (cP C12 p0 13).bind (fun r21 => if isK r19 5 = true then (f_72 n r19 r21 C12).bind (fun z => match z with | (_, C25) => lp_137_7 n p0 p1 (p2 + (1 : Int32)) (p3 + (1 : Int32)) C25) else none)) else none else none))))) else none) else none
set_option maxRecDepth 20000 in
set_option maxHeartbeats 4000000 in
theorem lt_137_7 : ∀ (n : Nat) (p0 : Nat) (p1 : Int32) (p2 : Int32) (p3 : Int32) (C : AmC) (r : ((Nat × Int32 × Int32)) × AmC), lp_137_7 n p0 p1 p2 p3 C = some r → ∀ (o : AmO) (M' : AmM), (match r with
        | ((w0, w1, w2), C') => En false 137 29 [(0, .ref w0), (1, .int w1), (2, .int w2)] [] (mkM C') o M') → En false 137 7 [(0, .ref p0), (1, .int p1), (2, .int p2), (3, .int p3)] [] (mkM C) o M' := by
  intro n
  induction n with
  | zero => intro p0 p1 p2 p3 C r h; cases h
  | succ n ih =>
    intro p0 p1 p2 p3 C r h o M' hk
    unfold lp_137_7 at h
    refine en_iload rfl rfl ?_
    refine en_aload rfl rfl ?_
    obtain ⟨g5, h⟩ := gd h
    obtain ⟨r6, e7, h⟩ := gb h
    refine ec_getP (ci := 9) (j := 4) ⟨rfl, rfl, rfl⟩ g5 e7 rfl ?_
    obtain ⟨g8, h⟩ := gd h
    refine ec_getI (ci := 6) (j := 8) ⟨rfl, rfl, rfl⟩ g8 rfl ?_
    rcases gi h with ⟨c9, h⟩ | ⟨c9, h⟩
    · refine en_icmp_ge_t c9 rfl ?_
      cases h
      exact en_sub [0, 1, 2] rfl rfl hk
    · refine en_icmp_ge_f c9 rfl ?_
      refine en_iload rfl rfl ?_
      refine ec_iconst cst_8 rfl ?_
      rcases gi h with ⟨c10, h⟩ | ⟨c10, h⟩
      · refine en_icmp_ge_t c10 rfl ?_
        cases h
        exact en_sub [0, 1, 2] rfl rfl hk
      · refine en_icmp_ge_f c10 rfl ?_
        refine en_aload rfl rfl ?_
        refine en_iload rfl rfl ?_
        obtain ⟨⟨q11, C12⟩, e13, h⟩ := gb h
        dsimp only at h
        refine ec_callV1 (k' := 153) (n := 2) (rc := 9) (a := p0) (as := [.int p3]) ⟨rfl, rfl⟩ rfl rfl (Nat.le_of_ble_eq_true rfl) (Nat.le_of_ble_eq_true rfl) (Nat.le_of_ble_eq_true rfl) g5 rfl (t_153 e13) ?_
        rcases gi h with ⟨c14, h⟩ | ⟨c14, h⟩
        · refine en_if_eq_t c14 rfl ?_
          refine ec_iinc (l' := [(3, .int (p3 + (1 : Int32))), (0, .ref p0), (1, .int p1), (2, .int p2)]) rfl cst_1 rfl rfl ?_
          refine en_goto rfl ?_
          refine en_sub [1, 2, 3, 0] rfl rfl ?_
          exact ih _ _ _ _ _ _ h o M' hk
        · refine en_if_eq_f c14 rfl ?_
          refine en_aload rfl rfl ?_
          obtain ⟨r15, e16, h⟩ := gb h
          refine ec_getP (ci := 9) (j := 14) ⟨rfl, rfl, rfl⟩ g5 e16 rfl ?_
          refine en_iload rfl rfl ?_
          obtain ⟨g17, h⟩ := gd h
          obtain ⟨g18, h⟩ := gd h
          obtain ⟨r19, e20, h⟩ := gb h
          refine ec_aaload g17 (by decide) g18 e20 rfl ?_
          refine en_aload rfl rfl ?_
          obtain ⟨r21, e22, h⟩ := gb h
          refine ec_getP (ci := 9) (j := 13) ⟨rfl, rfl, rfl⟩ g5 e22 rfl ?_
          obtain ⟨g23, h⟩ := gd h
          obtain ⟨⟨q24, C25⟩, e26, h⟩ := gb h
          dsimp only at h
          refine ec_callV0 (k' := 72) (n := 2) (rc := 5) (a := r19) (as := [.ref r21]) ⟨rfl, rfl⟩ rfl rfl (Nat.le_of_ble_eq_true rfl) (Nat.le_of_ble_eq_true rfl) (Nat.le_of_ble_eq_true rfl) g23 rfl (t_72 e26) ?_
          refine ec_iinc (l' := [(2, .int (p2 + (1 : Int32))), (0, .ref p0), (1, .int p1), (3, .int p3)]) rfl cst_1 rfl rfl ?_
          refine ec_iinc (l' := [(3, .int (p3 + (1 : Int32))), (2, .int (p2 + (1 : Int32))), (0, .ref p0), (1, .int p1)]) rfl cst_1 rfl rfl ?_
          refine en_goto rfl ?_
          refine en_sub [2, 3, 1, 0] rfl rfl ?_
          exact ih _ _ _ _ _ _ h o M' hk
def lp_137_40 : Nat → Nat → Int32 → Int32 → Int32 → Int32 → Int32 → Int32 → AmC → Option (((Nat × Int32 × Int32 × Int32 × Int32 × Int32)) × AmC)
  | 0, _, _, _, _, _, _, _, _ => none
  | n + 1, p0, p1, p2, p3, p4, p5, p6, C => if isK p0 9 = true then (cP C p0 4).bind (fun r35 => if isK r35 6 = true then (if (cI C r35 0) ≤ p6 then some ((p0, p1, p2, p3, p4, p5), C) else (f_154 n p0 p5 p6 p2 C).bind (fun z => match z with | (q39, C40) => (if q39 ≤ p4 then lp_137_40 n p0 p1 p2 p3 p4 p5 (p6 + (1 : Int32)) C40 else lp_137_40 n p0 p1 p2 (((10 : Int32) * p5) + p6) q39 p5 (p6 + (1 : Int32)) C40))) else none) else none
set_option maxRecDepth 20000 in
set_option maxHeartbeats 4000000 in
theorem lt_137_40 : ∀ (n : Nat) (p0 : Nat) (p1 : Int32) (p2 : Int32) (p3 : Int32) (p4 : Int32) (p5 : Int32) (p6 : Int32) (C : AmC) (r : ((Nat × Int32 × Int32 × Int32 × Int32 × Int32)) × AmC), lp_137_40 n p0 p1 p2 p3 p4 p5 p6 C = some r → ∀ (o : AmO) (M' : AmM), (match r with
        | ((w0, w1, w2, w3, w4, w5), C') => En false 137 64 [(0, .ref w0), (1, .int w1), (2, .int w2), (3, .int w3), (4, .int w4), (5, .int w5)] [] (mkM C') o M') → En false 137 40 [(0, .ref p0), (1, .int p1), (2, .int p2), (3, .int p3), (4, .int p4), (5, .int p5), (6, .int p6)] [] (mkM C) o M' := by
  intro n
  induction n with
  | zero => intro p0 p1 p2 p3 p4 p5 p6 C r h; cases h
  | succ n ih =>
    intro p0 p1 p2 p3 p4 p5 p6 C r h o M' hk
    unfold lp_137_40 at h
    refine en_iload rfl rfl ?_
    refine en_aload rfl rfl ?_
    obtain ⟨g34, h⟩ := gd h
    obtain ⟨r35, e36, h⟩ := gb h
    refine ec_getP (ci := 9) (j := 4) ⟨rfl, rfl, rfl⟩ g34 e36 rfl ?_
    obtain ⟨g37, h⟩ := gd h
    refine ec_getI (ci := 6) (j := 0) ⟨rfl, rfl, rfl⟩ g37 rfl ?_
    rcases gi h with ⟨c38, h⟩ | ⟨c38, h⟩
    · refine en_icmp_ge_t c38 rfl ?_
      cases h
      exact en_sub [0, 1, 2, 3, 4, 5] rfl rfl hk
    · refine en_icmp_ge_f c38 rfl ?_
      refine en_aload rfl rfl ?_
      refine en_iload rfl rfl ?_
      refine en_iload rfl rfl ?_
      refine en_iload rfl rfl ?_
      obtain ⟨⟨q39, C40⟩, e41, h⟩ := gb h
      dsimp only at h
      refine ec_callV1 (k' := 154) (n := 4) (rc := 9) (a := p0) (as := [.int p5, .int p6, .int p2]) ⟨rfl, rfl⟩ rfl rfl (Nat.le_of_ble_eq_true rfl) (Nat.le_of_ble_eq_true rfl) (Nat.le_of_ble_eq_true rfl) g34 rfl (t_154 e41) ?_
      refine en_istore (l' := [(7, .int q39), (0, .ref p0), (1, .int p1), (2, .int p2), (3, .int p3), (4, .int p4), (5, .int p5), (6, .int p6)]) rfl rfl ?_
      refine en_iload rfl rfl ?_
      refine en_iload rfl rfl ?_
      rcases gi h with ⟨c42, h⟩ | ⟨c42, h⟩
      · refine en_icmp_le_t c42 rfl ?_
        refine ec_iinc (l' := [(6, .int (p6 + (1 : Int32))), (7, .int q39), (0, .ref p0), (1, .int p1), (2, .int p2), (3, .int p3), (4, .int p4), (5, .int p5)]) rfl cst_1 rfl rfl ?_
        refine en_goto rfl ?_
        refine en_sub [2, 3, 4, 5, 6, 7, 0] rfl rfl ?_
        exact ih _ _ _ _ _ _ _ _ _ h o M' hk
      · refine en_icmp_le_f c42 rfl ?_
        refine en_iload rfl rfl ?_
        refine en_istore (l' := [(4, .int q39), (7, .int q39), (0, .ref p0), (1, .int p1), (2, .int p2), (3, .int p3), (5, .int p5), (6, .int p6)]) rfl rfl ?_
        refine ec_iconst cst_10 rfl ?_
        refine en_iload rfl rfl ?_
        refine en_imul rfl ?_
        refine en_iload rfl rfl ?_
        refine en_iadd rfl ?_
        refine en_istore (l' := [(3, .int (((10 : Int32) * p5) + p6)), (4, .int q39), (7, .int q39), (0, .ref p0), (1, .int p1), (2, .int p2), (5, .int p5), (6, .int p6)]) rfl rfl ?_
        refine ec_iinc (l' := [(6, .int (p6 + (1 : Int32))), (3, .int (((10 : Int32) * p5) + p6)), (4, .int q39), (7, .int q39), (0, .ref p0), (1, .int p1), (2, .int p2), (5, .int p5)]) rfl cst_1 rfl rfl ?_
        refine en_goto rfl ?_
        refine en_sub [4, 5, 6, 1, 2, 7, 0] rfl rfl ?_
        exact ih _ _ _ _ _ _ _ _ _ h o M' hk
def lp_137_35 : Nat → Nat → Int32 → Int32 → Int32 → Int32 → Int32 → AmC → Option (((Int32 × Int32 × Int32)) × AmC)
  | 0, _, _, _, _, _, _, _ => none
  | n + 1, p0, p1, p2, p3, p4, p5, C => (if (30 : Int32) ≤ p5 then some ((p1, p3, p4), C) else (lp_137_40 n p0 p1 p2 p3 p4 p5 (0 : Int32) C).bind (fun q => match q with | ((u46, u47, u48, u49, u50, u51), C45) => lp_137_35 n u46 u47 u48 u49 u50 (u51 + (1 : Int32)) C45))
set_option maxRecDepth 20000 in
set_option maxHeartbeats 4000000 in
theorem lt_137_35 : ∀ (n : Nat) (p0 : Nat) (p1 : Int32) (p2 : Int32) (p3 : Int32) (p4 : Int32) (p5 : Int32) (C : AmC) (r : ((Int32 × Int32 × Int32)) × AmC), lp_137_35 n p0 p1 p2 p3 p4 p5 C = some r → ∀ (o : AmO) (M' : AmM), (match r with
        | ((w1, w3, w4), C') => En false 137 66 [(1, .int w1), (3, .int w3), (4, .int w4)] [] (mkM C') o M') → En false 137 35 [(0, .ref p0), (1, .int p1), (2, .int p2), (3, .int p3), (4, .int p4), (5, .int p5)] [] (mkM C) o M' := by
  intro n
  induction n with
  | zero => intro p0 p1 p2 p3 p4 p5 C r h; cases h
  | succ n ih =>
    intro p0 p1 p2 p3 p4 p5 C r h o M' hk
    unfold lp_137_35 at h
    refine en_iload rfl rfl ?_
    refine ec_iconst cst_30 rfl ?_
    rcases gi h with ⟨c33, h⟩ | ⟨c33, h⟩
    · refine en_icmp_ge_t c33 rfl ?_
      cases h
      exact en_sub [1, 3, 4] rfl rfl hk
    · refine en_icmp_ge_f c33 rfl ?_
      refine ec_iconst cst_0 rfl ?_
      refine en_istore (l' := [(6, .int (0 : Int32)), (0, .ref p0), (1, .int p1), (2, .int p2), (3, .int p3), (4, .int p4), (5, .int p5)]) rfl rfl ?_
      obtain ⟨⟨q43, C45⟩, e44, h⟩ := gb h
      refine en_sub [1, 2, 3, 4, 5, 6, 0] rfl rfl (lt_137_40 n _ _ _ _ _ _ _ _ _ e44 o M' ?_)
      obtain ⟨u46, u47, u48, u49, u50, u51⟩ := q43
      dsimp only at h ⊢
      refine ec_iinc (l' := [(5, .int (u51 + (1 : Int32))), (0, .ref u46), (1, .int u47), (2, .int u48), (3, .int u49), (4, .int u50)]) rfl cst_1 rfl rfl ?_
      refine en_goto rfl ?_
      refine en_sub [1, 2, 3, 4, 5, 0] rfl rfl ?_
      exact ih _ _ _ _ _ _ _ _ h o M' hk
/-- BulkWriter.look(I)I -/
def f_137 (n : Nat) (a0 : Nat) (a1 : Int32) (C : AmC) : Option ((Int32 ⊕ Nat) × AmC) := (f_147 n a1 (2 : Int32) C).bind (fun z => match z with | (.inl _, C2) => (lp_137_7 n a0 a1 (0 : Int32) (0 : Int32) C2).bind (fun q => match q with | ((u30, u31, u32), C29) => (lp_137_35 n u30 u31 u32 (-1 : Int32) (0 : Int32) (0 : Int32) C29).bind (fun q => match q with | ((u55, u56, u57), C54) => (if ¬ u55 = 0 then some (.inl u57, C54) else some (.inl u56, C54)))) | (.inr x4, C2) => some (.inr x4, C2))
set_option maxRecDepth 20000 in
set_option maxHeartbeats 4000000 in
theorem t_137 {n : Nat} {a0 : Nat} {a1 : Int32} {C : AmC} {r : (Int32 ⊕ Nat)} {C' : AmC} (h : f_137 n a0 a1 C = some (r, C')) : En false 137 0 [(0, .ref a0), (1, .int a1)] [] (mkM C) (ovI r) (mkM C') := by
  unfold f_137 at h
  refine en_iload rfl rfl ?_
  refine ec_iconst cst_2 rfl ?_
  obtain ⟨⟨q1, C2⟩, e3, h⟩ := gb h
  rcases q1 with q1 | x4
  · dsimp only at h
    refine ec_callS0 (k' := 147) (n := 2) (as := [.int a1, .int (2 : Int32)]) rfl rfl rfl (Nat.le_of_ble_eq_true rfl) (Nat.le_of_ble_eq_true rfl) (Nat.le_of_ble_eq_true rfl) rfl (t_147 e3) ?_
    refine ec_iconst cst_0 rfl ?_
    refine en_istore (l' := [(2, .int (0 : Int32)), (0, .ref a0), (1, .int a1)]) rfl rfl ?_
    refine ec_iconst cst_0 rfl ?_
    refine en_istore (l' := [(3, .int (0 : Int32)), (2, .int (0 : Int32)), (0, .ref a0), (1, .int a1)]) rfl rfl ?_
    obtain ⟨⟨q27, C29⟩, e28, h⟩ := gb h
    refine en_sub [2, 3, 1, 0] rfl rfl (lt_137_7 n _ _ _ _ _ _ e28 _ _ ?_)
    obtain ⟨u30, u31, u32⟩ := q27
    dsimp only at h ⊢
    refine ec_iconst cst_m1 rfl ?_
    refine en_istore (l' := [(3, .int (-1 : Int32)), (0, .ref u30), (1, .int u31), (2, .int u32)]) rfl rfl ?_
    refine ec_iconst cst_0 rfl ?_
    refine en_istore (l' := [(4, .int (0 : Int32)), (3, .int (-1 : Int32)), (0, .ref u30), (1, .int u31), (2, .int u32)]) rfl rfl ?_
    refine ec_iconst cst_0 rfl ?_
    refine en_istore (l' := [(5, .int (0 : Int32)), (4, .int (0 : Int32)), (3, .int (-1 : Int32)), (0, .ref u30), (1, .int u31), (2, .int u32)]) rfl rfl ?_
    obtain ⟨⟨q52, C54⟩, e53, h⟩ := gb h
    refine en_sub [3, 4, 5, 2, 1, 0] rfl rfl (lt_137_35 n _ _ _ _ _ _ _ _ e53 _ _ ?_)
    obtain ⟨u55, u56, u57⟩ := q52
    dsimp only at h ⊢
    refine en_iload rfl rfl ?_
    rcases gi h with ⟨c58, h⟩ | ⟨c58, h⟩
    · refine en_if_ne_t c58 rfl ?_
      refine en_iload rfl rfl ?_
      cases h
      exact en_iret rfl
    · refine en_if_ne_f c58 rfl ?_
      refine en_iload rfl rfl ?_
      refine en_goto rfl ?_
      cases h
      exact en_iret rfl
  · dsimp only at h
    cases h
    exact ec_callSx (k' := 147) (n := 2) (as := [.int a1, .int (2 : Int32)]) rfl rfl rfl (Nat.le_of_ble_eq_true rfl) (Nat.le_of_ble_eq_true rfl) (Nat.le_of_ble_eq_true rfl) rfl (t_147 e3)
/-- BulkWriter.forget()V -/
def f_138 (n : Nat) (a0 : Nat) (C : AmC) : Option (Unit × AmC) := if isK a0 9 = true then (cP C a0 6).bind (fun r2 => if isK r2 7 = true then some ((), uI C r2 5 (0 : Int32)) else none) else none
set_option maxRecDepth 20000 in
set_option maxHeartbeats 4000000 in
theorem t_138 {n : Nat} {a0 : Nat} {C : AmC} {r : Unit} {C' : AmC} (h : f_138 n a0 C = some (r, C')) : En false 138 0 [(0, .ref a0)] [] (mkM C) (.inl none) (mkM C') := by
  unfold f_138 at h
  refine en_aload rfl rfl ?_
  obtain ⟨g1, h⟩ := gd h
  obtain ⟨r2, e3, h⟩ := gb h
  refine ec_getP (ci := 9) (j := 6) ⟨rfl, rfl, rfl⟩ g1 e3 rfl ?_
  refine ec_iconst cst_0 rfl ?_
  obtain ⟨g4, h⟩ := gd h
  refine ec_putI (ci := 7) (j := 5) ⟨rfl, rfl, rfl⟩ g4 rfl ?_
  cases h
  exact en_vret rfl
/-- BulkWriter.stirred(I)I -/
def f_157 (n : Nat) (a0 : Int32) (C : AmC) : Option (Int32 × AmC) := some (((a0 * (1103515245 : Int32)) + (12345 : Int32)), C)
set_option maxRecDepth 20000 in
set_option maxHeartbeats 4000000 in
theorem t_157 {n : Nat} {a0 : Int32} {C : AmC} {r : Int32} {C' : AmC} (h : f_157 n a0 C = some (r, C')) : En false 157 0 [(0, .int a0)] [] (mkM C) (.inl (some (.int r))) (mkM C') := by
  unfold f_157 at h
  refine en_iload rfl rfl ?_
  refine ec_iconst cst_1103515245 rfl ?_
  refine en_imul rfl ?_
  refine ec_iconst cst_12345 rfl ?_
  refine en_iadd rfl ?_
  cases h
  exact en_iret rfl
/-- BulkWriter.drawn(II)I -/
def f_158 (n : Nat) (a0 : Int32) (a1 : Int32) (C : AmC) : Option (Int32 × AmC) := (if a1 ≤ 0 then some ((0 : Int32), C) else if ¬ a1 = 0 then some (((((Int32.toUInt32 a0 >>> (Int32.toUInt32 (16 : Int32) &&& Int32.toUInt32 31)).toInt32) &&& (32767 : Int32)) - (((Int32.toUInt32 a0 >>> (Int32.toUInt32 (16 : Int32) &&& Int32.toUInt32 31)).toInt32) &&& (32767 : Int32)) / a1 * a1), C) else none)
set_option maxRecDepth 20000 in
set_option maxHeartbeats 4000000 in
theorem t_158 {n : Nat} {a0 : Int32} {a1 : Int32} {C : AmC} {r : Int32} {C' : AmC} (h : f_158 n a0 a1 C = some (r, C')) : En false 158 0 [(0, .int a0), (1, .int a1)] [] (mkM C) (.inl (some (.int r))) (mkM C') := by
  unfold f_158 at h
  refine en_iload rfl rfl ?_
  rcases gi h with ⟨c1, h⟩ | ⟨c1, h⟩
  · refine en_if_le_t c1 rfl ?_
    refine ec_iconst cst_0 rfl ?_
    cases h
    exact en_iret rfl
  · refine en_if_le_f c1 rfl ?_
    refine en_iload rfl rfl ?_
    refine ec_iconst cst_16 rfl ?_
    refine en_iushr rfl ?_
    refine ec_iconst cst_32767 rfl ?_
    refine en_iand rfl ?_
    refine en_iload rfl rfl ?_
    obtain ⟨g2, h⟩ := gd h
    refine en_irem g2 rfl ?_
    refine en_goto rfl ?_
    cases h
    exact en_iret rfl
def lp_139_27 : Nat → Nat → Int32 → Int32 → Int32 → Int32 → Int32 → Int32 → AmC → Option (((Nat × Int32 × Int32 × Int32)) × AmC)
  | 0, _, _, _, _, _, _, _, _ => none
  | n + 1, p0, p2, p3, p4, p5, p6, p7, C => (if p2 ≤ p7 then some ((p0, p3, p4, p5), C) else (f_157 n p6 C).bind (fun z => match z with | (q20, C21) => (f_158 n q20 (3 : Int32) C21).bind (fun z => match z with | (q23, C24) => (if ¬ q23 = (2 : Int32) then if isK p0 9 = true then (cP C24 p0 4).bind (fun r28 => if isK r28 6 = true then (if (cI C24 r28 8) ≤ 0 then lp_139_27 n p0 p2 p3 p4 p5 q20 (p7 + (1 : Int32)) C24 else (f_157 n q20 C24).bind (fun z => match z with | (q32, C33) => (cP C33 p0 4).bind (fun r35 => if isK r35 6 = true then (f_158 n q32 (cI C33 r35 8) C33).bind (fun z => match z with | (q38, C39) => (cP C39 p0 13).bind (fun r41 => (f_151 n p0 q38 r41 C39).bind (fun z => match z with | (_, C44) => (cP C44 p0 9).bind (fun r46 => if isK r46 3 = true then (if ¬ (cI C44 r46 11) = 0 then lp_139_27 n p0 p2 p3 p4 (p5 + (1 : Int32)) q32 (p7 + (1 : Int32)) C44 else (cP C44 p0 9).bind (fun r50 => if isK r50 3 = true then (cP C44 p0 13).bind (fun r53 => (cP C44 p0 9).bind (fun r55 => if isK r55 3 = true then (cP C44 r55 0).bind (fun r58 => if isK r53 5 = true then (f_72 n r53 r58 C44).bind (fun z => match z with | (_, C62) => lp_139_27 n p0 p2 p3 (p4 + (cI C44 r50 10)) p5 q32 (p7 + (1 : Int32)) C62) else none) else none)) else none)) else none)))) else none))) else none) else none else (f_157 n q20 C24).bind (fun z => match z with | (q64, C65) => (f_158 n q64 (30 : Int32) C65).bind (fun z => match z with | (q67, C68) => (f_157 n q64 C68).bind (fun z => match z with | (q70, C71) => if isK p0 9 = true then (cP C71 p0 4).bind (fun r74 => if isK r74 6 = true then (f_158 n q70 (cI C71 r74 0) C71).bind (fun z => match z with | (q77, C78) => (f_157 n q70 C78).bind (fun z => match z with | (q80, C81) => (cP C81 p0 13).bind (fun r83 => (f_158 n q80 (10 : Int32) C81).bind (fun z => match z with | (q85, C86) => (f_152 n p0 r83 q67 q77 q85 C86).bind (fun z => match z with | (q88, C89) => lp_139_27 n p0 p2 p3 p4 p5 q80 (p7 + (1 : Int32)) C89))))) else none) else none)))))))
set_option maxRecDepth 20000 in
set_option maxHeartbeats 4000000 in
theorem lt_139_27 : ∀ (n : Nat) (p0 : Nat) (p2 : Int32) (p3 : Int32) (p4 : Int32) (p5 : Int32) (p6 : Int32) (p7 : Int32) (C : AmC) (r : ((Nat × Int32 × Int32 × Int32)) × AmC), lp_139_27 n p0 p2 p3 p4 p5 p6 p7 C = some r → ∀ (o : AmO) (M' : AmM), (match r with
        | ((w0, w3, w4, w5), C') => En false 139 104 [(0, .ref w0), (3, .int w3), (4, .int w4), (5, .int w5)] [] (mkM C') o M') → En false 139 27 [(0, .ref p0), (2, .int p2), (3, .int p3), (4, .int p4), (5, .int p5), (6, .int p6), (7, .int p7)] [] (mkM C) o M' := by
  intro n
  induction n with
  | zero => intro p0 p2 p3 p4 p5 p6 p7 C r h; cases h
  | succ n ih =>
    intro p0 p2 p3 p4 p5 p6 p7 C r h o M' hk
    unfold lp_139_27 at h
    refine en_iload rfl rfl ?_
    refine en_iload rfl rfl ?_
    rcases gi h with ⟨c19, h⟩ | ⟨c19, h⟩
    · refine en_icmp_ge_t c19 rfl ?_
      cases h
      exact en_sub [0, 2, 3, 4] rfl rfl hk
    · refine en_icmp_ge_f c19 rfl ?_
      refine en_iload rfl rfl ?_
      obtain ⟨⟨q20, C21⟩, e22, h⟩ := gb h
      dsimp only at h
      refine ec_callS1 (k' := 157) (n := 1) (as := [.int p6]) rfl rfl rfl (Nat.le_of_ble_eq_true rfl) (Nat.le_of_ble_eq_true rfl) (Nat.le_of_ble_eq_true rfl) rfl (t_157 e22) ?_
      refine en_istore (l' := [(6, .int q20), (0, .ref p0), (2, .int p2), (3, .int p3), (4, .int p4), (5, .int p5), (7, .int p7)]) rfl rfl ?_
      refine en_iload rfl rfl ?_
      refine ec_iconst cst_3 rfl ?_
      obtain ⟨⟨q23, C24⟩, e25, h⟩ := gb h
      dsimp only at h
      refine ec_callS1 (k' := 158) (n := 2) (as := [.int q20, .int (3 : Int32)]) rfl rfl rfl (Nat.le_of_ble_eq_true rfl) (Nat.le_of_ble_eq_true rfl) (Nat.le_of_ble_eq_true rfl) rfl (t_158 e25) ?_
      refine ec_iconst cst_2 rfl ?_
      rcases gi h with ⟨c26, h⟩ | ⟨c26, h⟩
      · refine en_icmp_ne_t c26 rfl ?_
        refine en_aload rfl rfl ?_
        obtain ⟨g27, h⟩ := gd h
        obtain ⟨r28, e29, h⟩ := gb h
        refine ec_getP (ci := 9) (j := 4) ⟨rfl, rfl, rfl⟩ g27 e29 rfl ?_
        obtain ⟨g30, h⟩ := gd h
        refine ec_getI (ci := 6) (j := 8) ⟨rfl, rfl, rfl⟩ g30 rfl ?_
        rcases gi h with ⟨c31, h⟩ | ⟨c31, h⟩
        · refine en_if_le_t c31 rfl ?_
          refine ec_iinc (l' := [(7, .int (p7 + (1 : Int32))), (6, .int q20), (0, .ref p0), (2, .int p2), (3, .int p3), (4, .int p4), (5, .int p5)]) rfl cst_1 rfl rfl ?_
          refine en_goto rfl ?_
          refine en_sub [2, 3, 4, 5, 6, 1, 0] rfl rfl ?_
          exact ih _ _ _ _ _ _ _ _ _ h o M' hk
        · refine en_if_le_f c31 rfl ?_
          refine en_iload rfl rfl ?_
          obtain ⟨⟨q32, C33⟩, e34, h⟩ := gb h
          dsimp only at h
          refine ec_callS1 (k' := 157) (n := 1) (as := [.int q20]) rfl rfl rfl (Nat.le_of_ble_eq_true rfl) (Nat.le_of_ble_eq_true rfl) (Nat.le_of_ble_eq_true rfl) rfl (t_157 e34) ?_
          refine en_istore (l' := [(6, .int q32), (0, .ref p0), (2, .int p2), (3, .int p3), (4, .int p4), (5, .int p5), (7, .int p7)]) rfl rfl ?_
          refine en_aload rfl rfl ?_
          refine en_iload rfl rfl ?_
          refine en_aload rfl rfl ?_
          obtain ⟨r35, e36, h⟩ := gb h
          refine ec_getP (ci := 9) (j := 4) ⟨rfl, rfl, rfl⟩ g27 e36 rfl ?_
          obtain ⟨g37, h⟩ := gd h
          refine ec_getI (ci := 6) (j := 8) ⟨rfl, rfl, rfl⟩ g37 rfl ?_
          obtain ⟨⟨q38, C39⟩, e40, h⟩ := gb h
          dsimp only at h
          refine ec_callS1 (k' := 158) (n := 2) (as := [.int q32, .int (cI C33 r35 8)]) rfl rfl rfl (Nat.le_of_ble_eq_true rfl) (Nat.le_of_ble_eq_true rfl) (Nat.le_of_ble_eq_true rfl) rfl (t_158 e40) ?_
          refine en_aload rfl rfl ?_
          obtain ⟨r41, e42, h⟩ := gb h
          refine ec_getP (ci := 9) (j := 13) ⟨rfl, rfl, rfl⟩ g27 e42 rfl ?_
          obtain ⟨⟨q43, C44⟩, e45, h⟩ := gb h
          dsimp only at h
          refine ec_callV0 (k' := 151) (n := 3) (rc := 9) (a := p0) (as := [.int q38, .ref r41]) ⟨rfl, rfl⟩ rfl rfl (Nat.le_of_ble_eq_true rfl) (Nat.le_of_ble_eq_true rfl) (Nat.le_of_ble_eq_true rfl) g27 rfl (t_151 e45) ?_
          refine en_aload rfl rfl ?_
          obtain ⟨r46, e47, h⟩ := gb h
          refine ec_getP (ci := 9) (j := 9) ⟨rfl, rfl, rfl⟩ g27 e47 rfl ?_
          obtain ⟨g48, h⟩ := gd h
          refine ec_getI (ci := 3) (j := 11) ⟨rfl, rfl, rfl⟩ g48 rfl ?_
          rcases gi h with ⟨c49, h⟩ | ⟨c49, h⟩
          · refine en_if_ne_t c49 rfl ?_
            refine ec_iinc (l' := [(5, .int (p5 + (1 : Int32))), (6, .int q32), (0, .ref p0), (2, .int p2), (3, .int p3), (4, .int p4), (7, .int p7)]) rfl cst_1 rfl rfl ?_
            refine ec_iinc (l' := [(7, .int (p7 + (1 : Int32))), (5, .int (p5 + (1 : Int32))), (6, .int q32), (0, .ref p0), (2, .int p2), (3, .int p3), (4, .int p4)]) rfl cst_1 rfl rfl ?_
            refine en_goto rfl ?_
            refine en_sub [3, 4, 5, 6, 1, 2, 0] rfl rfl ?_
            exact ih _ _ _ _ _ _ _ _ _ h o M' hk
          · refine en_if_ne_f c49 rfl ?_
            refine en_iload rfl rfl ?_
            refine en_aload rfl rfl ?_
            obtain ⟨r50, e51, h⟩ := gb h
            refine ec_getP (ci := 9) (j := 9) ⟨rfl, rfl, rfl⟩ g27 e51 rfl ?_
            obtain ⟨g52, h⟩ := gd h
            refine ec_getI (ci := 3) (j := 10) ⟨rfl, rfl, rfl⟩ g52 rfl ?_
            refine en_iadd rfl ?_
            refine en_istore (l' := [(4, .int (p4 + (cI C44 r50 10))), (6, .int q32), (0, .ref p0), (2, .int p2), (3, .int p3), (5, .int p5), (7, .int p7)]) rfl rfl ?_
            refine en_aload rfl rfl ?_
            obtain ⟨r53, e54, h⟩ := gb h
            refine ec_getP (ci := 9) (j := 13) ⟨rfl, rfl, rfl⟩ g27 e54 rfl ?_
            refine en_aload rfl rfl ?_
            obtain ⟨r55, e56, h⟩ := gb h
            refine ec_getP (ci := 9) (j := 9) ⟨rfl, rfl, rfl⟩ g27 e56 rfl ?_
            obtain ⟨g57, h⟩ := gd h
            obtain ⟨r58, e59, h⟩ := gb h
            refine ec_getP (ci := 3) (j := 0) ⟨rfl, rfl, rfl⟩ g57 e59 rfl ?_
            obtain ⟨g60, h⟩ := gd h
            obtain ⟨⟨q61, C62⟩, e63, h⟩ := gb h
            dsimp only at h
            refine ec_callV0 (k' := 72) (n := 2) (rc := 5) (a := r53) (as := [.ref r58]) ⟨rfl, rfl⟩ rfl rfl (Nat.le_of_ble_eq_true rfl) (Nat.le_of_ble_eq_true rfl) (Nat.le_of_ble_eq_true rfl) g60 rfl (t_72 e63) ?_
            refine en_goto rfl ?_
            refine ec_iinc (l' := [(7, .int (p7 + (1 : Int32))), (4, .int (p4 + (cI C44 r50 10))), (6, .int q32), (0, .ref p0), (2, .int p2), (3, .int p3), (5, .int p5)]) rfl cst_1 rfl rfl ?_
            refine en_goto rfl ?_
            refine en_sub [3, 4, 5, 1, 6, 2, 0] rfl rfl ?_
            exact ih _ _ _ _ _ _ _ _ _ h o M' hk
      · refine en_icmp_ne_f c26 rfl ?_
        refine en_iload rfl rfl ?_
        obtain ⟨⟨q64, C65⟩, e66, h⟩ := gb h
        dsimp only at h
        refine ec_callS1 (k' := 157) (n := 1) (as := [.int q20]) rfl rfl rfl (Nat.le_of_ble_eq_true rfl) (Nat.le_of_ble_eq_true rfl) (Nat.le_of_ble_eq_true rfl) rfl (t_157 e66) ?_
        refine en_istore (l' := [(6, .int q64), (0, .ref p0), (2, .int p2), (3, .int p3), (4, .int p4), (5, .int p5), (7, .int p7)]) rfl rfl ?_
        refine en_iload rfl rfl ?_
        refine ec_iconst cst_30 rfl ?_
        obtain ⟨⟨q67, C68⟩, e69, h⟩ := gb h
        dsimp only at h
        refine ec_callS1 (k' := 158) (n := 2) (as := [.int q64, .int (30 : Int32)]) rfl rfl rfl (Nat.le_of_ble_eq_true rfl) (Nat.le_of_ble_eq_true rfl) (Nat.le_of_ble_eq_true rfl) rfl (t_158 e69) ?_
        refine en_istore (l' := [(8, .int q67), (6, .int q64), (0, .ref p0), (2, .int p2), (3, .int p3), (4, .int p4), (5, .int p5), (7, .int p7)]) rfl rfl ?_
        refine en_iload rfl rfl ?_
        obtain ⟨⟨q70, C71⟩, e72, h⟩ := gb h
        dsimp only at h
        refine ec_callS1 (k' := 157) (n := 1) (as := [.int q64]) rfl rfl rfl (Nat.le_of_ble_eq_true rfl) (Nat.le_of_ble_eq_true rfl) (Nat.le_of_ble_eq_true rfl) rfl (t_157 e72) ?_
        refine en_istore (l' := [(6, .int q70), (8, .int q67), (0, .ref p0), (2, .int p2), (3, .int p3), (4, .int p4), (5, .int p5), (7, .int p7)]) rfl rfl ?_
        refine en_iload rfl rfl ?_
        refine en_aload rfl rfl ?_
        obtain ⟨g73, h⟩ := gd h
        obtain ⟨r74, e75, h⟩ := gb h
        refine ec_getP (ci := 9) (j := 4) ⟨rfl, rfl, rfl⟩ g73 e75 rfl ?_
        obtain ⟨g76, h⟩ := gd h
        refine ec_getI (ci := 6) (j := 0) ⟨rfl, rfl, rfl⟩ g76 rfl ?_
        obtain ⟨⟨q77, C78⟩, e79, h⟩ := gb h
        dsimp only at h
        refine ec_callS1 (k' := 158) (n := 2) (as := [.int q70, .int (cI C71 r74 0)]) rfl rfl rfl (Nat.le_of_ble_eq_true rfl) (Nat.le_of_ble_eq_true rfl) (Nat.le_of_ble_eq_true rfl) rfl (t_158 e79) ?_
        refine en_istore (l' := [(9, .int q77), (6, .int q70), (8, .int q67), (0, .ref p0), (2, .int p2), (3, .int p3), (4, .int p4), (5, .int p5), (7, .int p7)]) rfl rfl ?_
        refine en_iload rfl rfl ?_
        obtain ⟨⟨q80, C81⟩, e82, h⟩ := gb h
        dsimp only at h
        refine ec_callS1 (k' := 157) (n := 1) (as := [.int q70]) rfl rfl rfl (Nat.le_of_ble_eq_true rfl) (Nat.le_of_ble_eq_true rfl) (Nat.le_of_ble_eq_true rfl) rfl (t_157 e82) ?_
        refine en_istore (l' := [(6, .int q80), (9, .int q77), (8, .int q67), (0, .ref p0), (2, .int p2), (3, .int p3), (4, .int p4), (5, .int p5), (7, .int p7)]) rfl rfl ?_
        refine en_aload rfl rfl ?_
        refine en_aload rfl rfl ?_
        obtain ⟨r83, e84, h⟩ := gb h
        refine ec_getP (ci := 9) (j := 13) ⟨rfl, rfl, rfl⟩ g73 e84 rfl ?_
        refine en_iload rfl rfl ?_
        refine en_iload rfl rfl ?_
        refine en_iload rfl rfl ?_
        refine ec_iconst cst_10 rfl ?_
        obtain ⟨⟨q85, C86⟩, e87, h⟩ := gb h
        dsimp only at h
        refine ec_callS1 (k' := 158) (n := 2) (as := [.int q80, .int (10 : Int32)]) rfl rfl rfl (Nat.le_of_ble_eq_true rfl) (Nat.le_of_ble_eq_true rfl) (Nat.le_of_ble_eq_true rfl) rfl (t_158 e87) ?_
        obtain ⟨⟨q88, C89⟩, e90, h⟩ := gb h
        dsimp only at h
        refine ec_callV1 (k' := 152) (n := 5) (rc := 9) (a := p0) (as := [.ref r83, .int q67, .int q77, .int q85]) ⟨rfl, rfl⟩ rfl rfl (Nat.le_of_ble_eq_true rfl) (Nat.le_of_ble_eq_true rfl) (Nat.le_of_ble_eq_true rfl) g73 rfl (t_152 e90) ?_
        refine en_pop rfl rfl ?_
        refine en_goto rfl ?_
        refine ec_iinc (l' := [(7, .int (p7 + (1 : Int32))), (6, .int q80), (9, .int q77), (8, .int q67), (0, .ref p0), (2, .int p2), (3, .int p3), (4, .int p4), (5, .int p5)]) rfl cst_1 rfl rfl ?_
        refine en_goto rfl ?_
        refine en_sub [4, 5, 6, 7, 8, 1, 0] rfl rfl ?_
        exact ih _ _ _ _ _ _ _ _ _ h o M' hk
/-- BulkWriter.years(III)I -/
def f_139 (n : Nat) (a0 : Nat) (a1 : Int32) (a2 : Int32) (a3 : Int32) (C : AmC) : Option ((Int32 ⊕ Nat) × AmC) := (f_147 n a3 (3 : Int32) C).bind (fun z => match z with | (.inl _, C2) => (if a2 < 0 then some (.inr 1, C2) else (if a2 ≤ (20 : Int32) then if isK a0 9 = true then (cP C2 a0 13).bind (fun r8 => (cP C2 a0 6).bind (fun r10 => if isK r10 7 = true then (cP C2 r10 0).bind (fun r13 => if isK r8 5 = true then (f_72 n r8 r13 C2).bind (fun z => match z with | (_, C17) => (lp_139_27 n a0 a2 a3 (0 : Int32) (0 : Int32) a1 (0 : Int32) C17).bind (fun q => match q with | ((u94, u95, u96, u97), C93) => (if ¬ u95 = 0 then (if ¬ u95 = (1 : Int32) then if isK u94 9 = true then (cP C93 u94 13).bind (fun r101 => if isK r101 5 = true then (f_81 n r101 C93).bind (fun z => match z with | (q104, C105) => some (.inl q104, C105)) else none) else none else some (.inl u97, C93)) else some (.inl u96, C93)))) else none) else none)) else none else some (.inr 1, C2))) | (.inr x4, C2) => some (.inr x4, C2))
set_option maxRecDepth 20000 in
set_option maxHeartbeats 4000000 in
theorem t_139 {n : Nat} {a0 : Nat} {a1 : Int32} {a2 : Int32} {a3 : Int32} {C : AmC} {r : (Int32 ⊕ Nat)} {C' : AmC} (h : f_139 n a0 a1 a2 a3 C = some (r, C')) : En false 139 0 [(0, .ref a0), (1, .int a1), (2, .int a2), (3, .int a3)] [] (mkM C) (ovI r) (mkM C') := by
  unfold f_139 at h
  refine en_iload rfl rfl ?_
  refine ec_iconst cst_3 rfl ?_
  obtain ⟨⟨q1, C2⟩, e3, h⟩ := gb h
  rcases q1 with q1 | x4
  · dsimp only at h
    refine ec_callS0 (k' := 147) (n := 2) (as := [.int a3, .int (3 : Int32)]) rfl rfl rfl (Nat.le_of_ble_eq_true rfl) (Nat.le_of_ble_eq_true rfl) (Nat.le_of_ble_eq_true rfl) rfl (t_147 e3) ?_
    refine en_iload rfl rfl ?_
    rcases gi h with ⟨c5, h⟩ | ⟨c5, h⟩
    · refine en_if_lt_t c5 rfl ?_
      cases h
      exact en_throw (n := 1) rfl ⟨rfl, Nat.le_of_ble_eq_true rfl⟩
    · refine en_if_lt_f c5 rfl ?_
      refine en_iload rfl rfl ?_
      refine ec_iconst cst_20 rfl ?_
      rcases gi h with ⟨c6, h⟩ | ⟨c6, h⟩
      · refine en_icmp_le_t c6 rfl ?_
        refine en_aload rfl rfl ?_
        obtain ⟨g7, h⟩ := gd h
        obtain ⟨r8, e9, h⟩ := gb h
        refine ec_getP (ci := 9) (j := 13) ⟨rfl, rfl, rfl⟩ g7 e9 rfl ?_
        refine en_aload rfl rfl ?_
        obtain ⟨r10, e11, h⟩ := gb h
        refine ec_getP (ci := 9) (j := 6) ⟨rfl, rfl, rfl⟩ g7 e11 rfl ?_
        obtain ⟨g12, h⟩ := gd h
        obtain ⟨r13, e14, h⟩ := gb h
        refine ec_getP (ci := 7) (j := 0) ⟨rfl, rfl, rfl⟩ g12 e14 rfl ?_
        obtain ⟨g15, h⟩ := gd h
        obtain ⟨⟨q16, C17⟩, e18, h⟩ := gb h
        dsimp only at h
        refine ec_callV0 (k' := 72) (n := 2) (rc := 5) (a := r8) (as := [.ref r13]) ⟨rfl, rfl⟩ rfl rfl (Nat.le_of_ble_eq_true rfl) (Nat.le_of_ble_eq_true rfl) (Nat.le_of_ble_eq_true rfl) g15 rfl (t_72 e18) ?_
        refine ec_iconst cst_0 rfl ?_
        refine en_istore (l' := [(4, .int (0 : Int32)), (0, .ref a0), (1, .int a1), (2, .int a2), (3, .int a3)]) rfl rfl ?_
        refine ec_iconst cst_0 rfl ?_
        refine en_istore (l' := [(5, .int (0 : Int32)), (4, .int (0 : Int32)), (0, .ref a0), (1, .int a1), (2, .int a2), (3, .int a3)]) rfl rfl ?_
        refine en_iload rfl rfl ?_
        refine en_istore (l' := [(6, .int a1), (5, .int (0 : Int32)), (4, .int (0 : Int32)), (0, .ref a0), (1, .int a1), (2, .int a2), (3, .int a3)]) rfl rfl ?_
        refine ec_iconst cst_0 rfl ?_
        refine en_istore (l' := [(7, .int (0 : Int32)), (6, .int a1), (5, .int (0 : Int32)), (4, .int (0 : Int32)), (0, .ref a0), (1, .int a1), (2, .int a2), (3, .int a3)]) rfl rfl ?_
        obtain ⟨⟨q91, C93⟩, e92, h⟩ := gb h
        refine en_sub [4, 6, 7, 3, 2, 1, 0] rfl rfl (lt_139_27 n _ _ _ _ _ _ _ _ _ e92 _ _ ?_)
        obtain ⟨u94, u95, u96, u97⟩ := q91
        dsimp only at h ⊢
        refine en_iload rfl rfl ?_
        rcases gi h with ⟨c98, h⟩ | ⟨c98, h⟩
        · refine en_if_ne_t c98 rfl ?_
          refine en_iload rfl rfl ?_
          refine ec_iconst cst_1 rfl ?_
          rcases gi h with ⟨c99, h⟩ | ⟨c99, h⟩
          · refine en_icmp_ne_t c99 rfl ?_
            refine en_aload rfl rfl ?_
            obtain ⟨g100, h⟩ := gd h
            obtain ⟨r101, e102, h⟩ := gb h
            refine ec_getP (ci := 9) (j := 13) ⟨rfl, rfl, rfl⟩ g100 e102 rfl ?_
            obtain ⟨g103, h⟩ := gd h
            obtain ⟨⟨q104, C105⟩, e106, h⟩ := gb h
            dsimp only at h
            refine ec_callV1 (k' := 81) (n := 1) (rc := 5) (a := r101) (as := []) ⟨rfl, rfl⟩ rfl rfl (Nat.le_of_ble_eq_true rfl) (Nat.le_of_ble_eq_true rfl) (Nat.le_of_ble_eq_true rfl) g103 rfl (t_81 e106) ?_
            cases h
            exact en_iret rfl
          · refine en_icmp_ne_f c99 rfl ?_
            refine en_iload rfl rfl ?_
            refine en_goto rfl ?_
            cases h
            exact en_iret rfl
        · refine en_if_ne_f c98 rfl ?_
          refine en_iload rfl rfl ?_
          refine en_goto rfl ?_
          cases h
          exact en_iret rfl
      · refine en_icmp_le_f c6 rfl ?_
        cases h
        exact en_throw (n := 1) rfl ⟨rfl, Nat.le_of_ble_eq_true rfl⟩
  · dsimp only at h
    cases h
    exact ec_callSx (k' := 147) (n := 2) (as := [.int a3, .int (3 : Int32)]) rfl rfl rfl (Nat.le_of_ble_eq_true rfl) (Nat.le_of_ble_eq_true rfl) (Nat.le_of_ble_eq_true rfl) rfl (t_147 e3)
/-- BulkWriter.image()V -/
def f_140 (n : Nat) (a0 : Nat) (C : AmC) : Option (Unit × AmC) := if isK a0 9 = true then (cP C a0 7).bind (fun r2 => (cP C a0 6).bind (fun r4 => if isK r2 7 = true then (f_110 n r2 r4 C).bind (fun z => match z with | (_, C8) => some ((), uI C8 a0 8 (1 : Int32))) else none)) else none
set_option maxRecDepth 20000 in
set_option maxHeartbeats 4000000 in
theorem t_140 {n : Nat} {a0 : Nat} {C : AmC} {r : Unit} {C' : AmC} (h : f_140 n a0 C = some (r, C')) : En false 140 0 [(0, .ref a0)] [] (mkM C) (.inl none) (mkM C') := by
  unfold f_140 at h
  refine en_aload rfl rfl ?_
  obtain ⟨g1, h⟩ := gd h
  obtain ⟨r2, e3, h⟩ := gb h
  refine ec_getP (ci := 9) (j := 7) ⟨rfl, rfl, rfl⟩ g1 e3 rfl ?_
  refine en_aload rfl rfl ?_
  obtain ⟨r4, e5, h⟩ := gb h
  refine ec_getP (ci := 9) (j := 6) ⟨rfl, rfl, rfl⟩ g1 e5 rfl ?_
  obtain ⟨g6, h⟩ := gd h
  obtain ⟨⟨q7, C8⟩, e9, h⟩ := gb h
  dsimp only at h
  refine ec_callV0 (k' := 110) (n := 2) (rc := 7) (a := r2) (as := [.ref r4]) ⟨rfl, rfl⟩ rfl rfl (Nat.le_of_ble_eq_true rfl) (Nat.le_of_ble_eq_true rfl) (Nat.le_of_ble_eq_true rfl) g6 rfl (t_110 e9) ?_
  refine en_aload rfl rfl ?_
  refine ec_iconst cst_1 rfl ?_
  refine ec_putZ (ci := 9) (j := 8) ⟨rfl, rfl, rfl⟩ g1 (Or.inr rfl) rfl ?_
  cases h
  exact en_vret rfl
/-- BulkWriter.restore()Z -/
def f_141 (n : Nat) (a0 : Nat) (C : AmC) : Option (Int32 × AmC) := if isK a0 9 = true then (if (cI C a0 8) = 0 then if (cI C a0 8) = 0 ∨ (cI C a0 8) = 1 then some ((cI C a0 8), C) else none else (cP C a0 6).bind (fun r4 => (cP C a0 7).bind (fun r6 => if isK r4 7 = true then (f_110 n r4 r6 C).bind (fun z => match z with | (_, C10) => if (cI C10 a0 8) = 0 ∨ (cI C10 a0 8) = 1 then some ((cI C10 a0 8), C10) else none) else none))) else none
set_option maxRecDepth 20000 in
set_option maxHeartbeats 4000000 in
theorem t_141 {n : Nat} {a0 : Nat} {C : AmC} {r : Int32} {C' : AmC} (h : f_141 n a0 C = some (r, C')) : En false 141 0 [(0, .ref a0)] [] (mkM C) (.inl (some (.int r))) (mkM C') := by
  unfold f_141 at h
  refine en_aload rfl rfl ?_
  obtain ⟨g1, h⟩ := gd h
  refine ec_getI (ci := 9) (j := 8) ⟨rfl, rfl, rfl⟩ g1 rfl ?_
  rcases gi h with ⟨c2, h⟩ | ⟨c2, h⟩
  · refine en_if_eq_t c2 rfl ?_
    refine en_aload rfl rfl ?_
    refine ec_getI (ci := 9) (j := 8) ⟨rfl, rfl, rfl⟩ g1 rfl ?_
    obtain ⟨g3, h⟩ := gd h
    cases h
    exact en_zret g3 rfl
  · refine en_if_eq_f c2 rfl ?_
    refine en_aload rfl rfl ?_
    obtain ⟨r4, e5, h⟩ := gb h
    refine ec_getP (ci := 9) (j := 6) ⟨rfl, rfl, rfl⟩ g1 e5 rfl ?_
    refine en_aload rfl rfl ?_
    obtain ⟨r6, e7, h⟩ := gb h
    refine ec_getP (ci := 9) (j := 7) ⟨rfl, rfl, rfl⟩ g1 e7 rfl ?_
    obtain ⟨g8, h⟩ := gd h
    obtain ⟨⟨q9, C10⟩, e11, h⟩ := gb h
    dsimp only at h
    refine ec_callV0 (k' := 110) (n := 2) (rc := 7) (a := r4) (as := [.ref r6]) ⟨rfl, rfl⟩ rfl rfl (Nat.le_of_ble_eq_true rfl) (Nat.le_of_ble_eq_true rfl) (Nat.le_of_ble_eq_true rfl) g8 rfl (t_110 e11) ?_
    refine en_aload rfl rfl ?_
    refine ec_getI (ci := 9) (j := 8) ⟨rfl, rfl, rfl⟩ g1 rfl ?_
    obtain ⟨g12, h⟩ := gd h
    cases h
    exact en_zret g12 rfl
/-- BulkWriterModel.clears(I)V -/
def f_160 (n : Nat) (a0 : Nat) (a1 : Int32) (C : AmC) : Option (Unit × AmC) := if isK a0 10 = true then (cP C a0 21).bind (fun r2 => if isK r2 12 = true then if amIn a1 (aLen r2) = true then (cP (uI C r2 (Int32.toNatClampNeg a1) (3 : Int32)) a0 22).bind (fun r6 => (cP (uI C r2 (Int32.toNatClampNeg a1) (3 : Int32)) a0 23).bind (fun r8 => (cP (uI C r2 (Int32.toNatClampNeg a1) (3 : Int32)) a0 24).bind (fun r10 => (cP (uI C r2 (Int32.toNatClampNeg a1) (3 : Int32)) a0 25).bind (fun r12 => (cP (uI C r2 (Int32.toNatClampNeg a1) (3 : Int32)) a0 26).bind (fun r14 => (cP (uI C r2 (Int32.toNatClampNeg a1) (3 : Int32)) a0 27).bind (fun r16 => (cP (uI C r2 (Int32.toNatClampNeg a1) (3 : Int32)) a0 28).bind (fun r18 => if isK r18 12 = true then if amIn a1 (aLen r18) = true then if isK r16 12 = true then if amIn a1 (aLen r16) = true then if isK r14 12 = true then if amIn a1 (aLen r14) = true then if isK r12 12 = true then if amIn a1 (aLen r12) = true then if isK r10 12 = true then if amIn a1 (aLen r10) = true then if isK r8 12 = true then if amIn a1 (aLen r8) = true then if isK r6 12 = true then if amIn a1 (aLen r6) = true then some ((), uI (uI (uI (uI (uI (uI (uI (uI C r2 (Int32.toNatClampNeg a1) (3 : Int32)) r18 (Int32.toNatClampNeg a1) (0 : Int32)) r16 (Int32.toNatClampNeg a1) (0 : Int32)) r14 (Int32.toNatClampNeg a1) (0 : Int32)) r12 (Int32.toNatClampNeg a1) (0 : Int32)) r10 (Int32.toNatClampNeg a1) (0 : Int32)) r8 (Int32.toNatClampNeg a1) (0 : Int32)) r6 (Int32.toNatClampNeg a1) (0 : Int32)) else none else none else none else none else none else none else none else none else none else none else none else none else none else none))))))) else none else none) else none
set_option maxRecDepth 20000 in
set_option maxHeartbeats 4000000 in
theorem t_160 {n : Nat} {a0 : Nat} {a1 : Int32} {C : AmC} {r : Unit} {C' : AmC} (h : f_160 n a0 a1 C = some (r, C')) : En false 160 0 [(0, .ref a0), (1, .int a1)] [] (mkM C) (.inl none) (mkM C') := by
  unfold f_160 at h
  refine en_aload rfl rfl ?_
  obtain ⟨g1, h⟩ := gd h
  obtain ⟨r2, e3, h⟩ := gb h
  refine ec_getP (ci := 10) (j := 21) ⟨rfl, rfl, rfl⟩ g1 e3 rfl ?_
  refine en_iload rfl rfl ?_
  refine ec_iconst cst_3 rfl ?_
  obtain ⟨g4, h⟩ := gd h
  obtain ⟨g5, h⟩ := gd h
  refine ec_iastore g4 g5 rfl ?_
  refine en_aload rfl rfl ?_
  obtain ⟨r6, e7, h⟩ := gb h
  refine ec_getP (ci := 10) (j := 22) ⟨rfl, rfl, rfl⟩ g1 e7 rfl ?_
  refine en_iload rfl rfl ?_
  refine en_aload rfl rfl ?_
  obtain ⟨r8, e9, h⟩ := gb h
  refine ec_getP (ci := 10) (j := 23) ⟨rfl, rfl, rfl⟩ g1 e9 rfl ?_
  refine en_iload rfl rfl ?_
  refine en_aload rfl rfl ?_
  obtain ⟨r10, e11, h⟩ := gb h
  refine ec_getP (ci := 10) (j := 24) ⟨rfl, rfl, rfl⟩ g1 e11 rfl ?_
  refine en_iload rfl rfl ?_
  refine en_aload rfl rfl ?_
  obtain ⟨r12, e13, h⟩ := gb h
  refine ec_getP (ci := 10) (j := 25) ⟨rfl, rfl, rfl⟩ g1 e13 rfl ?_
  refine en_iload rfl rfl ?_
  refine en_aload rfl rfl ?_
  obtain ⟨r14, e15, h⟩ := gb h
  refine ec_getP (ci := 10) (j := 26) ⟨rfl, rfl, rfl⟩ g1 e15 rfl ?_
  refine en_iload rfl rfl ?_
  refine en_aload rfl rfl ?_
  obtain ⟨r16, e17, h⟩ := gb h
  refine ec_getP (ci := 10) (j := 27) ⟨rfl, rfl, rfl⟩ g1 e17 rfl ?_
  refine en_iload rfl rfl ?_
  refine en_aload rfl rfl ?_
  obtain ⟨r18, e19, h⟩ := gb h
  refine ec_getP (ci := 10) (j := 28) ⟨rfl, rfl, rfl⟩ g1 e19 rfl ?_
  refine en_iload rfl rfl ?_
  refine ec_iconst cst_0 rfl ?_
  refine en_dup_x2 ⟨rfl, rfl, rfl⟩ rfl ?_
  obtain ⟨g20, h⟩ := gd h
  obtain ⟨g21, h⟩ := gd h
  refine ec_iastore g20 g21 rfl ?_
  refine en_dup_x2 ⟨rfl, rfl, rfl⟩ rfl ?_
  obtain ⟨g22, h⟩ := gd h
  obtain ⟨g23, h⟩ := gd h
  refine ec_iastore g22 g23 rfl ?_
  refine en_dup_x2 ⟨rfl, rfl, rfl⟩ rfl ?_
  obtain ⟨g24, h⟩ := gd h
  obtain ⟨g25, h⟩ := gd h
  refine ec_iastore g24 g25 rfl ?_
  refine en_dup_x2 ⟨rfl, rfl, rfl⟩ rfl ?_
  obtain ⟨g26, h⟩ := gd h
  obtain ⟨g27, h⟩ := gd h
  refine ec_iastore g26 g27 rfl ?_
  refine en_dup_x2 ⟨rfl, rfl, rfl⟩ rfl ?_
  obtain ⟨g28, h⟩ := gd h
  obtain ⟨g29, h⟩ := gd h
  refine ec_iastore g28 g29 rfl ?_
  refine en_dup_x2 ⟨rfl, rfl, rfl⟩ rfl ?_
  obtain ⟨g30, h⟩ := gd h
  obtain ⟨g31, h⟩ := gd h
  refine ec_iastore g30 g31 rfl ?_
  obtain ⟨g32, h⟩ := gd h
  obtain ⟨g33, h⟩ := gd h
  refine ec_iastore g32 g33 rfl ?_
  cases h
  exact en_vret rfl
/-- BulkWriterModel.thrown()I -/
def f_161 (n : Nat) (a0 : Nat) (C : AmC) : Option (Int32 × AmC) := if isK a0 10 = true then some ((cI C a0 5), C) else none
set_option maxRecDepth 20000 in
set_option maxHeartbeats 4000000 in
theorem t_161 {n : Nat} {a0 : Nat} {C : AmC} {r : Int32} {C' : AmC} (h : f_161 n a0 C = some (r, C')) : En false 161 0 [(0, .ref a0)] [] (mkM C) (.inl (some (.int r))) (mkM C') := by
  unfold f_161 at h
  refine en_aload rfl rfl ?_
  obtain ⟨g1, h⟩ := gd h
  refine ec_getI (ci := 10) (j := 5) ⟨rfl, rfl, rfl⟩ g1 rfl ?_
  cases h
  exact en_iret rfl
/-- BulkWriterModel.fine(ZI)Z -/
def f_162 (n : Nat) (a0 : Nat) (a1 : Int32) (a2 : Int32) (C : AmC) : Option (Int32 × AmC) := if isK a0 10 = true then (if ¬ (cI C a0 5) = 0 then (if ¬ (cI C a0 5) = 0 then some ((0 : Int32), C) else some ((1 : Int32), C)) else (if ¬ a1 = 0 then (if ¬ (cI C a0 5) = 0 then some ((0 : Int32), C) else some ((1 : Int32), C)) else (if ¬ (cI (uI C a0 5 a2) a0 5) = 0 then some ((0 : Int32), uI C a0 5 a2) else some ((1 : Int32), uI C a0 5 a2)))) else none
set_option maxRecDepth 20000 in
set_option maxHeartbeats 4000000 in
theorem t_162 {n : Nat} {a0 : Nat} {a1 : Int32} {a2 : Int32} {C : AmC} {r : Int32} {C' : AmC} (h : f_162 n a0 a1 a2 C = some (r, C')) : En false 162 0 [(0, .ref a0), (1, .int a1), (2, .int a2)] [] (mkM C) (.inl (some (.int r))) (mkM C') := by
  unfold f_162 at h
  refine en_aload rfl rfl ?_
  obtain ⟨g1, h⟩ := gd h
  refine ec_getI (ci := 10) (j := 5) ⟨rfl, rfl, rfl⟩ g1 rfl ?_
  rcases gi h with ⟨c2, h⟩ | ⟨c2, h⟩
  · refine en_if_ne_t c2 rfl ?_
    refine en_aload rfl rfl ?_
    refine ec_getI (ci := 10) (j := 5) ⟨rfl, rfl, rfl⟩ g1 rfl ?_
    rcases gi h with ⟨c3, h⟩ | ⟨c3, h⟩
    · refine en_if_ne_t c3 rfl ?_
      refine ec_iconst cst_0 rfl ?_
      cases h
      exact en_zret (Or.inl rfl) rfl
    · refine en_if_ne_f c3 rfl ?_
      refine ec_iconst cst_1 rfl ?_
      refine en_goto rfl ?_
      cases h
      exact en_zret (Or.inr rfl) rfl
  · refine en_if_ne_f c2 rfl ?_
    refine en_iload rfl rfl ?_
    rcases gi h with ⟨c4, h⟩ | ⟨c4, h⟩
    · refine en_if_ne_t c4 rfl ?_
      refine en_aload rfl rfl ?_
      refine ec_getI (ci := 10) (j := 5) ⟨rfl, rfl, rfl⟩ g1 rfl ?_
      rcases gi h with ⟨c5, h⟩ | ⟨c5, h⟩
      · refine en_if_ne_t c5 rfl ?_
        refine ec_iconst cst_0 rfl ?_
        cases h
        exact en_zret (Or.inl rfl) rfl
      · refine en_if_ne_f c5 rfl ?_
        refine ec_iconst cst_1 rfl ?_
        refine en_goto rfl ?_
        cases h
        exact en_zret (Or.inr rfl) rfl
    · refine en_if_ne_f c4 rfl ?_
      refine en_aload rfl rfl ?_
      refine en_iload rfl rfl ?_
      refine ec_putI (ci := 10) (j := 5) ⟨rfl, rfl, rfl⟩ g1 rfl ?_
      refine en_aload rfl rfl ?_
      refine ec_getI (ci := 10) (j := 5) ⟨rfl, rfl, rfl⟩ g1 rfl ?_
      rcases gi h with ⟨c6, h⟩ | ⟨c6, h⟩
      · refine en_if_ne_t c6 rfl ?_
        refine ec_iconst cst_0 rfl ?_
        cases h
        exact en_zret (Or.inl rfl) rfl
      · refine en_if_ne_f c6 rfl ?_
        refine ec_iconst cst_1 rfl ?_
        refine en_goto rfl ?_
        cases h
        exact en_zret (Or.inr rfl) rfl
/-- BulkWriterModel.within(III)Z -/
def f_163 (n : Nat) (a0 : Int32) (a1 : Int32) (a2 : Int32) (C : AmC) : Option (Int32 × AmC) := (if a0 < a1 then some ((0 : Int32), C) else (if a2 < a0 then some ((0 : Int32), C) else some ((1 : Int32), C)))
set_option maxRecDepth 20000 in
set_option maxHeartbeats 4000000 in
theorem t_163 {n : Nat} {a0 : Int32} {a1 : Int32} {a2 : Int32} {C : AmC} {r : Int32} {C' : AmC} (h : f_163 n a0 a1 a2 C = some (r, C')) : En false 163 0 [(0, .int a0), (1, .int a1), (2, .int a2)] [] (mkM C) (.inl (some (.int r))) (mkM C') := by
  unfold f_163 at h
  refine en_iload rfl rfl ?_
  refine en_iload rfl rfl ?_
  rcases gi h with ⟨c1, h⟩ | ⟨c1, h⟩
  · refine en_icmp_lt_t c1 rfl ?_
    refine ec_iconst cst_0 rfl ?_
    cases h
    exact en_zret (Or.inl rfl) rfl
  · refine en_icmp_lt_f c1 rfl ?_
    refine en_iload rfl rfl ?_
    refine en_iload rfl rfl ?_
    rcases gi h with ⟨c2, h⟩ | ⟨c2, h⟩
    · refine en_icmp_gt_t c2 rfl ?_
      refine ec_iconst cst_0 rfl ?_
      cases h
      exact en_zret (Or.inl rfl) rfl
    · refine en_icmp_gt_f c2 rfl ?_
      refine ec_iconst cst_1 rfl ?_
      refine en_goto rfl ?_
      cases h
      exact en_zret (Or.inr rfl) rfl
def lp_164_2 : Nat → Nat → Int32 → Int32 → Int32 → Int32 → AmC → Option (((Unit)) × AmC)
  | 0, _, _, _, _, _, _ => none
  | n + 1, p0, p1, p2, p3, p4, C => (if p3 ≤ p4 then some ((), C) else if isK p0 10 = true then (cP C p0 0).bind (fun r3 => (cP C p0 0).bind (fun r5 => if isK r5 12 = true then if amIn (p1 + p4) (aLen r5) = true then if isK r3 12 = true then if amIn (p2 + p4) (aLen r3) = true then lp_164_2 n p0 p1 p2 p3 (p4 + (1 : Int32)) (uI C r3 (Int32.toNatClampNeg (p2 + p4)) (cI C r5 (Int32.toNatClampNeg (p1 + p4)))) else none else none else none else none)) else none)
set_option maxRecDepth 20000 in
set_option maxHeartbeats 4000000 in
theorem lt_164_2 : ∀ (n : Nat) (p0 : Nat) (p1 : Int32) (p2 : Int32) (p3 : Int32) (p4 : Int32) (C : AmC) (r : ((Unit)) × AmC), lp_164_2 n p0 p1 p2 p3 p4 C = some r → ∀ (o : AmO) (M' : AmM), (match r with
        | (_, C') => En false 164 19 [] [] (mkM C') o M') → En false 164 2 [(0, .ref p0), (1, .int p1), (2, .int p2), (3, .int p3), (4, .int p4)] [] (mkM C) o M' := by
  intro n
  induction n with
  | zero => intro p0 p1 p2 p3 p4 C r h; cases h
  | succ n ih =>
    intro p0 p1 p2 p3 p4 C r h o M' hk
    unfold lp_164_2 at h
    refine en_iload rfl rfl ?_
    refine en_iload rfl rfl ?_
    rcases gi h with ⟨c1, h⟩ | ⟨c1, h⟩
    · refine en_icmp_ge_t c1 rfl ?_
      cases h
      exact en_sub [] rfl rfl hk
    · refine en_icmp_ge_f c1 rfl ?_
      refine en_aload rfl rfl ?_
      obtain ⟨g2, h⟩ := gd h
      obtain ⟨r3, e4, h⟩ := gb h
      refine ec_getP (ci := 10) (j := 0) ⟨rfl, rfl, rfl⟩ g2 e4 rfl ?_
      refine en_iload rfl rfl ?_
      refine en_iload rfl rfl ?_
      refine en_iadd rfl ?_
      refine en_aload rfl rfl ?_
      obtain ⟨r5, e6, h⟩ := gb h
      refine ec_getP (ci := 10) (j := 0) ⟨rfl, rfl, rfl⟩ g2 e6 rfl ?_
      refine en_iload rfl rfl ?_
      refine en_iload rfl rfl ?_
      refine en_iadd rfl ?_
      obtain ⟨g7, h⟩ := gd h
      obtain ⟨g8, h⟩ := gd h
      refine ec_iaload g7 g8 rfl ?_
      obtain ⟨g9, h⟩ := gd h
      obtain ⟨g10, h⟩ := gd h
      refine ec_iastore g9 g10 rfl ?_
      refine ec_iinc (l' := [(4, .int (p4 + (1 : Int32))), (0, .ref p0), (1, .int p1), (2, .int p2), (3, .int p3)]) rfl cst_1 rfl rfl ?_
      refine en_goto rfl ?_
      refine en_sub [1, 2, 3, 4, 0] rfl rfl ?_
      exact ih _ _ _ _ _ _ _ h o M' hk
/-- BulkWriterModel.copies(III)V -/
def f_164 (n : Nat) (a0 : Nat) (a1 : Int32) (a2 : Int32) (a3 : Int32) (C : AmC) : Option (Unit × AmC) := (lp_164_2 n a0 a1 a2 a3 (0 : Int32) C).bind (fun q => match q with | (_, C13) => some ((), C13))
set_option maxRecDepth 20000 in
set_option maxHeartbeats 4000000 in
theorem t_164 {n : Nat} {a0 : Nat} {a1 : Int32} {a2 : Int32} {a3 : Int32} {C : AmC} {r : Unit} {C' : AmC} (h : f_164 n a0 a1 a2 a3 C = some (r, C')) : En false 164 0 [(0, .ref a0), (1, .int a1), (2, .int a2), (3, .int a3)] [] (mkM C) (.inl none) (mkM C') := by
  unfold f_164 at h
  refine ec_iconst cst_0 rfl ?_
  refine en_istore (l' := [(4, .int (0 : Int32)), (0, .ref a0), (1, .int a1), (2, .int a2), (3, .int a3)]) rfl rfl ?_
  obtain ⟨⟨q11, C13⟩, e12, h⟩ := gb h
  refine en_sub [1, 2, 3, 4, 0] rfl rfl (lt_164_2 n _ _ _ _ _ _ _ e12 _ _ ?_)
  dsimp only at h ⊢
  cases h
  exact en_vret rfl
/-- BulkWriterModel.isLetter(I)Z -/
def f_165 (n : Nat) (a0 : Int32) (C : AmC) : Option (Int32 × AmC) := (if a0 < (97 : Int32) then some ((0 : Int32), C) else (if (122 : Int32) < a0 then some ((0 : Int32), C) else some ((1 : Int32), C)))
set_option maxRecDepth 20000 in
set_option maxHeartbeats 4000000 in
theorem t_165 {n : Nat} {a0 : Int32} {C : AmC} {r : Int32} {C' : AmC} (h : f_165 n a0 C = some (r, C')) : En false 165 0 [(0, .int a0)] [] (mkM C) (.inl (some (.int r))) (mkM C') := by
  unfold f_165 at h
  refine en_iload rfl rfl ?_
  refine ec_iconst cst_97 rfl ?_
  rcases gi h with ⟨c1, h⟩ | ⟨c1, h⟩
  · refine en_icmp_lt_t c1 rfl ?_
    refine ec_iconst cst_0 rfl ?_
    cases h
    exact en_zret (Or.inl rfl) rfl
  · refine en_icmp_lt_f c1 rfl ?_
    refine en_iload rfl rfl ?_
    refine ec_iconst cst_122 rfl ?_
    rcases gi h with ⟨c2, h⟩ | ⟨c2, h⟩
    · refine en_icmp_gt_t c2 rfl ?_
      refine ec_iconst cst_0 rfl ?_
      cases h
      exact en_zret (Or.inl rfl) rfl
    · refine en_icmp_gt_f c2 rfl ?_
      refine ec_iconst cst_1 rfl ?_
      refine en_goto rfl ?_
      cases h
      exact en_zret (Or.inr rfl) rfl
/-- BulkWriterModel.byteAt(I)I -/
def f_166 (n : Nat) (a0 : Nat) (a1 : Int32) (C : AmC) : Option (Int32 × AmC) := if isK a0 10 = true then (if (cI C a0 47) ≤ a1 then some ((0 : Int32), C) else (cP C a0 42).bind (fun r3 => if isK r3 12 = true then if amIn a1 (aLen r3) = true then some ((cI C r3 (Int32.toNatClampNeg a1)), C) else none else none)) else none
set_option maxRecDepth 20000 in
set_option maxHeartbeats 4000000 in
theorem t_166 {n : Nat} {a0 : Nat} {a1 : Int32} {C : AmC} {r : Int32} {C' : AmC} (h : f_166 n a0 a1 C = some (r, C')) : En false 166 0 [(0, .ref a0), (1, .int a1)] [] (mkM C) (.inl (some (.int r))) (mkM C') := by
  unfold f_166 at h
  refine en_iload rfl rfl ?_
  refine en_aload rfl rfl ?_
  obtain ⟨g1, h⟩ := gd h
  refine ec_getI (ci := 10) (j := 47) ⟨rfl, rfl, rfl⟩ g1 rfl ?_
  rcases gi h with ⟨c2, h⟩ | ⟨c2, h⟩
  · refine en_icmp_ge_t c2 rfl ?_
    refine ec_iconst cst_0 rfl ?_
    cases h
    exact en_iret rfl
  · refine en_icmp_ge_f c2 rfl ?_
    refine en_aload rfl rfl ?_
    obtain ⟨r3, e4, h⟩ := gb h
    refine ec_getP (ci := 10) (j := 42) ⟨rfl, rfl, rfl⟩ g1 e4 rfl ?_
    refine en_iload rfl rfl ?_
    obtain ⟨g5, h⟩ := gd h
    obtain ⟨g6, h⟩ := gd h
    refine ec_iaload g5 g6 rfl ?_
    refine en_goto rfl ?_
    cases h
    exact en_iret rfl
