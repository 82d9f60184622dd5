def lp_205_4 : Nat → Nat → Int32 → Int32 → Int32 → AmC → Option (((Nat × Int32)) × AmC)
  | 0, _, _, _, _, _ => none
  | n + 1, p0, p1, p2, p3, C => (if (30 : Int32) ≤ p3 then some ((p0, p2), C) else if isK p0 10 = true then (cP C p0 57).bind (fun r3 => if isK r3 12 = true then if amIn p3 (aLen r3) = true then (if (cI C r3 (Int32.toNatClampNeg p3)) = 0 then lp_205_4 n p0 p1 p2 (p3 + (1 : Int32)) C else (f_199 n p0 (cI C p0 60) p3 C).bind (fun z => match z with | (q8, C9) => (if q8 = 0 then lp_205_4 n p0 p1 p2 (p3 + (1 : Int32)) C9 else (f_201 n p0 (cI C9 p0 60) p3 p1 C9).bind (fun z => match z with | (q12, C13) => (if ¬ q12 = 0 then (if p2 = (-1 : Int32) then lp_205_4 n p0 p1 p3 (p3 + (1 : Int32)) C13 else (f_200 n p0 (cI C13 p0 60) p3 p2 C13).bind (fun z => match z with | (q17, C18) => (if q17 = 0 then lp_205_4 n p0 p1 p2 (p3 + (1 : Int32)) C18 else lp_205_4 n p0 p1 p3 (p3 + (1 : Int32)) C18))) else lp_205_4 n p0 p1 p2 (p3 + (1 : Int32)) C13))))) else none else none) else none)
set_option maxRecDepth 20000 in
set_option maxHeartbeats 4000000 in
theorem lt_205_4 : ∀ (n : Nat) (p0 : Nat) (p1 : Int32) (p2 : Int32) (p3 : Int32) (C : AmC) (r : ((Nat × Int32)) × AmC), lp_205_4 n p0 p1 p2 p3 C = some r → ∀ (o : AmO) (M' : AmM), (match r with
        | ((w0, w2), C') => En false 205 40 [(0, .ref w0), (2, .int w2)] [] (mkM C') o M') → En false 205 4 [(0, .ref p0), (1, .int p1), (2, .int p2), (3, .int p3)] [] (mkM C) o M' := by
  intro n
  induction n with
  | zero => intro p0 p1 p2 p3 C r h; cases h
  | succ n ih =>
    intro p0 p1 p2 p3 C r h o M' hk
    unfold lp_205_4 at h
    refine en_iload rfl rfl ?_
    refine ec_iconst cst_30 rfl ?_
    rcases gi h with ⟨c1, h⟩ | ⟨c1, h⟩
    · refine en_icmp_ge_t c1 rfl ?_
      cases h
      exact en_sub [0, 2] rfl rfl hk
    · refine en_icmp_ge_f c1 rfl ?_
      refine en_aload rfl rfl ?_
      obtain ⟨g2, h⟩ := gd h
      obtain ⟨r3, e4, h⟩ := gb h
      refine ec_getP (ci := 10) (j := 57) ⟨rfl, rfl, rfl⟩ g2 e4 rfl ?_
      refine en_iload rfl rfl ?_
      obtain ⟨g5, h⟩ := gd h
      obtain ⟨g6, h⟩ := gd h
      refine ec_iaload g5 g6 rfl ?_
      rcases gi h with ⟨c7, h⟩ | ⟨c7, h⟩
      · refine en_if_eq_t c7 rfl ?_
        refine ec_iinc (l' := [(3, .int (p3 + (1 : Int32))), (0, .ref p0), (1, .int p1), (2, .int p2)]) rfl cst_1 rfl rfl ?_
        refine en_goto rfl ?_
        refine en_sub [1, 2, 3, 0] rfl rfl ?_
        exact ih _ _ _ _ _ _ h o M' hk
      · refine en_if_eq_f c7 rfl ?_
        refine en_aload rfl rfl ?_
        refine en_aload rfl rfl ?_
        refine ec_getI (ci := 10) (j := 60) ⟨rfl, rfl, rfl⟩ g2 rfl ?_
        refine en_iload rfl rfl ?_
        obtain ⟨⟨q8, C9⟩, e10, h⟩ := gb h
        dsimp only at h
        refine ec_callV1 (k' := 199) (n := 3) (rc := 10) (a := p0) (as := [.int (cI C p0 60), .int p3]) ⟨rfl, rfl⟩ rfl rfl (Nat.le_of_ble_eq_true rfl) (Nat.le_of_ble_eq_true rfl) (Nat.le_of_ble_eq_true rfl) g2 rfl (t_199 e10) ?_
        rcases gi h with ⟨c11, h⟩ | ⟨c11, h⟩
        · refine en_if_eq_t c11 rfl ?_
          refine ec_iinc (l' := [(3, .int (p3 + (1 : Int32))), (0, .ref p0), (1, .int p1), (2, .int p2)]) rfl cst_1 rfl rfl ?_
          refine en_goto rfl ?_
          refine en_sub [1, 2, 3, 0] rfl rfl ?_
          exact ih _ _ _ _ _ _ h o M' hk
        · refine en_if_eq_f c11 rfl ?_
          refine en_aload rfl rfl ?_
          refine en_aload rfl rfl ?_
          refine ec_getI (ci := 10) (j := 60) ⟨rfl, rfl, rfl⟩ g2 rfl ?_
          refine en_iload rfl rfl ?_
          refine en_iload rfl rfl ?_
          obtain ⟨⟨q12, C13⟩, e14, h⟩ := gb h
          dsimp only at h
          refine ec_callV1 (k' := 201) (n := 4) (rc := 10) (a := p0) (as := [.int (cI C9 p0 60), .int p3, .int p1]) ⟨rfl, rfl⟩ rfl rfl (Nat.le_of_ble_eq_true rfl) (Nat.le_of_ble_eq_true rfl) (Nat.le_of_ble_eq_true rfl) g2 rfl (t_201 e14) ?_
          rcases gi h with ⟨c15, h⟩ | ⟨c15, h⟩
          · refine en_if_ne_t c15 rfl ?_
            refine en_iload rfl rfl ?_
            refine ec_iconst cst_m1 rfl ?_
            rcases gi h with ⟨c16, h⟩ | ⟨c16, h⟩
            · refine en_icmp_eq_t c16 rfl ?_
              refine en_iload rfl rfl ?_
              refine en_istore (l' := [(2, .int p3), (0, .ref p0), (1, .int p1), (3, .int p3)]) rfl rfl ?_
              refine ec_iinc (l' := [(3, .int (p3 + (1 : Int32))), (2, .int p3), (0, .ref p0), (1, .int p1)]) rfl cst_1 rfl rfl ?_
              refine en_goto rfl ?_
              refine en_sub [2, 3, 1, 0] rfl rfl ?_
              exact ih _ _ _ _ _ _ h o M' hk
            · refine en_icmp_eq_f c16 rfl ?_
              refine en_aload rfl rfl ?_
              refine en_aload rfl rfl ?_
              refine ec_getI (ci := 10) (j := 60) ⟨rfl, rfl, rfl⟩ g2 rfl ?_
              refine en_iload rfl rfl ?_
              refine en_iload rfl rfl ?_
              obtain ⟨⟨q17, C18⟩, e19, h⟩ := gb h
              dsimp only at h
              refine ec_callV1 (k' := 200) (n := 4) (rc := 10) (a := p0) (as := [.int (cI C13 p0 60), .int p3, .int p2]) ⟨rfl, rfl⟩ rfl rfl (Nat.le_of_ble_eq_true rfl) (Nat.le_of_ble_eq_true rfl) (Nat.le_of_ble_eq_true rfl) g2 rfl (t_200 e19) ?_
              rcases gi h with ⟨c20, h⟩ | ⟨c20, h⟩
              · refine en_if_eq_t c20 rfl ?_
                refine ec_iinc (l' := [(3, .int (p3 + (1 : Int32))), (0, .ref p0), (1, .int p1), (2, .int p2)]) rfl cst_1 rfl rfl ?_
                refine en_goto rfl ?_
                refine en_sub [1, 2, 3, 0] rfl rfl ?_
                exact ih _ _ _ _ _ _ h o M' hk
              · refine en_if_eq_f c20 rfl ?_
                refine en_iload rfl rfl ?_
                refine en_istore (l' := [(2, .int p3), (0, .ref p0), (1, .int p1), (3, .int p3)]) rfl rfl ?_
                refine ec_iinc (l' := [(3, .int (p3 + (1 : Int32))), (2, .int p3), (0, .ref p0), (1, .int p1)]) rfl cst_1 rfl rfl ?_
                refine en_goto rfl ?_
                refine en_sub [2, 3, 1, 0] rfl rfl ?_
                exact ih _ _ _ _ _ _ h o M' hk
          · refine en_if_ne_f c15 rfl ?_
            refine en_goto rfl ?_
            refine ec_iinc (l' := [(3, .int (p3 + (1 : Int32))), (0, .ref p0), (1, .int p1), (2, .int p2)]) rfl cst_1 rfl rfl ?_
            refine en_goto rfl ?_
            refine en_sub [1, 2, 3, 0] rfl rfl ?_
            exact ih _ _ _ _ _ _ h o M' hk
/-- BulkWriterModel.reads(I)I -/
def f_205 (n : Nat) (a0 : Nat) (a1 : Int32) (C : AmC) : Option (Int32 × AmC) := (lp_205_4 n a0 a1 (-1 : Int32) (0 : Int32) C).bind (fun q => match q with | ((u24, u25), C23) => (if ¬ u25 = (-1 : Int32) then if isK u24 10 = true then (f_196 n u24 (cI (uI C23 u24 61 (1 : Int32)) u24 60) u25 (uI C23 u24 61 (1 : Int32))).bind (fun z => match z with | (q28, C29) => (f_197 n u24 (cI (uI C29 u24 62 q28) u24 60) u25 (uI C29 u24 62 q28)).bind (fun z => match z with | (q31, C32) => some (u25, uI (uI C32 u24 63 q31) u24 64 u25))) else none else some ((-1 : Int32), C23)))
set_option maxRecDepth 20000 in
set_option maxHeartbeats 4000000 in
theorem t_205 {n : Nat} {a0 : Nat} {a1 : Int32} {C : AmC} {r : Int32} {C' : AmC} (h : f_205 n a0 a1 C = some (r, C')) : En false 205 0 [(0, .ref a0), (1, .int a1)] [] (mkM C) (.inl (some (.int r))) (mkM C') := by
  unfold f_205 at h
  refine ec_iconst cst_m1 rfl ?_
  refine en_istore (l' := [(2, .int (-1 : Int32)), (0, .ref a0), (1, .int a1)]) rfl rfl ?_
  refine ec_iconst cst_0 rfl ?_
  refine en_istore (l' := [(3, .int (0 : Int32)), (2, .int (-1 : Int32)), (0, .ref a0), (1, .int a1)]) rfl rfl ?_
  obtain ⟨⟨q21, C23⟩, e22, h⟩ := gb h
  refine en_sub [2, 3, 1, 0] rfl rfl (lt_205_4 n _ _ _ _ _ _ e22 _ _ ?_)
  obtain ⟨u24, u25⟩ := q21
  dsimp only at h ⊢
  refine en_iload rfl rfl ?_
  refine ec_iconst cst_m1 rfl ?_
  rcases gi h with ⟨c26, h⟩ | ⟨c26, h⟩
  · refine en_icmp_ne_t c26 rfl ?_
    refine en_aload rfl rfl ?_
    refine ec_iconst cst_1 rfl ?_
    obtain ⟨g27, h⟩ := gd h
    refine ec_putZ (ci := 10) (j := 61) ⟨rfl, rfl, rfl⟩ g27 (Or.inr rfl) rfl ?_
    refine en_aload rfl rfl ?_
    refine en_aload rfl rfl ?_
    refine en_aload rfl rfl ?_
    refine ec_getI (ci := 10) (j := 60) ⟨rfl, rfl, rfl⟩ g27 rfl ?_
    refine en_iload rfl rfl ?_
    obtain ⟨⟨q28, C29⟩, e30, h⟩ := gb h
    dsimp only at h
    refine ec_callV1 (k' := 196) (n := 3) (rc := 10) (a := u24) (as := [.int (cI (uI C23 u24 61 (1 : Int32)) u24 60), .int u25]) ⟨rfl, rfl⟩ rfl rfl (Nat.le_of_ble_eq_true rfl) (Nat.le_of_ble_eq_true rfl) (Nat.le_of_ble_eq_true rfl) g27 rfl (t_196 e30) ?_
    refine ec_putI (ci := 10) (j := 62) ⟨rfl, rfl, rfl⟩ g27 rfl ?_
    refine en_aload rfl rfl ?_
    refine en_aload rfl rfl ?_
    refine en_aload rfl rfl ?_
    refine ec_getI (ci := 10) (j := 60) ⟨rfl, rfl, rfl⟩ g27 rfl ?_
    refine en_iload rfl rfl ?_
    obtain ⟨⟨q31, C32⟩, e33, h⟩ := gb h
    dsimp only at h
    refine ec_callV1 (k' := 197) (n := 3) (rc := 10) (a := u24) (as := [.int (cI (uI C29 u24 62 q28) u24 60), .int u25]) ⟨rfl, rfl⟩ rfl rfl (Nat.le_of_ble_eq_true rfl) (Nat.le_of_ble_eq_true rfl) (Nat.le_of_ble_eq_true rfl) g27 rfl (t_197 e33) ?_
    refine ec_putI (ci := 10) (j := 63) ⟨rfl, rfl, rfl⟩ g27 rfl ?_
    refine en_aload rfl rfl ?_
    refine en_iload rfl rfl ?_
    refine ec_putI (ci := 10) (j := 64) ⟨rfl, rfl, rfl⟩ g27 rfl ?_
    refine en_iload rfl rfl ?_
    cases h
    exact en_iret rfl
  · refine en_icmp_ne_f c26 rfl ?_
    refine ec_iconst cst_m1 rfl ?_
    cases h
    exact en_iret rfl
def lp_207_6 : Nat → Nat → Int32 → Int32 → Int32 → Int32 → Int32 → AmC → Option (((Int32 × Int32 × Int32)) × AmC)
  | 0, _, _, _, _, _, _, _ => none
  | n + 1, p0, p1, p2, p3, p4, p5, C => (if (30 : Int32) ≤ p5 then some ((p1, p3, p4), C) else if isK p0 10 = true then (cP C p0 57).bind (fun r3 => if isK r3 12 = true then if amIn p5 (aLen r3) = true then (if ¬ (cI C r3 (Int32.toNatClampNeg p5)) = 0 then (f_193 n p0 p5 p2 C).bind (fun z => match z with | (q8, C9) => (if ¬ p1 = (3 : Int32) then (if ¬ p1 = (4 : Int32) then (if p3 = 0 then lp_207_6 n p0 p1 p2 (p3 + (1 : Int32)) q8 (p5 + (1 : Int32)) C9 else (if q8 ≤ p4 then lp_207_6 n p0 p1 p2 (p3 + (1 : Int32)) p4 (p5 + (1 : Int32)) C9 else lp_207_6 n p0 p1 p2 (p3 + (1 : Int32)) q8 (p5 + (1 : Int32)) C9)) else (if p3 = 0 then lp_207_6 n p0 p1 p2 (p3 + (1 : Int32)) q8 (p5 + (1 : Int32)) C9 else (if p4 ≤ q8 then lp_207_6 n p0 p1 p2 (p3 + (1 : Int32)) p4 (p5 + (1 : Int32)) C9 else lp_207_6 n p0 p1 p2 (p3 + (1 : Int32)) q8 (p5 + (1 : Int32)) C9))) else lp_207_6 n p0 p1 p2 (p3 + (1 : Int32)) (p4 + q8) (p5 + (1 : Int32)) C9)) else lp_207_6 n p0 p1 p2 p3 p4 (p5 + (1 : Int32)) C) else none else none) else none)
set_option maxRecDepth 20000 in
set_option maxHeartbeats 4000000 in
theorem lt_207_6 : ∀ (n : Nat) (p0 : Nat) (p1 : Int32) (p2 : Int32) (p3 : Int32) (p4 : Int32) (p5 : Int32) (C : AmC) (r : ((Int32 × Int32 × Int32)) × AmC), lp_207_6 n p0 p1 p2 p3 p4 p5 C = some r → ∀ (o : AmO) (M' : AmM), (match r with
        | ((w1, w3, w4), C') => En false 207 51 [(1, .int w1), (3, .int w3), (4, .int w4)] [] (mkM C') o M') → En false 207 6 [(0, .ref p0), (1, .int p1), (2, .int p2), (3, .int p3), (4, .int p4), (5, .int p5)] [] (mkM C) o M' := by
  intro n
  induction n with
  | zero => intro p0 p1 p2 p3 p4 p5 C r h; cases h
  | succ n ih =>
    intro p0 p1 p2 p3 p4 p5 C r h o M' hk
    unfold lp_207_6 at h
    refine en_iload rfl rfl ?_
    refine ec_iconst cst_30 rfl ?_
    rcases gi h with ⟨c1, h⟩ | ⟨c1, h⟩
    · refine en_icmp_ge_t c1 rfl ?_
      cases h
      exact en_sub [1, 3, 4] rfl rfl hk
    · refine en_icmp_ge_f c1 rfl ?_
      refine en_aload rfl rfl ?_
      obtain ⟨g2, h⟩ := gd h
      obtain ⟨r3, e4, h⟩ := gb h
      refine ec_getP (ci := 10) (j := 57) ⟨rfl, rfl, rfl⟩ g2 e4 rfl ?_
      refine en_iload rfl rfl ?_
      obtain ⟨g5, h⟩ := gd h
      obtain ⟨g6, h⟩ := gd h
      refine ec_iaload g5 g6 rfl ?_
      rcases gi h with ⟨c7, h⟩ | ⟨c7, h⟩
      · refine en_if_ne_t c7 rfl ?_
        refine en_aload rfl rfl ?_
        refine en_iload rfl rfl ?_
        refine en_iload rfl rfl ?_
        obtain ⟨⟨q8, C9⟩, e10, h⟩ := gb h
        dsimp only at h
        refine ec_callV1 (k' := 193) (n := 3) (rc := 10) (a := p0) (as := [.int p5, .int p2]) ⟨rfl, rfl⟩ rfl rfl (Nat.le_of_ble_eq_true rfl) (Nat.le_of_ble_eq_true rfl) (Nat.le_of_ble_eq_true rfl) g2 rfl (t_193 e10) ?_
        refine en_istore (l' := [(6, .int q8), (0, .ref p0), (1, .int p1), (2, .int p2), (3, .int p3), (4, .int p4), (5, .int p5)]) rfl rfl ?_
        refine en_iload rfl rfl ?_
        refine ec_iconst cst_3 rfl ?_
        rcases gi h with ⟨c11, h⟩ | ⟨c11, h⟩
        · refine en_icmp_ne_t c11 rfl ?_
          refine en_iload rfl rfl ?_
          refine ec_iconst cst_4 rfl ?_
          rcases gi h with ⟨c12, h⟩ | ⟨c12, h⟩
          · refine en_icmp_ne_t c12 rfl ?_
            refine en_iload rfl rfl ?_
            rcases gi h with ⟨c13, h⟩ | ⟨c13, h⟩
            · refine en_if_eq_t c13 rfl ?_
              refine en_iload rfl rfl ?_
              refine en_goto rfl ?_
              refine en_istore (l' := [(4, .int q8), (6, .int q8), (0, .ref p0), (1, .int p1), (2, .int p2), (3, .int p3), (5, .int p5)]) rfl rfl ?_
              refine ec_iinc (l' := [(3, .int (p3 + (1 : Int32))), (4, .int q8), (6, .int q8), (0, .ref p0), (1, .int p1), (2, .int p2), (5, .int p5)]) rfl cst_1 rfl rfl ?_
              refine ec_iinc (l' := [(5, .int (p5 + (1 : Int32))), (3, .int (p3 + (1 : Int32))), (4, .int q8), (6, .int q8), (0, .ref p0), (1, .int p1), (2, .int p2)]) rfl cst_1 rfl rfl ?_
              refine en_goto rfl ?_
              refine en_sub [4, 5, 6, 1, 2, 0] rfl rfl ?_
              exact ih _ _ _ _ _ _ _ _ h o M' hk
            · refine en_if_eq_f c13 rfl ?_
              refine en_iload rfl rfl ?_
              refine en_iload rfl rfl ?_
              rcases gi h with ⟨c14, h⟩ | ⟨c14, h⟩
              · refine en_icmp_le_t c14 rfl ?_
                refine en_iload rfl rfl ?_
                refine en_istore (l' := [(4, .int p4), (6, .int q8), (0, .ref p0), (1, .int p1), (2, .int p2), (3, .int p3), (5, .int p5)]) rfl rfl ?_
                refine ec_iinc (l' := [(3, .int (p3 + (1 : Int32))), (4, .int p4), (6, .int q8), (0, .ref p0), (1, .int p1), (2, .int p2), (5, .int p5)]) rfl cst_1 rfl rfl ?_
                refine ec_iinc (l' := [(5, .int (p5 + (1 : Int32))), (3, .int (p3 + (1 : Int32))), (4, .int p4), (6, .int q8), (0, .ref p0), (1, .int p1), (2, .int p2)]) rfl cst_1 rfl rfl ?_
                refine en_goto rfl ?_
                refine en_sub [4, 5, 6, 1, 2, 0] rfl rfl ?_
                exact ih _ _ _ _ _ _ _ _ h o M' hk
              · refine en_icmp_le_f c14 rfl ?_
                refine en_iload rfl rfl ?_
                refine en_goto rfl ?_
                refine en_istore (l' := [(4, .int q8), (6, .int q8), (0, .ref p0), (1, .int p1), (2, .int p2), (3, .int p3), (5, .int p5)]) rfl rfl ?_
                refine ec_iinc (l' := [(3, .int (p3 + (1 : Int32))), (4, .int q8), (6, .int q8), (0, .ref p0), (1, .int p1), (2, .int p2), (5, .int p5)]) rfl cst_1 rfl rfl ?_
                refine ec_iinc (l' := [(5, .int (p5 + (1 : Int32))), (3, .int (p3 + (1 : Int32))), (4, .int q8), (6, .int q8), (0, .ref p0), (1, .int p1), (2, .int p2)]) rfl cst_1 rfl rfl ?_
                refine en_goto rfl ?_
                refine en_sub [4, 5, 6, 1, 2, 0] rfl rfl ?_
                exact ih _ _ _ _ _ _ _ _ h o M' hk
          · refine en_icmp_ne_f c12 rfl ?_
            refine en_iload rfl rfl ?_
            rcases gi h with ⟨c15, h⟩ | ⟨c15, h⟩
            · refine en_if_eq_t c15 rfl ?_
              refine en_iload rfl rfl ?_
              refine en_goto rfl ?_
              refine en_istore (l' := [(4, .int q8), (6, .int q8), (0, .ref p0), (1, .int p1), (2, .int p2), (3, .int p3), (5, .int p5)]) rfl rfl ?_
              refine ec_iinc (l' := [(3, .int (p3 + (1 : Int32))), (4, .int q8), (6, .int q8), (0, .ref p0), (1, .int p1), (2, .int p2), (5, .int p5)]) rfl cst_1 rfl rfl ?_
              refine ec_iinc (l' := [(5, .int (p5 + (1 : Int32))), (3, .int (p3 + (1 : Int32))), (4, .int q8), (6, .int q8), (0, .ref p0), (1, .int p1), (2, .int p2)]) rfl cst_1 rfl rfl ?_
              refine en_goto rfl ?_
              refine en_sub [4, 5, 6, 1, 2, 0] rfl rfl ?_
              exact ih _ _ _ _ _ _ _ _ h o M' hk
            · refine en_if_eq_f c15 rfl ?_
              refine en_iload rfl rfl ?_
              refine en_iload rfl rfl ?_
              rcases gi h with ⟨c16, h⟩ | ⟨c16, h⟩
              · refine en_icmp_ge_t c16 rfl ?_
                refine en_iload rfl rfl ?_
                refine en_goto rfl ?_
                refine en_istore (l' := [(4, .int p4), (6, .int q8), (0, .ref p0), (1, .int p1), (2, .int p2), (3, .int p3), (5, .int p5)]) rfl rfl ?_
                refine ec_iinc (l' := [(3, .int (p3 + (1 : Int32))), (4, .int p4), (6, .int q8), (0, .ref p0), (1, .int p1), (2, .int p2), (5, .int p5)]) rfl cst_1 rfl rfl ?_
                refine ec_iinc (l' := [(5, .int (p5 + (1 : Int32))), (3, .int (p3 + (1 : Int32))), (4, .int p4), (6, .int q8), (0, .ref p0), (1, .int p1), (2, .int p2)]) rfl cst_1 rfl rfl ?_
                refine en_goto rfl ?_
                refine en_sub [4, 5, 6, 1, 2, 0] rfl rfl ?_
                exact ih _ _ _ _ _ _ _ _ h o M' hk
              · refine en_icmp_ge_f c16 rfl ?_
                refine en_iload rfl rfl ?_
                refine en_goto rfl ?_
                refine en_istore (l' := [(4, .int q8), (6, .int q8), (0, .ref p0), (1, .int p1), (2, .int p2), (3, .int p3), (5, .int p5)]) rfl rfl ?_
                refine ec_iinc (l' := [(3, .int (p3 + (1 : Int32))), (4, .int q8), (6, .int q8), (0, .ref p0), (1, .int p1), (2, .int p2), (5, .int p5)]) rfl cst_1 rfl rfl ?_
                refine ec_iinc (l' := [(5, .int (p5 + (1 : Int32))), (3, .int (p3 + (1 : Int32))), (4, .int q8), (6, .int q8), (0, .ref p0), (1, .int p1), (2, .int p2)]) rfl cst_1 rfl rfl ?_
                refine en_goto rfl ?_
                refine en_sub [4, 5, 6, 1, 2, 0] rfl rfl ?_
                exact ih _ _ _ _ _ _ _ _ h o M' hk
        · refine en_icmp_ne_f c11 rfl ?_
          refine en_iload rfl rfl ?_
          refine en_iload rfl rfl ?_
          refine en_iadd rfl ?_
          refine en_goto rfl ?_
          refine en_istore (l' := [(4, .int (p4 + q8)), (6, .int q8), (0, .ref p0), (1, .int p1), (2, .int p2), (3, .int p3), (5, .int p5)]) rfl rfl ?_
          refine ec_iinc (l' := [(3, .int (p3 + (1 : Int32))), (4, .int (p4 + q8)), (6, .int q8), (0, .ref p0), (1, .int p1), (2, .int p2), (5, .int p5)]) rfl cst_1 rfl rfl ?_
          refine ec_iinc (l' := [(5, .int (p5 + (1 : Int32))), (3, .int (p3 + (1 : Int32))), (4, .int (p4 + q8)), (6, .int q8), (0, .ref p0), (1, .int p1), (2, .int p2)]) rfl cst_1 rfl rfl ?_
          refine en_goto rfl ?_
          refine en_sub [4, 5, 6, 1, 2, 0] rfl rfl ?_
          exact ih _ _ _ _ _ _ _ _ h o M' hk
      · refine en_if_ne_f c7 rfl ?_
        refine en_goto rfl ?_
        refine ec_iinc (l' := [(5, .int (p5 + (1 : Int32))), (0, .ref p0), (1, .int p1), (2, .int p2), (3, .int p3), (4, .int p4)]) rfl cst_1 rfl rfl ?_
        refine en_goto rfl ?_
        refine en_sub [1, 2, 3, 4, 5, 0] rfl rfl ?_
        exact ih _ _ _ _ _ _ _ _ h o M' hk
/-- BulkWriterModel.overAll(II)I -/
def f_207 (n : Nat) (a0 : Nat) (a1 : Int32) (a2 : Int32) (C : AmC) : Option (Int32 × AmC) := (lp_207_6 n a0 a1 a2 (0 : Int32) (0 : Int32) (0 : Int32) C).bind (fun q => match q with | ((u20, u21, u22), C19) => (if ¬ u20 = (6 : Int32) then some (u22, C19) else some (u21, C19)))
set_option maxRecDepth 20000 in
set_option maxHeartbeats 4000000 in
theorem t_207 {n : Nat} {a0 : Nat} {a1 : Int32} {a2 : Int32} {C : AmC} {r : Int32} {C' : AmC} (h : f_207 n a0 a1 a2 C = some (r, C')) : En false 207 0 [(0, .ref a0), (1, .int a1), (2, .int a2)] [] (mkM C) (.inl (some (.int r))) (mkM C') := by
  unfold f_207 at h
  refine ec_iconst cst_0 rfl ?_
  refine en_istore (l' := [(3, .int (0 : Int32)), (0, .ref a0), (1, .int a1), (2, .int a2)]) rfl rfl ?_
  refine ec_iconst cst_0 rfl ?_
  refine en_istore (l' := [(4, .int (0 : Int32)), (3, .int (0 : Int32)), (0, .ref a0), (1, .int a1), (2, .int a2)]) rfl rfl ?_
  refine ec_iconst cst_0 rfl ?_
  refine en_istore (l' := [(5, .int (0 : Int32)), (4, .int (0 : Int32)), (3, .int (0 : Int32)), (0, .ref a0), (1, .int a1), (2, .int a2)]) rfl rfl ?_
  obtain ⟨⟨q17, C19⟩, e18, h⟩ := gb h
  refine en_sub [3, 4, 5, 2, 1, 0] rfl rfl (lt_207_6 n _ _ _ _ _ _ _ _ e18 _ _ ?_)
  obtain ⟨u20, u21, u22⟩ := q17
  dsimp only at h ⊢
  refine en_iload rfl rfl ?_
  refine ec_iconst cst_6 rfl ?_
  rcases gi h with ⟨c23, h⟩ | ⟨c23, h⟩
  · refine en_icmp_ne_t c23 rfl ?_
    refine en_iload rfl rfl ?_
    cases h
    exact en_iret rfl
  · refine en_icmp_ne_f c23 rfl ?_
    refine en_iload rfl rfl ?_
    refine en_goto rfl ?_
    cases h
    exact en_iret rfl
/-- BulkWriterModel.atomAt(III)I -/
def f_208 (n : Nat) (a0 : Nat) (a1 : Int32) (a2 : Int32) (a3 : Int32) (C : AmC) : Option (Int32 × AmC) := if isK a0 10 = true then (cP C a0 14).bind (fun r2 => if isK r2 12 = true then if amIn a1 (aLen r2) = true then (if (cI C r2 (Int32.toNatClampNeg a1)) = (0 : Int32) then (cP C a0 15).bind (fun r9 => if isK r9 12 = true then if amIn a1 (aLen r9) = true then some ((cI C r9 (Int32.toNatClampNeg a1)), C) else none else none) else if (cI C r2 (Int32.toNatClampNeg a1)) = (1 : Int32) then (cP C a0 15).bind (fun r13 => if isK r13 12 = true then if amIn a1 (aLen r13) = true then (f_193 n a0 a2 (cI C r13 (Int32.toNatClampNeg a1)) C).bind (fun z => match z with | (q17, C18) => some (q17, C18)) else none else none) else if (cI C r2 (Int32.toNatClampNeg a1)) = (2 : Int32) then (cP C a0 15).bind (fun r20 => if isK r20 12 = true then if amIn a1 (aLen r20) = true then (f_206 n a0 a3 (cI C r20 (Int32.toNatClampNeg a1)) C).bind (fun z => match z with | (q24, C25) => some (q24, C25)) else none else none) else (cP C a0 14).bind (fun r27 => if isK r27 12 = true then if amIn a1 (aLen r27) = true then (cP C a0 15).bind (fun r31 => if isK r31 12 = true then if amIn a1 (aLen r31) = true then (f_207 n a0 (cI C r27 (Int32.toNatClampNeg a1)) (cI C r31 (Int32.toNatClampNeg a1)) C).bind (fun z => match z with | (q35, C36) => some (q35, C36)) else none else none) else none else none)) else none else none) else none
set_option maxRecDepth 20000 in
set_option maxHeartbeats 4000000 in
theorem t_208 {n : Nat} {a0 : Nat} {a1 : Int32} {a2 : Int32} {a3 : Int32} {C : AmC} {r : Int32} {C' : AmC} (h : f_208 n a0 a1 a2 a3 C = some (r, C')) : En false 208 0 [(0, .ref a0), (1, .int a1), (2, .int a2), (3, .int a3)] [] (mkM C) (.inl (some (.int r))) (mkM C') := by
  unfold f_208 at h
  refine en_aload rfl rfl ?_
  obtain ⟨g1, h⟩ := gd h
  obtain ⟨r2, e3, h⟩ := gb h
  refine ec_getP (ci := 10) (j := 14) ⟨rfl, rfl, rfl⟩ g1 e3 rfl ?_
  refine en_iload rfl rfl ?_
  obtain ⟨g4, h⟩ := gd h
  obtain ⟨g5, h⟩ := gd h
  refine ec_iaload g4 g5 rfl ?_
  rcases gi h with ⟨c6, h⟩ | ⟨c6, h⟩
  · refine en_tab_i (t := 5) (by rw [c6]; decide) (by rw [c6]; rfl) rfl ?_
    refine en_aload rfl rfl ?_
    obtain ⟨r9, e10, h⟩ := gb h
    refine ec_getP (ci := 10) (j := 15) ⟨rfl, rfl, rfl⟩ g1 e10 rfl ?_
    refine en_iload rfl rfl ?_
    obtain ⟨g11, h⟩ := gd h
    obtain ⟨g12, h⟩ := gd h
    refine ec_iaload g11 g12 rfl ?_
    cases h
    exact en_iret rfl
  ·
    rcases gi h with ⟨c7, h⟩ | ⟨c7, h⟩
    · refine en_tab_i (t := 10) (by rw [c7]; decide) (by rw [c7]; rfl) rfl ?_
      refine en_aload rfl rfl ?_
      refine en_iload rfl rfl ?_
      refine en_aload rfl rfl ?_
      obtain ⟨r13, e14, h⟩ := gb h
      refine ec_getP (ci := 10) (j := 15) ⟨rfl, rfl, rfl⟩ g1 e14 rfl ?_
      refine en_iload rfl rfl ?_
      obtain ⟨g15, h⟩ := gd h
      obtain ⟨g16, h⟩ := gd h
      refine ec_iaload g15 g16 rfl ?_
      obtain ⟨⟨q17, C18⟩, e19, h⟩ := gb h
      dsimp only at h
      refine ec_callV1 (k' := 193) (n := 3) (rc := 10) (a := a0) (as := [.int a2, .int (cI C r13 (Int32.toNatClampNeg a1))]) ⟨rfl, rfl⟩ rfl rfl (Nat.le_of_ble_eq_true rfl) (Nat.le_of_ble_eq_true rfl) (Nat.le_of_ble_eq_true rfl) g1 rfl (t_193 e19) ?_
      cases h
      exact en_iret rfl
    ·
      rcases gi h with ⟨c8, h⟩ | ⟨c8, h⟩
      · refine en_tab_i (t := 18) (by rw [c8]; decide) (by rw [c8]; rfl) rfl ?_
        refine en_aload rfl rfl ?_
        refine en_iload rfl rfl ?_
        refine en_aload rfl rfl ?_
        obtain ⟨r20, e21, h⟩ := gb h
        refine ec_getP (ci := 10) (j := 15) ⟨rfl, rfl, rfl⟩ g1 e21 rfl ?_
        refine en_iload rfl rfl ?_
        obtain ⟨g22, h⟩ := gd h
        obtain ⟨g23, h⟩ := gd h
        refine ec_iaload g22 g23 rfl ?_
        obtain ⟨⟨q24, C25⟩, e26, h⟩ := gb h
        dsimp only at h
        refine ec_callV1 (k' := 206) (n := 3) (rc := 10) (a := a0) (as := [.int a3, .int (cI C r20 (Int32.toNatClampNeg a1))]) ⟨rfl, rfl⟩ rfl rfl (Nat.le_of_ble_eq_true rfl) (Nat.le_of_ble_eq_true rfl) (Nat.le_of_ble_eq_true rfl) g1 rfl (t_206 e26) ?_
        cases h
        exact en_iret rfl
      ·
        refine en_tab_o (by have z0 := ne_toInt c6 (v := 0) (by decide); have z1 := ne_toInt c7 (v := 1) (by decide); have z2 := ne_toInt c8 (v := 2) (by decide); omega) rfl ?_
        refine en_aload rfl rfl ?_
        refine en_aload rfl rfl ?_
        obtain ⟨r27, e28, h⟩ := gb h
        refine ec_getP (ci := 10) (j := 14) ⟨rfl, rfl, rfl⟩ g1 e28 rfl ?_
        refine en_iload rfl rfl ?_
        obtain ⟨g29, h⟩ := gd h
        obtain ⟨g30, h⟩ := gd h
        refine ec_iaload g29 g30 rfl ?_
        refine en_aload rfl rfl ?_
        obtain ⟨r31, e32, h⟩ := gb h
        refine ec_getP (ci := 10) (j := 15) ⟨rfl, rfl, rfl⟩ g1 e32 rfl ?_
        refine en_iload rfl rfl ?_
        obtain ⟨g33, h⟩ := gd h
        obtain ⟨g34, h⟩ := gd h
        refine ec_iaload g33 g34 rfl ?_
        obtain ⟨⟨q35, C36⟩, e37, h⟩ := gb h
        dsimp only at h
        refine ec_callV1 (k' := 207) (n := 3) (rc := 10) (a := a0) (as := [.int (cI C r27 (Int32.toNatClampNeg a1)), .int (cI C r31 (Int32.toNatClampNeg a1))]) ⟨rfl, rfl⟩ rfl rfl (Nat.le_of_ble_eq_true rfl) (Nat.le_of_ble_eq_true rfl) (Nat.le_of_ble_eq_true rfl) g1 rfl (t_207 e37) ?_
        cases h
        exact en_iret rfl
def lp_209_7 : Nat → Nat → Int32 → Int32 → Int32 → Int32 → Int32 → AmC → Option (((Int32)) × AmC)
  | 0, _, _, _, _, _, _, _ => none
  | n + 1, p0, p1, p2, p3, p4, p5, C => if isK p0 10 = true then (cP C p0 16).bind (fun r7 => if isK r7 12 = true then if amIn p1 (aLen r7) = true then (cP C p0 17).bind (fun r11 => if isK r11 12 = true then if amIn p1 (aLen r11) = true then (if ((cI C r7 (Int32.toNatClampNeg p1)) + (cI C r11 (Int32.toNatClampNeg p1))) ≤ p5 then some (p4, C) else (f_208 n p0 p5 p2 p3 C).bind (fun z => match z with | (q16, C17) => (cP C17 p0 13).bind (fun r19 => if isK r19 12 = true then if amIn p5 (aLen r19) = true then (if ¬ (cI C17 r19 (Int32.toNatClampNeg p5)) = (43 : Int32) then (cP C17 p0 13).bind (fun r24 => if isK r24 12 = true then if amIn p5 (aLen r24) = true then (if ¬ (cI C17 r24 (Int32.toNatClampNeg p5)) = (45 : Int32) then lp_209_7 n p0 p1 p2 p3 (p4 * q16) (p5 + (1 : Int32)) C17 else lp_209_7 n p0 p1 p2 p3 (p4 - q16) (p5 + (1 : Int32)) C17) else none else none) else lp_209_7 n p0 p1 p2 p3 (p4 + q16) (p5 + (1 : Int32)) C17) else none else none))) else none else none) else none else none) else none
set_option maxRecDepth 20000 in
set_option maxHeartbeats 4000000 in
theorem lt_209_7 : ∀ (n : Nat) (p0 : Nat) (p1 : Int32) (p2 : Int32) (p3 : Int32) (p4 : Int32) (p5 : Int32) (C : AmC) (r : ((Int32)) × AmC), lp_209_7 n p0 p1 p2 p3 p4 p5 C = some r → ∀ (o : AmO) (M' : AmM), (match r with
        | (w4, C') => En false 209 50 [(4, .int w4)] [] (mkM C') o M') → En false 209 7 [(0, .ref p0), (1, .int p1), (2, .int p2), (3, .int p3), (4, .int p4), (5, .int p5)] [] (mkM C) o M' := by
  intro n
  induction n with
  | zero => intro p0 p1 p2 p3 p4 p5 C r h; cases h
  | succ n ih =>
    intro p0 p1 p2 p3 p4 p5 C r h o M' hk
    unfold lp_209_7 at h
    refine en_iload rfl rfl ?_
    refine en_aload rfl rfl ?_
    obtain ⟨g6, h⟩ := gd h
    obtain ⟨r7, e8, h⟩ := gb h
    refine ec_getP (ci := 10) (j := 16) ⟨rfl, rfl, rfl⟩ g6 e8 rfl ?_
    refine en_iload rfl rfl ?_
    obtain ⟨g9, h⟩ := gd h
    obtain ⟨g10, h⟩ := gd h
    refine ec_iaload g9 g10 rfl ?_
    refine en_aload rfl rfl ?_
    obtain ⟨r11, e12, h⟩ := gb h
    refine ec_getP (ci := 10) (j := 17) ⟨rfl, rfl, rfl⟩ g6 e12 rfl ?_
    refine en_iload rfl rfl ?_
    obtain ⟨g13, h⟩ := gd h
    obtain ⟨g14, h⟩ := gd h
    refine ec_iaload g13 g14 rfl ?_
    refine en_iadd rfl ?_
    rcases gi h with ⟨c15, h⟩ | ⟨c15, h⟩
    · refine en_icmp_ge_t c15 rfl ?_
      cases h
      exact en_sub [4] rfl rfl hk
    · refine en_icmp_ge_f c15 rfl ?_
      refine en_aload rfl rfl ?_
      refine en_iload rfl rfl ?_
      refine en_iload rfl rfl ?_
      refine en_iload rfl rfl ?_
      obtain ⟨⟨q16, C17⟩, e18, h⟩ := gb h
      dsimp only at h
      refine ec_callV1 (k' := 208) (n := 4) (rc := 10) (a := p0) (as := [.int p5, .int p2, .int p3]) ⟨rfl, rfl⟩ rfl rfl (Nat.le_of_ble_eq_true rfl) (Nat.le_of_ble_eq_true rfl) (Nat.le_of_ble_eq_true rfl) g6 rfl (t_208 e18) ?_
      refine en_istore (l' := [(6, .int q16), (0, .ref p0), (1, .int p1), (2, .int p2), (3, .int p3), (4, .int p4), (5, .int p5)]) rfl rfl ?_
      refine en_aload rfl rfl ?_
      obtain ⟨r19, e20, h⟩ := gb h
      refine ec_getP (ci := 10) (j := 13) ⟨rfl, rfl, rfl⟩ g6 e20 rfl ?_
      refine en_iload rfl rfl ?_
      obtain ⟨g21, h⟩ := gd h
      obtain ⟨g22, h⟩ := gd h
      refine ec_iaload g21 g22 rfl ?_
      refine ec_iconst cst_43 rfl ?_
      rcases gi h with ⟨c23, h⟩ | ⟨c23, h⟩
      · refine en_icmp_ne_t c23 rfl ?_
        refine en_aload rfl rfl ?_
        obtain ⟨r24, e25, h⟩ := gb h
        refine ec_getP (ci := 10) (j := 13) ⟨rfl, rfl, rfl⟩ g6 e25 rfl ?_
        refine en_iload rfl rfl ?_
        obtain ⟨g26, h⟩ := gd h
        obtain ⟨g27, h⟩ := gd h
        refine ec_iaload g26 g27 rfl ?_
        refine ec_iconst cst_45 rfl ?_
        rcases gi h with ⟨c28, h⟩ | ⟨c28, h⟩
        · refine en_icmp_ne_t c28 rfl ?_
          refine en_iload rfl rfl ?_
          refine en_iload rfl rfl ?_
          refine en_imul rfl ?_
          refine en_istore (l' := [(4, .int (p4 * q16)), (6, .int q16), (0, .ref p0), (1, .int p1), (2, .int p2), (3, .int p3), (5, .int p5)]) rfl rfl ?_
          refine ec_iinc (l' := [(5, .int (p5 + (1 : Int32))), (4, .int (p4 * q16)), (6, .int q16), (0, .ref p0), (1, .int p1), (2, .int p2), (3, .int p3)]) rfl cst_1 rfl rfl ?_
          refine en_goto rfl ?_
          refine en_sub [3, 4, 5, 6, 1, 0] rfl rfl ?_
          exact ih _ _ _ _ _ _ _ _ h o M' hk
        · refine en_icmp_ne_f c28 rfl ?_
          refine en_iload rfl rfl ?_
          refine en_iload rfl rfl ?_
          refine en_isub rfl ?_
          refine en_goto rfl ?_
          refine en_istore (l' := [(4, .int (p4 - q16)), (6, .int q16), (0, .ref p0), (1, .int p1), (2, .int p2), (3, .int p3), (5, .int p5)]) rfl rfl ?_
          refine ec_iinc (l' := [(5, .int (p5 + (1 : Int32))), (4, .int (p4 - q16)), (6, .int q16), (0, .ref p0), (1, .int p1), (2, .int p2), (3, .int p3)]) rfl cst_1 rfl rfl ?_
          refine en_goto rfl ?_
          refine en_sub [3, 4, 5, 6, 1, 0] rfl rfl ?_
          exact ih _ _ _ _ _ _ _ _ h o M' hk
      · refine en_icmp_ne_f c23 rfl ?_
        refine en_iload rfl rfl ?_
        refine en_iload rfl rfl ?_
        refine en_iadd rfl ?_
        refine en_goto rfl ?_
        refine en_istore (l' := [(4, .int (p4 + q16)), (6, .int q16), (0, .ref p0), (1, .int p1), (2, .int p2), (3, .int p3), (5, .int p5)]) rfl rfl ?_
        refine ec_iinc (l' := [(5, .int (p5 + (1 : Int32))), (4, .int (p4 + q16)), (6, .int q16), (0, .ref p0), (1, .int p1), (2, .int p2), (3, .int p3)]) rfl cst_1 rfl rfl ?_
        refine en_goto rfl ?_
        refine en_sub [3, 4, 5, 6, 1, 0] rfl rfl ?_
        exact ih _ _ _ _ _ _ _ _ h o M' hk
/-- BulkWriterModel.valueAt(III)I -/
def f_209 (n : Nat) (a0 : Nat) (a1 : Int32) (a2 : Int32) (a3 : Int32) (C : AmC) : Option (Int32 × AmC) := if isK a0 10 = true then (cP C a0 16).bind (fun r2 => if isK r2 12 = true then if amIn a1 (aLen r2) = true then (lp_209_7 n a0 a1 a2 a3 (0 : Int32) (cI C r2 (Int32.toNatClampNeg a1)) C).bind (fun q => match q with | (u32, C31) => some (u32, C31)) else none else none) else none
set_option maxRecDepth 20000 in
set_option maxHeartbeats 4000000 in
theorem t_209 {n : Nat} {a0 : Nat} {a1 : Int32} {a2 : Int32} {a3 : Int32} {C : AmC} {r : Int32} {C' : AmC} (h : f_209 n a0 a1 a2 a3 C = some (r, C')) : En false 209 0 [(0, .ref a0), (1, .int a1), (2, .int a2), (3, .int a3)] [] (mkM C) (.inl (some (.int r))) (mkM C') := by
  unfold f_209 at h
  refine ec_iconst cst_0 rfl ?_
  refine en_istore (l' := [(4, .int (0 : Int32)), (0, .ref a0), (1, .int a1), (2, .int a2), (3, .int a3)]) rfl rfl ?_
  refine en_aload rfl rfl ?_
  obtain ⟨g1, h⟩ := gd h
  obtain ⟨r2, e3, h⟩ := gb h
  refine ec_getP (ci := 10) (j := 16) ⟨rfl, rfl, rfl⟩ g1 e3 rfl ?_
  refine en_iload rfl rfl ?_
  obtain ⟨g4, h⟩ := gd h
  obtain ⟨g5, h⟩ := gd h
  refine ec_iaload g4 g5 rfl ?_
  refine en_istore (l' := [(5, .int (cI C r2 (Int32.toNatClampNeg a1))), (4, .int (0 : Int32)), (0, .ref a0), (1, .int a1), (2, .int a2), (3, .int a3)]) rfl rfl ?_
  obtain ⟨⟨q29, C31⟩, e30, h⟩ := gb h
  refine en_sub [2, 3, 4, 5, 1, 0] rfl rfl (lt_209_7 n _ _ _ _ _ _ _ _ e30 _ _ ?_)
  revert h e30; revert q29; intro u32 e30 h
  dsimp only at h ⊢
  refine en_iload rfl rfl ?_
  cases h
  exact en_iret rfl
def lp_210_6 : Nat → Nat → Int32 → Int32 → AmC → Option (((Unit) ⊕ (Unit)) × AmC)
  | 0, _, _, _, _ => none
  | n + 1, p0, p1, p2, C => if isK p0 10 = true then (cP C p0 36).bind (fun r7 => if isK r7 12 = true then if amIn (cI C p0 59) (aLen r7) = true then (cP C p0 37).bind (fun r11 => if isK r11 12 = true then if amIn (cI C p0 59) (aLen r11) = true then (if ((cI C r7 (Int32.toNatClampNeg (cI C p0 59))) + (cI C r11 (Int32.toNatClampNeg (cI C p0 59)))) ≤ p2 then some ((.inr ()), C) else (cP C p0 18).bind (fun r16 => if isK r16 12 = true then if amIn p2 (aLen r16) = true then (f_209 n p0 (cI C r16 (Int32.toNatClampNeg p2)) p1 (0 : Int32) C).bind (fun z => match z with | (q20, C21) => (cP C21 p0 19).bind (fun r23 => if isK r23 12 = true then if amIn p2 (aLen r23) = true then (cP C21 p0 20).bind (fun r27 => if isK r27 12 = true then if amIn p2 (aLen r27) = true then (f_209 n p0 (cI C21 r27 (Int32.toNatClampNeg p2)) p1 (0 : Int32) C21).bind (fun z => match z with | (q31, C32) => (f_203 n q20 (cI C21 r23 (Int32.toNatClampNeg p2)) q31 C32).bind (fun z => match z with | (q34, C35) => (if ¬ q34 = 0 then lp_210_6 n p0 p1 (p2 + (1 : Int32)) C35 else some ((.inl ()), C35)))) else none else none) else none else none)) else none else none)) else none else none) else none else none) else none
set_option maxRecDepth 20000 in
set_option maxHeartbeats 4000000 in
theorem lt_210_6 : ∀ (n : Nat) (p0 : Nat) (p1 : Int32) (p2 : Int32) (C : AmC) (r : ((Unit) ⊕ (Unit)) × AmC), lp_210_6 n p0 p1 p2 C = some r → ∀ (o : AmO) (M' : AmM), (match r with
        | ((.inl _), C') => En false 210 41 [] [] (mkM C') o M'
        | ((.inr _), C') => En false 210 45 [] [] (mkM C') o M') → En false 210 6 [(0, .ref p0), (1, .int p1), (2, .int p2)] [] (mkM C) o M' := by
  intro n
  induction n with
  | zero => intro p0 p1 p2 C r h; cases h
  | succ n ih =>
    intro p0 p1 p2 C r h o M' hk
    unfold lp_210_6 at h
    refine en_iload rfl rfl ?_
    refine en_aload rfl rfl ?_
    obtain ⟨g6, h⟩ := gd h
    obtain ⟨r7, e8, h⟩ := gb h
    refine ec_getP (ci := 10) (j := 36) ⟨rfl, rfl, rfl⟩ g6 e8 rfl ?_
    refine en_aload rfl rfl ?_
    refine ec_getI (ci := 10) (j := 59) ⟨rfl, rfl, rfl⟩ g6 rfl ?_
    obtain ⟨g9, h⟩ := gd h
    obtain ⟨g10, h⟩ := gd h
    refine ec_iaload g9 g10 rfl ?_
    refine en_aload rfl rfl ?_
    obtain ⟨r11, e12, h⟩ := gb h
    refine ec_getP (ci := 10) (j := 37) ⟨rfl, rfl, rfl⟩ g6 e12 rfl ?_
    refine en_aload rfl rfl ?_
    refine ec_getI (ci := 10) (j := 59) ⟨rfl, rfl, rfl⟩ g6 rfl ?_
    obtain ⟨g13, h⟩ := gd h
    obtain ⟨g14, h⟩ := gd h
    refine ec_iaload g13 g14 rfl ?_
    refine en_iadd rfl ?_
    rcases gi h with ⟨c15, h⟩ | ⟨c15, h⟩
    · refine en_icmp_ge_t c15 rfl ?_
      cases h
      exact en_sub [] rfl rfl hk
    · refine en_icmp_ge_f c15 rfl ?_
      refine en_aload rfl rfl ?_
      refine en_aload rfl rfl ?_
      obtain ⟨r16, e17, h⟩ := gb h
      refine ec_getP (ci := 10) (j := 18) ⟨rfl, rfl, rfl⟩ g6 e17 rfl ?_
      refine en_iload rfl rfl ?_
      obtain ⟨g18, h⟩ := gd h
      obtain ⟨g19, h⟩ := gd h
      refine ec_iaload g18 g19 rfl ?_
      refine en_iload rfl rfl ?_
      refine ec_iconst cst_0 rfl ?_
      obtain ⟨⟨q20, C21⟩, e22, h⟩ := gb h
      dsimp only at h
      refine ec_callV1 (k' := 209) (n := 4) (rc := 10) (a := p0) (as := [.int (cI C r16 (Int32.toNatClampNeg p2)), .int p1, .int (0 : Int32)]) ⟨rfl, rfl⟩ rfl rfl (Nat.le_of_ble_eq_true rfl) (Nat.le_of_ble_eq_true rfl) (Nat.le_of_ble_eq_true rfl) g6 rfl (t_209 e22) ?_
      refine en_aload rfl rfl ?_
      obtain ⟨r23, e24, h⟩ := gb h
      refine ec_getP (ci := 10) (j := 19) ⟨rfl, rfl, rfl⟩ g6 e24 rfl ?_
      refine en_iload rfl rfl ?_
      obtain ⟨g25, h⟩ := gd h
      obtain ⟨g26, h⟩ := gd h
      refine ec_iaload g25 g26 rfl ?_
      refine en_aload rfl rfl ?_
      refine en_aload rfl rfl ?_
      obtain ⟨r27, e28, h⟩ := gb h
      refine ec_getP (ci := 10) (j := 20) ⟨rfl, rfl, rfl⟩ g6 e28 rfl ?_
      refine en_iload rfl rfl ?_
      obtain ⟨g29, h⟩ := gd h
      obtain ⟨g30, h⟩ := gd h
      refine ec_iaload g29 g30 rfl ?_
      refine en_iload rfl rfl ?_
      refine ec_iconst cst_0 rfl ?_
      obtain ⟨⟨q31, C32⟩, e33, h⟩ := gb h
      dsimp only at h
      refine ec_callV1 (k' := 209) (n := 4) (rc := 10) (a := p0) (as := [.int (cI C21 r27 (Int32.toNatClampNeg p2)), .int p1, .int (0 : Int32)]) ⟨rfl, rfl⟩ rfl rfl (Nat.le_of_ble_eq_true rfl) (Nat.le_of_ble_eq_true rfl) (Nat.le_of_ble_eq_true rfl) g6 rfl (t_209 e33) ?_
      obtain ⟨⟨q34, C35⟩, e36, h⟩ := gb h
      dsimp only at h
      refine ec_callS1 (k' := 203) (n := 3) (as := [.int q20, .int (cI C21 r23 (Int32.toNatClampNeg p2)), .int q31]) rfl rfl rfl (Nat.le_of_ble_eq_true rfl) (Nat.le_of_ble_eq_true rfl) (Nat.le_of_ble_eq_true rfl) rfl (t_203 e36) ?_
      rcases gi h with ⟨c37, h⟩ | ⟨c37, h⟩
      · refine en_if_ne_t c37 rfl ?_
        refine ec_iinc (l' := [(2, .int (p2 + (1 : Int32))), (0, .ref p0), (1, .int p1)]) rfl cst_1 rfl rfl ?_
        refine en_goto rfl ?_
        refine en_sub [1, 2, 0] rfl rfl ?_
        exact ih _ _ _ _ _ h o M' hk
      · refine en_if_ne_f c37 rfl ?_
        cases h
        exact en_sub [] rfl rfl hk
/-- BulkWriterModel.holds(I)Z -/
def f_210 (n : Nat) (a0 : Nat) (a1 : Int32) (C : AmC) : Option (Int32 × AmC) := if isK a0 10 = true then (cP C a0 36).bind (fun r2 => if isK r2 12 = true then if amIn (cI C a0 59) (aLen r2) = true then (lp_210_6 n a0 a1 (cI C r2 (Int32.toNatClampNeg (cI C a0 59))) C).bind (fun q => match q with | ((.inl _), C40) => some ((0 : Int32), C40) | ((.inr _), C40) => some ((1 : Int32), C40)) else none else none) else none
set_option maxRecDepth 20000 in
set_option maxHeartbeats 4000000 in
theorem t_210 {n : Nat} {a0 : Nat} {a1 : Int32} {C : AmC} {r : Int32} {C' : AmC} (h : f_210 n a0 a1 C = some (r, C')) : En false 210 0 [(0, .ref a0), (1, .int a1)] [] (mkM C) (.inl (some (.int r))) (mkM C') := by
  unfold f_210 at h
  refine en_aload rfl rfl ?_
  obtain ⟨g1, h⟩ := gd h
  obtain ⟨r2, e3, h⟩ := gb h
  refine ec_getP (ci := 10) (j := 36) ⟨rfl, rfl, rfl⟩ g1 e3 rfl ?_
  refine en_aload rfl rfl ?_
  refine ec_getI (ci := 10) (j := 59) ⟨rfl, rfl, rfl⟩ g1 rfl ?_
  obtain ⟨g4, h⟩ := gd h
  obtain ⟨g5, h⟩ := gd h
  refine ec_iaload g4 g5 rfl ?_
  refine en_istore (l' := [(2, .int (cI C r2 (Int32.toNatClampNeg (cI C a0 59)))), (0, .ref a0), (1, .int a1)]) rfl rfl ?_
  obtain ⟨⟨q38, C40⟩, e39, h⟩ := gb h
  refine en_sub [1, 2, 0] rfl rfl (lt_210_6 n _ _ _ _ _ e39 _ _ ?_)
  rcases q38 with ⟨⟩ | ⟨⟩
  · dsimp only at h ⊢
    refine ec_iconst cst_0 rfl ?_
    cases h
    exact en_zret (Or.inl rfl) rfl
  · dsimp only at h ⊢
    refine ec_iconst cst_1 rfl ?_
    cases h
    exact en_zret (Or.inr rfl) rfl
def lp_211_8 : Nat → Nat → Int32 → Int32 → Int32 → Int32 → Int32 → AmC → Option (((Unit)) × AmC)
  | 0, _, _, _, _, _, _, _ => none
  | n + 1, p0, p1, p2, p3, p4, p5, C => if isK p0 10 = true then (cP C p0 21).bind (fun r3 => if isK r3 12 = true then if amIn (cI C p0 40) (aLen r3) = true then (if (cI C r3 (Int32.toNatClampNeg (cI C p0 40))) ≤ p5 then some ((), C) else (if p3 = 0 then (cP C p0 38).bind (fun r9 => if isK r9 12 = true then if amIn (((4 : Int32) * p4) + p5) (aLen r9) = true then (if ¬ (cI C r9 (Int32.toNatClampNeg (((4 : Int32) * p4) + p5))) = (-1 : Int32) then (cP C p0 75).bind (fun r14 => (f_209 n p0 (cI C r9 (Int32.toNatClampNeg (((4 : Int32) * p4) + p5))) p1 p2 C).bind (fun z => match z with | (q16, C17) => if isK r14 12 = true then if amIn p5 (aLen r14) = true then (cP (uI (uI C17 r14 (Int32.toNatClampNeg p5) q16) p0 76 ((cI (uI C17 r14 (Int32.toNatClampNeg p5) q16) p0 76) ||| ((1 : Int32) <<< (p5 &&& 31)))) p0 75).bind (fun r21 => if isK r21 12 = true then if amIn p5 (aLen r21) = true then (f_163 n (cI (uI (uI C17 r14 (Int32.toNatClampNeg p5) q16) p0 76 ((cI (uI C17 r14 (Int32.toNatClampNeg p5) q16) p0 76) ||| ((1 : Int32) <<< (p5 &&& 31)))) r21 (Int32.toNatClampNeg p5)) (-9999 : Int32) (9999 : Int32) (uI (uI C17 r14 (Int32.toNatClampNeg p5) q16) p0 76 ((cI (uI C17 r14 (Int32.toNatClampNeg p5) q16) p0 76) ||| ((1 : Int32) <<< (p5 &&& 31))))).bind (fun z => match z with | (q25, C26) => (if ¬ q25 = 0 then lp_211_8 n p0 p1 p2 p3 p4 (p5 + (1 : Int32)) C26 else (if (cI C26 p0 66) = 0 then lp_211_8 n p0 p1 p2 p3 p4 (p5 + (1 : Int32)) (uI (uI (uI C26 p0 66 (2 : Int32)) p0 67 p1) p0 68 p5) else lp_211_8 n p0 p1 p2 p3 p4 (p5 + (1 : Int32)) C26))) else none else none) else none else none)) else lp_211_8 n p0 p1 p2 p3 p4 (p5 + (1 : Int32)) C) else none else none) else (cP C p0 39).bind (fun r30 => if isK r30 12 = true then if amIn (((4 : Int32) * p4) + p5) (aLen r30) = true then (if ¬ (cI C r30 (Int32.toNatClampNeg (((4 : Int32) * p4) + p5))) = (-1 : Int32) then (cP C p0 75).bind (fun r35 => (f_209 n p0 (cI C r30 (Int32.toNatClampNeg (((4 : Int32) * p4) + p5))) p1 p2 C).bind (fun z => match z with | (q37, C38) => if isK r35 12 = true then if amIn p5 (aLen r35) = true then (cP (uI (uI C38 r35 (Int32.toNatClampNeg p5) q37) p0 76 ((cI (uI C38 r35 (Int32.toNatClampNeg p5) q37) p0 76) ||| ((1 : Int32) <<< (p5 &&& 31)))) p0 75).bind (fun r42 => if isK r42 12 = true then if amIn p5 (aLen r42) = true then (f_163 n (cI (uI (uI C38 r35 (Int32.toNatClampNeg p5) q37) p0 76 ((cI (uI C38 r35 (Int32.toNatClampNeg p5) q37) p0 76) ||| ((1 : Int32) <<< (p5 &&& 31)))) r42 (Int32.toNatClampNeg p5)) (-9999 : Int32) (9999 : Int32) (uI (uI C38 r35 (Int32.toNatClampNeg p5) q37) p0 76 ((cI (uI C38 r35 (Int32.toNatClampNeg p5) q37) p0 76) ||| ((1 : Int32) <<< (p5 &&& 31))))).bind (fun z => match z with | (q46, C47) => (if ¬ q46 = 0 then lp_211_8 n p0 p1 p2 p3 p4 (p5 + (1 : Int32)) C47 else (if (cI C47 p0 66) = 0 then lp_211_8 n p0 p1 p2 p3 p4 (p5 + (1 : Int32)) (uI (uI (uI C47 p0 66 (2 : Int32)) p0 67 p1) p0 68 p5) else lp_211_8 n p0 p1 p2 p3 p4 (p5 + (1 : Int32)) C47))) else none else none) else none else none)) else lp_211_8 n p0 p1 p2 p3 p4 (p5 + (1 : Int32)) C) else none else none))) else none else none) else none
set_option maxRecDepth 20000 in
set_option maxHeartbeats 4000000 in
theorem lt_211_8 : ∀ (n : Nat) (p0 : Nat) (p1 : Int32) (p2 : Int32) (p3 : Int32) (p4 : Int32) (p5 : Int32) (C : AmC) (r : ((Unit)) × AmC), lp_211_8 n p0 p1 p2 p3 p4 p5 C = some r → ∀ (o : AmO) (M' : AmM), (match r with
        | (_, C') => En false 211 79 [] [] (mkM C') o M') → En false 211 8 [(0, .ref p0), (1, .int p1), (2, .int p2), (3, .int p3), (4, .int p4), (5, .int p5)] [] (mkM C) o M' := by
  intro n
  induction n with
  | zero => intro p0 p1 p2 p3 p4 p5 C r h; cases h
  | succ n ih =>
    intro p0 p1 p2 p3 p4 p5 C r h o M' hk
    unfold lp_211_8 at h
    refine en_iload rfl rfl ?_
    refine en_aload rfl rfl ?_
    obtain ⟨g2, h⟩ := gd h
    obtain ⟨r3, e4, h⟩ := gb h
    refine ec_getP (ci := 10) (j := 21) ⟨rfl, rfl, rfl⟩ g2 e4 rfl ?_
    refine en_aload rfl rfl ?_
    refine ec_getI (ci := 10) (j := 40) ⟨rfl, rfl, rfl⟩ g2 rfl ?_
    obtain ⟨g5, h⟩ := gd h
    obtain ⟨g6, h⟩ := gd h
    refine ec_iaload g5 g6 rfl ?_
    rcases gi h with ⟨c7, h⟩ | ⟨c7, h⟩
    · refine en_icmp_ge_t c7 rfl ?_
      cases h
      exact en_sub [] rfl rfl hk
    · refine en_icmp_ge_f c7 rfl ?_
      refine en_iload rfl rfl ?_
      rcases gi h with ⟨c8, h⟩ | ⟨c8, h⟩
      · refine en_if_eq_t c8 rfl ?_
        refine en_aload rfl rfl ?_
        obtain ⟨r9, e10, h⟩ := gb h
        refine ec_getP (ci := 10) (j := 38) ⟨rfl, rfl, rfl⟩ g2 e10 rfl ?_
        refine ec_iconst cst_4 rfl ?_
        refine en_iload rfl rfl ?_
        refine en_imul rfl ?_
        refine en_iload rfl rfl ?_
        refine en_iadd rfl ?_
        obtain ⟨g11, h⟩ := gd h
        obtain ⟨g12, h⟩ := gd h
        refine ec_iaload g11 g12 rfl ?_
        refine en_istore (l' := [(6, .int (cI C r9 (Int32.toNatClampNeg (((4 : Int32) * p4) + p5)))), (0, .ref p0), (1, .int p1), (2, .int p2), (3, .int p3), (4, .int p4), (5, .int p5)]) rfl rfl ?_
        refine en_iload rfl rfl ?_
        refine ec_iconst cst_m1 rfl ?_
        rcases gi h with ⟨c13, h⟩ | ⟨c13, h⟩
        · refine en_icmp_ne_t c13 rfl ?_
          refine en_aload rfl rfl ?_
          obtain ⟨r14, e15, h⟩ := gb h
          refine ec_getP (ci := 10) (j := 75) ⟨rfl, rfl, rfl⟩ g2 e15 rfl ?_
          refine en_iload rfl rfl ?_
          refine en_aload rfl rfl ?_
          refine en_iload rfl rfl ?_
          refine en_iload rfl rfl ?_
          refine en_iload rfl rfl ?_
          obtain ⟨⟨q16, C17⟩, e18, h⟩ := gb h
          dsimp only at h
          refine ec_callV1 (k' := 209) (n := 4) (rc := 10) (a := p0) (as := [.int (cI C r9 (Int32.toNatClampNeg (((4 : Int32) * p4) + p5))), .int p1, .int p2]) ⟨rfl, rfl⟩ rfl rfl (Nat.le_of_ble_eq_true rfl) (Nat.le_of_ble_eq_true rfl) (Nat.le_of_ble_eq_true rfl) g2 rfl (t_209 e18) ?_
          obtain ⟨g19, h⟩ := gd h
          obtain ⟨g20, h⟩ := gd h
          refine ec_iastore g19 g20 rfl ?_
          refine en_aload rfl rfl ?_
          refine en_dup rfl rfl ?_
          refine ec_getI (ci := 10) (j := 76) ⟨rfl, rfl, rfl⟩ g2 rfl ?_
          refine ec_iconst cst_1 rfl ?_
          refine en_iload rfl rfl ?_
          refine en_ishl rfl ?_
          refine en_ior rfl ?_
          refine ec_putI (ci := 10) (j := 76) ⟨rfl, rfl, rfl⟩ g2 rfl ?_
          refine en_aload rfl rfl ?_
          obtain ⟨r21, e22, h⟩ := gb h
          refine ec_getP (ci := 10) (j := 75) ⟨rfl, rfl, rfl⟩ g2 e22 rfl ?_
          refine en_iload rfl rfl ?_
          obtain ⟨g23, h⟩ := gd h
          obtain ⟨g24, h⟩ := gd h
          refine ec_iaload g23 g24 rfl ?_
          refine ec_iconst cst_m9999 rfl ?_
          refine ec_iconst cst_9999 rfl ?_
          obtain ⟨⟨q25, C26⟩, e27, h⟩ := gb h
          dsimp only at h
          refine ec_callS1 (k' := 163) (n := 3) (as := [.int (cI (uI (uI C17 r14 (Int32.toNatClampNeg p5) q16) p0 76 ((cI (uI C17 r14 (Int32.toNatClampNeg p5) q16) p0 76) ||| ((1 : Int32) <<< (p5 &&& 31)))) r21 (Int32.toNatClampNeg p5)), .int (-9999 : Int32), .int (9999 : Int32)]) rfl rfl rfl (Nat.le_of_ble_eq_true rfl) (Nat.le_of_ble_eq_true rfl) (Nat.le_of_ble_eq_true rfl) rfl (t_163 e27) ?_
          rcases gi h with ⟨c28, h⟩ | ⟨c28, h⟩
          · refine en_if_ne_t c28 rfl ?_
            refine ec_iinc (l' := [(5, .int (p5 + (1 : Int32))), (6, .int (cI C r9 (Int32.toNatClampNeg (((4 : Int32) * p4) + p5)))), (0, .ref p0), (1, .int p1), (2, .int p2), (3, .int p3), (4, .int p4)]) rfl cst_1 rfl rfl ?_
            refine en_goto rfl ?_
            refine en_sub [2, 3, 4, 5, 6, 0] rfl rfl ?_
            exact ih _ _ _ _ _ _ _ _ h o M' hk
          · refine en_if_ne_f c28 rfl ?_
            refine en_aload rfl rfl ?_
            refine ec_getI (ci := 10) (j := 66) ⟨rfl, rfl, rfl⟩ g2 rfl ?_
            rcases gi h with ⟨c29, h⟩ | ⟨c29, h⟩
            · refine en_if_eq_t c29 rfl ?_
              refine en_aload rfl rfl ?_
              refine ec_iconst cst_2 rfl ?_
              refine ec_putI (ci := 10) (j := 66) ⟨rfl, rfl, rfl⟩ g2 rfl ?_
              refine en_aload rfl rfl ?_
              refine en_iload rfl rfl ?_
              refine ec_putI (ci := 10) (j := 67) ⟨rfl, rfl, rfl⟩ g2 rfl ?_
              refine en_aload rfl rfl ?_
              refine en_iload rfl rfl ?_
              refine ec_putI (ci := 10) (j := 68) ⟨rfl, rfl, rfl⟩ g2 rfl ?_
              refine ec_iinc (l' := [(5, .int (p5 + (1 : Int32))), (6, .int (cI C r9 (Int32.toNatClampNeg (((4 : Int32) * p4) + p5)))), (0, .ref p0), (1, .int p1), (2, .int p2), (3, .int p3), (4, .int p4)]) rfl cst_1 rfl rfl ?_
              refine en_goto rfl ?_
              refine en_sub [2, 3, 4, 5, 6, 0] rfl rfl ?_
              exact ih _ _ _ _ _ _ _ _ h o M' hk
            · refine en_if_eq_f c29 rfl ?_
              refine en_goto rfl ?_
              refine ec_iinc (l' := [(5, .int (p5 + (1 : Int32))), (6, .int (cI C r9 (Int32.toNatClampNeg (((4 : Int32) * p4) + p5)))), (0, .ref p0), (1, .int p1), (2, .int p2), (3, .int p3), (4, .int p4)]) rfl cst_1 rfl rfl ?_
              refine en_goto rfl ?_
              refine en_sub [2, 3, 4, 5, 6, 0] rfl rfl ?_
              exact ih _ _ _ _ _ _ _ _ h o M' hk
        · refine en_icmp_ne_f c13 rfl ?_
          refine en_goto rfl ?_
          refine ec_iinc (l' := [(5, .int (p5 + (1 : Int32))), (6, .int (cI C r9 (Int32.toNatClampNeg (((4 : Int32) * p4) + p5)))), (0, .ref p0), (1, .int p1), (2, .int p2), (3, .int p3), (4, .int p4)]) rfl cst_1 rfl rfl ?_
          refine en_goto rfl ?_
          refine en_sub [2, 3, 4, 5, 6, 0] rfl rfl ?_
          exact ih _ _ _ _ _ _ _ _ h o M' hk
      · refine en_if_eq_f c8 rfl ?_
        refine en_aload rfl rfl ?_
        obtain ⟨r30, e31, h⟩ := gb h
        refine ec_getP (ci := 10) (j := 39) ⟨rfl, rfl, rfl⟩ g2 e31 rfl ?_
        refine ec_iconst cst_4 rfl ?_
        refine en_iload rfl rfl ?_
        refine en_imul rfl ?_
        refine en_iload rfl rfl ?_
        refine en_iadd rfl ?_
        obtain ⟨g32, h⟩ := gd h
        obtain ⟨g33, h⟩ := gd h
        refine ec_iaload g32 g33 rfl ?_
        refine en_goto rfl ?_
        refine en_istore (l' := [(6, .int (cI C r30 (Int32.toNatClampNeg (((4 : Int32) * p4) + p5)))), (0, .ref p0), (1, .int p1), (2, .int p2), (3, .int p3), (4, .int p4), (5, .int p5)]) rfl rfl ?_
        refine en_iload rfl rfl ?_
        refine ec_iconst cst_m1 rfl ?_
        rcases gi h with ⟨c34, h⟩ | ⟨c34, h⟩
        · refine en_icmp_ne_t c34 rfl ?_
          refine en_aload rfl rfl ?_
          obtain ⟨r35, e36, h⟩ := gb h
          refine ec_getP (ci := 10) (j := 75) ⟨rfl, rfl, rfl⟩ g2 e36 rfl ?_
          refine en_iload rfl rfl ?_
          refine en_aload rfl rfl ?_
          refine en_iload rfl rfl ?_
          refine en_iload rfl rfl ?_
          refine en_iload rfl rfl ?_
          obtain ⟨⟨q37, C38⟩, e39, h⟩ := gb h
          dsimp only at h
          refine ec_callV1 (k' := 209) (n := 4) (rc := 10) (a := p0) (as := [.int (cI C r30 (Int32.toNatClampNeg (((4 : Int32) * p4) + p5))), .int p1, .int p2]) ⟨rfl, rfl⟩ rfl rfl (Nat.le_of_ble_eq_true rfl) (Nat.le_of_ble_eq_true rfl) (Nat.le_of_ble_eq_true rfl) g2 rfl (t_209 e39) ?_
          obtain ⟨g40, h⟩ := gd h
          obtain ⟨g41, h⟩ := gd h
          refine ec_iastore g40 g41 rfl ?_
          refine en_aload rfl rfl ?_
          refine en_dup rfl rfl ?_
          refine ec_getI (ci := 10) (j := 76) ⟨rfl, rfl, rfl⟩ g2 rfl ?_
          refine ec_iconst cst_1 rfl ?_
          refine en_iload rfl rfl ?_
          refine en_ishl rfl ?_
          refine en_ior rfl ?_
          refine ec_putI (ci := 10) (j := 76) ⟨rfl, rfl, rfl⟩ g2 rfl ?_
          refine en_aload rfl rfl ?_
          obtain ⟨r42, e43, h⟩ := gb h
          refine ec_getP (ci := 10) (j := 75) ⟨rfl, rfl, rfl⟩ g2 e43 rfl ?_
          refine en_iload rfl rfl ?_
          obtain ⟨g44, h⟩ := gd h
          obtain ⟨g45, h⟩ := gd h
          refine ec_iaload g44 g45 rfl ?_
          refine ec_iconst cst_m9999 rfl ?_
          refine ec_iconst cst_9999 rfl ?_
          obtain ⟨⟨q46, C47⟩, e48, h⟩ := gb h
          dsimp only at h
          refine ec_callS1 (k' := 163) (n := 3) (as := [.int (cI (uI (uI C38 r35 (Int32.toNatClampNeg p5) q37) p0 76 ((cI (uI C38 r35 (Int32.toNatClampNeg p5) q37) p0 76) ||| ((1 : Int32) <<< (p5 &&& 31)))) r42 (Int32.toNatClampNeg p5)), .int (-9999 : Int32), .int (9999 : Int32)]) rfl rfl rfl (Nat.le_of_ble_eq_true rfl) (Nat.le_of_ble_eq_true rfl) (Nat.le_of_ble_eq_true rfl) rfl (t_163 e48) ?_
          rcases gi h with ⟨c49, h⟩ | ⟨c49, h⟩
          · refine en_if_ne_t c49 rfl ?_
            refine ec_iinc (l' := [(5, .int (p5 + (1 : Int32))), (6, .int (cI C r30 (Int32.toNatClampNeg (((4 : Int32) * p4) + p5)))), (0, .ref p0), (1, .int p1), (2, .int p2), (3, .int p3), (4, .int p4)]) rfl cst_1 rfl rfl ?_
            refine en_goto rfl ?_
            refine en_sub [2, 3, 4, 5, 6, 0] rfl rfl ?_
            exact ih _ _ _ _ _ _ _ _ h o M' hk
          · refine en_if_ne_f c49 rfl ?_
            refine en_aload rfl rfl ?_
            refine ec_getI (ci := 10) (j := 66) ⟨rfl, rfl, rfl⟩ g2 rfl ?_
            rcases gi h with ⟨c50, h⟩ | ⟨c50, h⟩
            · refine en_if_eq_t c50 rfl ?_
              refine en_aload rfl rfl ?_
              refine ec_iconst cst_2 rfl ?_
              refine ec_putI (ci := 10) (j := 66) ⟨rfl, rfl, rfl⟩ g2 rfl ?_
              refine en_aload rfl rfl ?_
              refine en_iload rfl rfl ?_
              refine ec_putI (ci := 10) (j := 67) ⟨rfl, rfl, rfl⟩ g2 rfl ?_
              refine en_aload rfl rfl ?_
              refine en_iload rfl rfl ?_
              refine ec_putI (ci := 10) (j := 68) ⟨rfl, rfl, rfl⟩ g2 rfl ?_
              refine ec_iinc (l' := [(5, .int (p5 + (1 : Int32))), (6, .int (cI C r30 (Int32.toNatClampNeg (((4 : Int32) * p4) + p5)))), (0, .ref p0), (1, .int p1), (2, .int p2), (3, .int p3), (4, .int p4)]) rfl cst_1 rfl rfl ?_
              refine en_goto rfl ?_
              refine en_sub [2, 3, 4, 5, 6, 0] rfl rfl ?_
              exact ih _ _ _ _ _ _ _ _ h o M' hk
            · refine en_if_eq_f c50 rfl ?_
              refine en_goto rfl ?_
              refine ec_iinc (l' := [(5, .int (p5 + (1 : Int32))), (6, .int (cI C r30 (Int32.toNatClampNeg (((4 : Int32) * p4) + p5)))), (0, .ref p0), (1, .int p1), (2, .int p2), (3, .int p3), (4, .int p4)]) rfl cst_1 rfl rfl ?_
              refine en_goto rfl ?_
              refine en_sub [2, 3, 4, 5, 6, 0] rfl rfl ?_
              exact ih _ _ _ _ _ _ _ _ h o M' hk
        · refine en_icmp_ne_f c34 rfl ?_
          refine en_goto rfl ?_
          refine ec_iinc (l' := [(5, .int (p5 + (1 : Int32))), (6, .int (cI C r30 (Int32.toNatClampNeg (((4 : Int32) * p4) + p5)))), (0, .ref p0), (1, .int p1), (2, .int p2), (3, .int p3), (4, .int p4)]) rfl cst_1 rfl rfl ?_
          refine en_goto rfl ?_
          refine en_sub [2, 3, 4, 5, 6, 0] rfl rfl ?_
          exact ih _ _ _ _ _ _ _ _ h o M' hk
/-- BulkWriterModel.makes(IIZ)V -/
def f_211 (n : Nat) (a0 : Nat) (a1 : Int32) (a2 : Int32) (a3 : Int32) (C : AmC) : Option (Unit × AmC) := if isK a0 10 = true then (lp_211_8 n a0 a1 a2 a3 (cI C a0 59) (0 : Int32) (uI C a0 76 (0 : Int32))).bind (fun q => match q with | (_, C53) => some ((), C53)) else none
set_option maxRecDepth 20000 in
set_option maxHeartbeats 4000000 in
theorem t_211 {n : Nat} {a0 : Nat} {a1 : Int32} {a2 : Int32} {a3 : Int32} {C : AmC} {r : Unit} {C' : AmC} (h : f_211 n a0 a1 a2 a3 C = some (r, C')) : En false 211 0 [(0, .ref a0), (1, .int a1), (2, .int a2), (3, .int a3)] [] (mkM C) (.inl none) (mkM C') := by
  unfold f_211 at h
  refine en_aload rfl rfl ?_
  obtain ⟨g1, h⟩ := gd h
  refine ec_getI (ci := 10) (j := 59) ⟨rfl, rfl, rfl⟩ g1 rfl ?_
  refine en_istore (l' := [(4, .int (cI C a0 59)), (0, .ref a0), (1, .int a1), (2, .int a2), (3, .int a3)]) rfl rfl ?_
  refine en_aload rfl rfl ?_
  refine ec_iconst cst_0 rfl ?_
  refine ec_putI (ci := 10) (j := 76) ⟨rfl, rfl, rfl⟩ g1 rfl ?_
  refine ec_iconst cst_0 rfl ?_
  refine en_istore (l' := [(5, .int (0 : Int32)), (4, .int (cI C a0 59)), (0, .ref a0), (1, .int a1), (2, .int a2), (3, .int a3)]) rfl rfl ?_
  obtain ⟨⟨q51, C53⟩, e52, h⟩ := gb h
  refine en_sub [2, 3, 4, 5, 1, 0] rfl rfl (lt_211_8 n _ _ _ _ _ _ _ _ e52 _ _ ?_)
  dsimp only at h ⊢
  cases h
  exact en_vret rfl
def lp_212_2 : Nat → Nat → Int32 → AmC → Option (((Int32)) × AmC)
  | 0, _, _, _ => none
  | n + 1, p0, p1, C => (if (30 : Int32) ≤ p1 then some (p1, C) else if isK p0 10 = true then (cP C p0 57).bind (fun r3 => if isK r3 12 = true then if amIn p1 (aLen r3) = true then (if (cI C r3 (Int32.toNatClampNeg p1)) = 0 then some (p1, C) else lp_212_2 n p0 (p1 + (1 : Int32)) C) else none else none) else none)
set_option maxRecDepth 20000 in
set_option maxHeartbeats 4000000 in
theorem lt_212_2 : ∀ (n : Nat) (p0 : Nat) (p1 : Int32) (C : AmC) (r : ((Int32)) × AmC), lp_212_2 n p0 p1 C = some r → ∀ (o : AmO) (M' : AmM), (match r with
        | (w1, C') => En false 212 12 [(1, .int w1)] [] (mkM C') o M') → En false 212 2 [(0, .ref p0), (1, .int p1)] [] (mkM C) o M' := by
  intro n
  induction n with
  | zero => intro p0 p1 C r h; cases h
  | succ n ih =>
    intro p0 p1 C r h o M' hk
    unfold lp_212_2 at h
    refine en_iload rfl rfl ?_
    refine ec_iconst cst_30 rfl ?_
    rcases gi h with ⟨c1, h⟩ | ⟨c1, h⟩
    · refine en_icmp_ge_t c1 rfl ?_
      cases h
      exact en_sub [1] rfl rfl hk
    · refine en_icmp_ge_f c1 rfl ?_
      refine en_aload rfl rfl ?_
      obtain ⟨g2, h⟩ := gd h
      obtain ⟨r3, e4, h⟩ := gb h
      refine ec_getP (ci := 10) (j := 57) ⟨rfl, rfl, rfl⟩ g2 e4 rfl ?_
      refine en_iload rfl rfl ?_
      obtain ⟨g5, h⟩ := gd h
      obtain ⟨g6, h⟩ := gd h
      refine ec_iaload g5 g6 rfl ?_
      rcases gi h with ⟨c7, h⟩ | ⟨c7, h⟩
      · refine en_if_eq_t c7 rfl ?_
        cases h
        exact en_sub [1] rfl rfl hk
      · refine en_if_eq_f c7 rfl ?_
        refine ec_iinc (l' := [(1, .int (p1 + (1 : Int32))), (0, .ref p0)]) rfl cst_1 rfl rfl ?_
        refine en_goto rfl ?_
        refine en_sub [1, 0] rfl rfl ?_
        exact ih _ _ _ _ h o M' hk
/-- BulkWriterModel.freePlace()I -/
def f_212 (n : Nat) (a0 : Nat) (C : AmC) : Option (Int32 × AmC) := (lp_212_2 n a0 (0 : Int32) C).bind (fun q => match q with | (u11, C10) => (if (30 : Int32) ≤ u11 then some ((-1 : Int32), C10) else some (u11, C10)))
set_option maxRecDepth 20000 in
set_option maxHeartbeats 4000000 in
theorem t_212 {n : Nat} {a0 : Nat} {C : AmC} {r : Int32} {C' : AmC} (h : f_212 n a0 C = some (r, C')) : En false 212 0 [(0, .ref a0)] [] (mkM C) (.inl (some (.int r))) (mkM C') := by
  unfold f_212 at h
  refine ec_iconst cst_0 rfl ?_
  refine en_istore (l' := [(1, .int (0 : Int32)), (0, .ref a0)]) rfl rfl ?_
  obtain ⟨⟨q8, C10⟩, e9, h⟩ := gb h
  refine en_sub [1, 0] rfl rfl (lt_212_2 n _ _ _ _ e9 _ _ ?_)
  revert h e9; revert q8; intro u11 e9 h
  dsimp only at h ⊢
  refine en_iload rfl rfl ?_
  refine ec_iconst cst_30 rfl ?_
  rcases gi h with ⟨c12, h⟩ | ⟨c12, h⟩
  · refine en_icmp_ge_t c12 rfl ?_
    refine ec_iconst cst_m1 rfl ?_
    cases h
    exact en_iret rfl
  · refine en_icmp_ge_f c12 rfl ?_
    refine en_iload rfl rfl ?_
    refine en_goto rfl ?_
    cases h
    exact en_iret rfl
