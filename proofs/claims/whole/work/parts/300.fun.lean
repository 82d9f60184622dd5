/-- BulkWriter$Rows.has(I)Z -/
def f_75 (n : Nat) (a0 : Nat) (a1 : Int32) (C : AmC) : Option (Int32 × AmC) := (if a1 < 0 then some (0, C) else (if 30 ≤ a1 then some (0, C) else if isK a0 5 = true then (if ¬ (((Int32.toUInt32 (cI C a0 1) >>> (Int32.toUInt32 a1 &&& Int32.toUInt32 31)).toInt32) &&& 1) = 1 then some (0, C) else some (1, C)) else none))
set_option maxHeartbeats 4000000 in
theorem t_75 {n : Nat} {a0 : Nat} {a1 : Int32} {C : AmC} {r : Int32} {C' : AmC} (h : f_75 n a0 a1 C = some (r, C')) : En false 75 0 [(0, .ref a0), (1, .int a1)] [] (mkM C) (.inl (some (.int r))) (mkM C') := by
  unfold f_75 at h
  refine en_iload rfl rfl ?_
  rcases gi h with ⟨c1, h⟩ | ⟨c1, h⟩
  · refine en_if_lt_t c1 rfl ?_
    refine ec_iconst cst_0 rfl ?_
    cases h
    exact en_zret (Or.inl rfl) rfl
  · refine en_if_lt_f c1 rfl ?_
    refine en_iload rfl rfl ?_
    refine ec_iconst cst_30 rfl ?_
    rcases gi h with ⟨c2, h⟩ | ⟨c2, h⟩
    · refine en_icmp_ge_t c2 rfl ?_
      refine ec_iconst cst_0 rfl ?_
      cases h
      exact en_zret (Or.inl rfl) rfl
    · refine en_icmp_ge_f c2 rfl ?_
      refine en_aload rfl rfl ?_
      obtain ⟨g3, h⟩ := gd h
      refine ec_getI (ci := 5) (j := 1) ⟨rfl, rfl, rfl⟩ g3 rfl ?_
      refine en_iload rfl rfl ?_
      refine en_iushr rfl ?_
      refine ec_iconst cst_1 rfl ?_
      refine en_iand rfl ?_
      refine ec_iconst cst_1 rfl ?_
      rcases gi h with ⟨c4, h⟩ | ⟨c4, h⟩
      · refine en_icmp_ne_t c4 rfl ?_
        refine ec_iconst cst_0 rfl ?_
        cases h
        exact en_zret (Or.inl rfl) rfl
      · refine en_icmp_ne_f c4 rfl ?_
        refine ec_iconst cst_1 rfl ?_
        refine en_goto rfl ?_
        cases h
        exact en_zret (Or.inr rfl) rfl
/-- BulkWriter$Rows.get(II)I -/
def f_76 (n : Nat) (a0 : Nat) (a1 : Int32) (a2 : Int32) (C : AmC) : Option (Int32 × AmC) := (if a1 < 0 then some ((-100000), C) else (if 30 ≤ a1 then some ((-100000), C) else if isK a0 5 = true then (if (((Int32.toUInt32 (cI C a0 1) >>> (Int32.toUInt32 a1 &&& Int32.toUInt32 31)).toInt32) &&& 1) = 0 then some ((-100000), C) else (if a2 < 0 then some ((-100000), C) else (if a2 < 4 then (cP C a0 0).bind (fun r7 => if isK r7 12 = true then if amIn ((a1 * 4) + a2) (aLen r7) = true then some ((cI C r7 (Int32.toNatClampNeg ((a1 * 4) + a2))), C) else none else none) else some ((-100000), C)))) else none))
set_option maxHeartbeats 4000000 in
theorem t_76 {n : Nat} {a0 : Nat} {a1 : Int32} {a2 : Int32} {C : AmC} {r : Int32} {C' : AmC} (h : f_76 n a0 a1 a2 C = some (r, C')) : En false 76 0 [(0, .ref a0), (1, .int a1), (2, .int a2)] [] (mkM C) (.inl (some (.int r))) (mkM C') := by
  unfold f_76 at h
  refine en_iload rfl rfl ?_
  rcases gi h with ⟨c1, h⟩ | ⟨c1, h⟩
  · refine en_if_lt_t c1 rfl ?_
    refine ec_iconst cst_m100000 rfl ?_
    cases h
    exact en_iret rfl
  · refine en_if_lt_f c1 rfl ?_
    refine en_iload rfl rfl ?_
    refine ec_iconst cst_30 rfl ?_
    rcases gi h with ⟨c2, h⟩ | ⟨c2, h⟩
    · refine en_icmp_ge_t c2 rfl ?_
      refine ec_iconst cst_m100000 rfl ?_
      cases h
      exact en_iret rfl
    · refine en_icmp_ge_f c2 rfl ?_
      refine en_aload rfl rfl ?_
      obtain ⟨g3, h⟩ := gd h
      refine ec_getI (ci := 5) (j := 1) ⟨rfl, rfl, rfl⟩ g3 rfl ?_
      refine en_iload rfl rfl ?_
      refine en_iushr rfl ?_
      refine ec_iconst cst_1 rfl ?_
      refine en_iand rfl ?_
      rcases gi h with ⟨c4, h⟩ | ⟨c4, h⟩
      · refine en_if_eq_t c4 rfl ?_
        refine ec_iconst cst_m100000 rfl ?_
        cases h
        exact en_iret rfl
      · refine en_if_eq_f c4 rfl ?_
        refine en_iload rfl rfl ?_
        rcases gi h with ⟨c5, h⟩ | ⟨c5, h⟩
        · refine en_if_lt_t c5 rfl ?_
          refine ec_iconst cst_m100000 rfl ?_
          cases h
          exact en_iret rfl
        · refine en_if_lt_f c5 rfl ?_
          refine en_iload rfl rfl ?_
          refine ec_iconst cst_4 rfl ?_
          rcases gi h with ⟨c6, h⟩ | ⟨c6, h⟩
          · refine en_icmp_lt_t c6 rfl ?_
            refine en_aload rfl rfl ?_
            obtain ⟨r7, e8, h⟩ := gb h
            refine ec_getP (ci := 5) (j := 0) ⟨rfl, rfl, rfl⟩ g3 e8 rfl ?_
            refine en_iload rfl rfl ?_
            refine ec_iconst cst_4 rfl ?_
            refine en_imul rfl ?_
            refine en_iload rfl rfl ?_
            refine en_iadd rfl ?_
            obtain ⟨g9, h⟩ := gd h
            obtain ⟨g10, h⟩ := gd h
            refine ec_iaload g9 g10 rfl ?_
            cases h
            exact en_iret rfl
          · refine en_icmp_lt_f c6 rfl ?_
            refine ec_iconst cst_m100000 rfl ?_
            cases h
            exact en_iret rfl
/-- BulkWriter$Rows.put(III)V -/
def f_77 (n : Nat) (a0 : Nat) (a1 : Int32) (a2 : Int32) (a3 : Int32) (C : AmC) : Option (Unit × AmC) := (if a1 < 0 then some ((), C) else (if 30 ≤ a1 then some ((), C) else (if a2 < 0 then some ((), C) else (if 4 ≤ a2 then some ((), C) else if isK a0 5 = true then (cP C a0 0).bind (fun r6 => if isK r6 12 = true then if amIn ((a1 * 4) + a2) (aLen r6) = true then some ((), uI C r6 (Int32.toNatClampNeg ((a1 * 4) + a2)) a3) else none else none) else none))))
set_option maxHeartbeats 4000000 in
theorem t_77 {n : Nat} {a0 : Nat} {a1 : Int32} {a2 : Int32} {a3 : Int32} {C : AmC} {r : Unit} {C' : AmC} (h : f_77 n a0 a1 a2 a3 C = some (r, C')) : En false 77 0 [(0, .ref a0), (1, .int a1), (2, .int a2), (3, .int a3)] [] (mkM C) (.inl none) (mkM C') := by
  unfold f_77 at h
  refine en_iload rfl rfl ?_
  rcases gi h with ⟨c1, h⟩ | ⟨c1, h⟩
  · refine en_if_lt_t c1 rfl ?_
    cases h
    exact en_vret rfl
  · refine en_if_lt_f c1 rfl ?_
    refine en_iload rfl rfl ?_
    refine ec_iconst cst_30 rfl ?_
    rcases gi h with ⟨c2, h⟩ | ⟨c2, h⟩
    · refine en_icmp_ge_t c2 rfl ?_
      cases h
      exact en_vret rfl
    · refine en_icmp_ge_f c2 rfl ?_
      refine en_iload rfl rfl ?_
      rcases gi h with ⟨c3, h⟩ | ⟨c3, h⟩
      · refine en_if_lt_t c3 rfl ?_
        cases h
        exact en_vret rfl
      · refine en_if_lt_f c3 rfl ?_
        refine en_iload rfl rfl ?_
        refine ec_iconst cst_4 rfl ?_
        rcases gi h with ⟨c4, h⟩ | ⟨c4, h⟩
        · refine en_icmp_ge_t c4 rfl ?_
          cases h
          exact en_vret rfl
        · refine en_icmp_ge_f c4 rfl ?_
          refine en_aload rfl rfl ?_
          obtain ⟨g5, h⟩ := gd h
          obtain ⟨r6, e7, h⟩ := gb h
          refine ec_getP (ci := 5) (j := 0) ⟨rfl, rfl, rfl⟩ g5 e7 rfl ?_
          refine en_iload rfl rfl ?_
          refine ec_iconst cst_4 rfl ?_
          refine en_imul rfl ?_
          refine en_iload rfl rfl ?_
          refine en_iadd rfl ?_
          refine en_iload rfl rfl ?_
          obtain ⟨g8, h⟩ := gd h
          obtain ⟨g9, h⟩ := gd h
          refine ec_iastore g8 g9 rfl ?_
          cases h
          exact en_vret rfl
def lp_80_2 : Nat → Nat → Int32 → AmC → Option (((Int32) ⊕ (Unit)) × AmC)
  | 0, _, _, _ => none
  | n + 1, p0, p1, C => (if 30 ≤ p1 then some ((.inr ()), C) else if isK p0 5 = true then (if ¬ (((Int32.toUInt32 (cI C p0 1) >>> (Int32.toUInt32 p1 &&& Int32.toUInt32 31)).toInt32) &&& 1) = 0 then lp_80_2 n p0 (p1 + 1) C else some ((.inl p1), C)) else none)
set_option maxHeartbeats 4000000 in
theorem lt_80_2 : ∀ (n : Nat) (p0 : Nat) (p1 : Int32) (C : AmC) (r : ((Int32) ⊕ (Unit)) × AmC), lp_80_2 n p0 p1 C = some r → ∀ (o : AmO) (M' : AmM), (match r with
        | ((.inl w1), C') => En false 80 12 [(1, .int w1)] [] (mkM C') o M'
        | ((.inr _), C') => En false 80 16 [] [] (mkM C') o M') → En false 80 2 [(0, .ref p0), (1, .int p1)] [] (mkM C) o M' := by
  intro n
  induction n with
  | zero => intro p0 p1 C r h; cases h
  | succ n ih =>
    intro p0 p1 C r h o M' hk
    unfold lp_80_2 at h
    refine en_iload rfl rfl ?_
    refine ec_iconst cst_30 rfl ?_
    rcases gi h with ⟨c1, h⟩ | ⟨c1, h⟩
    · refine en_icmp_ge_t c1 rfl ?_
      cases h
      exact en_sub [] rfl rfl hk
    · refine en_icmp_ge_f c1 rfl ?_
      refine en_aload rfl rfl ?_
      obtain ⟨g2, h⟩ := gd h
      refine ec_getI (ci := 5) (j := 1) ⟨rfl, rfl, rfl⟩ g2 rfl ?_
      refine en_iload rfl rfl ?_
      refine en_iushr rfl ?_
      refine ec_iconst cst_1 rfl ?_
      refine en_iand rfl ?_
      rcases gi h with ⟨c3, h⟩ | ⟨c3, h⟩
      · refine en_if_ne_t c3 rfl ?_
        refine ec_iinc (l' := [(1, .int (p1 + 1)), (0, .ref p0)]) rfl cst_1 rfl rfl ?_
        refine en_goto rfl ?_
        refine en_sub [1, 0] rfl rfl ?_
        exact ih _ _ _ _ h o M' hk
      · refine en_if_ne_f c3 rfl ?_
        cases h
        exact en_sub [1] rfl rfl hk
/-- BulkWriter$Rows.firstFree()I -/
def f_80 (n : Nat) (a0 : Nat) (C : AmC) : Option (Int32 × AmC) := (lp_80_2 n a0 0 C).bind (fun q => match q with | ((.inl u7), C6) => some (u7, C6) | ((.inr _), C6) => some ((-1), C6))
set_option maxHeartbeats 4000000 in
theorem t_80 {n : Nat} {a0 : Nat} {C : AmC} {r : Int32} {C' : AmC} (h : f_80 n a0 C = some (r, C')) : En false 80 0 [(0, .ref a0)] [] (mkM C) (.inl (some (.int r))) (mkM C') := by
  unfold f_80 at h
  refine ec_iconst cst_0 rfl ?_
  refine en_istore (l' := [(1, .int 0), (0, .ref a0)]) rfl rfl ?_
  obtain ⟨⟨q4, C6⟩, e5, h⟩ := gb h
  refine en_sub [1, 0] rfl rfl (lt_80_2 n _ _ _ _ e5 _ _ ?_)
  rcases q4 with u7 | ⟨⟩
  · dsimp only at h ⊢
    refine en_iload rfl rfl ?_
    cases h
    exact en_iret rfl
  · dsimp only at h ⊢
    refine ec_iconst cst_m1 rfl ?_
    cases h
    exact en_iret rfl
def lp_82_13 : Nat → Nat → Int32 → Int32 → Int32 → Int32 → Int32 → AmC → Option (((Int32)) × AmC)
  | 0, _, _, _, _, _, _, _ => none
  | n + 1, p0, p1, p2, p3, p4, p5, C => (if 30 ≤ p5 then some (p3, C) else if isK p0 5 = true then (if ¬ (((Int32.toUInt32 (cI C p0 1) >>> (Int32.toUInt32 p5 &&& Int32.toUInt32 31)).toInt32) &&& 1) = 0 then (cP C p0 0).bind (fun r6 => if isK r6 12 = true then if amIn ((p5 * 4) + p2) (aLen r6) = true then (if ¬ p1 = 214 then (if ¬ p1 = 211 then (if ¬ p4 = 0 then lp_82_13 n p0 p1 p2 (cI C r6 (Int32.toNatClampNeg ((p5 * 4) + p2))) 0 (p5 + 1) C else (if ¬ p1 = 212 then (if (cI C r6 (Int32.toNatClampNeg ((p5 * 4) + p2))) ≤ p3 then lp_82_13 n p0 p1 p2 p3 0 (p5 + 1) C else lp_82_13 n p0 p1 p2 (cI C r6 (Int32.toNatClampNeg ((p5 * 4) + p2))) 0 (p5 + 1) C) else (if p3 ≤ (cI C r6 (Int32.toNatClampNeg ((p5 * 4) + p2))) then lp_82_13 n p0 p1 p2 p3 0 (p5 + 1) C else lp_82_13 n p0 p1 p2 (cI C r6 (Int32.toNatClampNeg ((p5 * 4) + p2))) 0 (p5 + 1) C))) else lp_82_13 n p0 p1 p2 (p3 + (cI C r6 (Int32.toNatClampNeg ((p5 * 4) + p2)))) 0 (p5 + 1) C) else lp_82_13 n p0 p1 p2 (p3 + 1) 0 (p5 + 1) C) else none else none) else lp_82_13 n p0 p1 p2 p3 p4 (p5 + 1) C) else none)
set_option maxHeartbeats 4000000 in
theorem lt_82_13 : ∀ (n : Nat) (p0 : Nat) (p1 : Int32) (p2 : Int32) (p3 : Int32) (p4 : Int32) (p5 : Int32) (C : AmC) (r : ((Int32)) × AmC), lp_82_13 n p0 p1 p2 p3 p4 p5 C = some r → ∀ (o : AmO) (M' : AmM), (match r with
        | (w3, C') => En false 82 64 [(3, .int w3)] [] (mkM C') o M') → En false 82 13 [(0, .ref p0), (1, .int p1), (2, .int p2), (3, .int p3), (4, .int p4), (5, .int p5)] [] (mkM C) o M' := by
  intro n
  induction n with
  | zero => intro p0 p1 p2 p3 p4 p5 C r h; cases h
  | succ n ih =>
    intro p0 p1 p2 p3 p4 p5 C r h o M' hk
    unfold lp_82_13 at h
    refine en_iload rfl rfl ?_
    refine ec_iconst cst_30 rfl ?_
    rcases gi h with ⟨c3, h⟩ | ⟨c3, h⟩
    · refine en_icmp_ge_t c3 rfl ?_
      cases h
      exact en_sub [3] rfl rfl hk
    · refine en_icmp_ge_f c3 rfl ?_
      refine en_aload rfl rfl ?_
      obtain ⟨g4, h⟩ := gd h
      refine ec_getI (ci := 5) (j := 1) ⟨rfl, rfl, rfl⟩ g4 rfl ?_
      refine en_iload rfl rfl ?_
      refine en_iushr rfl ?_
      refine ec_iconst cst_1 rfl ?_
      refine en_iand rfl ?_
      rcases gi h with ⟨c5, h⟩ | ⟨c5, h⟩
      · refine en_if_ne_t c5 rfl ?_
        refine en_aload rfl rfl ?_
        obtain ⟨r6, e7, h⟩ := gb h
        refine ec_getP (ci := 5) (j := 0) ⟨rfl, rfl, rfl⟩ g4 e7 rfl ?_
        refine en_iload rfl rfl ?_
        refine ec_iconst cst_4 rfl ?_
        refine en_imul rfl ?_
        refine en_iload rfl rfl ?_
        refine en_iadd rfl ?_
        obtain ⟨g8, h⟩ := gd h
        obtain ⟨g9, h⟩ := gd h
        refine ec_iaload g8 g9 rfl ?_
        refine en_istore (l' := [(6, .int (cI C r6 (Int32.toNatClampNeg ((p5 * 4) + p2)))), (0, .ref p0), (1, .int p1), (2, .int p2), (3, .int p3), (4, .int p4), (5, .int p5)]) rfl rfl ?_
        refine en_iload rfl rfl ?_
        refine ec_iconst cst_214 rfl ?_
        rcases gi h with ⟨c10, h⟩ | ⟨c10, h⟩
        · refine en_icmp_ne_t c10 rfl ?_
          refine en_iload rfl rfl ?_
          refine ec_iconst cst_211 rfl ?_
          rcases gi h with ⟨c11, h⟩ | ⟨c11, h⟩
          · refine en_icmp_ne_t c11 rfl ?_
            refine en_iload rfl rfl ?_
            rcases gi h with ⟨c12, h⟩ | ⟨c12, h⟩
            · refine en_if_ne_t c12 rfl ?_
              refine en_iload rfl rfl ?_
              refine en_istore (l' := [(3, .int (cI C r6 (Int32.toNatClampNeg ((p5 * 4) + p2)))), (6, .int (cI C r6 (Int32.toNatClampNeg ((p5 * 4) + p2)))), (0, .ref p0), (1, .int p1), (2, .int p2), (4, .int p4), (5, .int p5)]) rfl rfl ?_
              refine ec_iconst cst_0 rfl ?_
              refine en_istore (l' := [(4, .int 0), (3, .int (cI C r6 (Int32.toNatClampNeg ((p5 * 4) + p2)))), (6, .int (cI C r6 (Int32.toNatClampNeg ((p5 * 4) + p2)))), (0, .ref p0), (1, .int p1), (2, .int p2), (5, .int p5)]) rfl rfl ?_
              refine ec_iinc (l' := [(5, .int (p5 + 1)), (4, .int 0), (3, .int (cI C r6 (Int32.toNatClampNeg ((p5 * 4) + p2)))), (6, .int (cI C r6 (Int32.toNatClampNeg ((p5 * 4) + p2)))), (0, .ref p0), (1, .int p1), (2, .int p2)]) rfl cst_1 rfl rfl ?_
              refine en_goto rfl ?_
              refine en_sub [4, 5, 6, 2, 1, 0] rfl rfl ?_
              exact ih _ _ _ _ _ _ _ _ h o M' hk
            · refine en_if_ne_f c12 rfl ?_
              refine en_iload rfl rfl ?_
              refine ec_iconst cst_212 rfl ?_
              rcases gi h with ⟨c13, h⟩ | ⟨c13, h⟩
              · refine en_icmp_ne_t c13 rfl ?_
                refine en_iload rfl rfl ?_
                refine en_iload rfl rfl ?_
                rcases gi h with ⟨c14, h⟩ | ⟨c14, h⟩
                · refine en_icmp_le_t c14 rfl ?_
                  refine ec_iconst cst_0 rfl ?_
                  refine en_istore (l' := [(4, .int 0), (6, .int (cI C r6 (Int32.toNatClampNeg ((p5 * 4) + p2)))), (0, .ref p0), (1, .int p1), (2, .int p2), (3, .int p3), (5, .int p5)]) rfl rfl ?_
                  refine ec_iinc (l' := [(5, .int (p5 + 1)), (4, .int 0), (6, .int (cI C r6 (Int32.toNatClampNeg ((p5 * 4) + p2)))), (0, .ref p0), (1, .int p1), (2, .int p2), (3, .int p3)]) rfl cst_1 rfl rfl ?_
                  refine en_goto rfl ?_
                  refine en_sub [3, 4, 5, 6, 1, 0] rfl rfl ?_
                  exact ih _ _ _ _ _ _ _ _ h o M' hk
                · refine en_icmp_le_f c14 rfl ?_
                  refine en_iload rfl rfl ?_
                  refine en_istore (l' := [(3, .int (cI C r6 (Int32.toNatClampNeg ((p5 * 4) + p2)))), (6, .int (cI C r6 (Int32.toNatClampNeg ((p5 * 4) + p2)))), (0, .ref p0), (1, .int p1), (2, .int p2), (4, .int p4), (5, .int p5)]) rfl rfl ?_
                  refine ec_iconst cst_0 rfl ?_
                  refine en_istore (l' := [(4, .int 0), (3, .int (cI C r6 (Int32.toNatClampNeg ((p5 * 4) + p2)))), (6, .int (cI C r6 (Int32.toNatClampNeg ((p5 * 4) + p2)))), (0, .ref p0), (1, .int p1), (2, .int p2), (5, .int p5)]) rfl rfl ?_
                  refine ec_iinc (l' := [(5, .int (p5 + 1)), (4, .int 0), (3, .int (cI C r6 (Int32.toNatClampNeg ((p5 * 4) + p2)))), (6, .int (cI C r6 (Int32.toNatClampNeg ((p5 * 4) + p2)))), (0, .ref p0), (1, .int p1), (2, .int p2)]) rfl cst_1 rfl rfl ?_
                  refine en_goto rfl ?_
                  refine en_sub [4, 5, 6, 2, 1, 0] rfl rfl ?_
                  exact ih _ _ _ _ _ _ _ _ h o M' hk
              · refine en_icmp_ne_f c13 rfl ?_
                refine en_iload rfl rfl ?_
                refine en_iload rfl rfl ?_
                rcases gi h with ⟨c15, h⟩ | ⟨c15, h⟩
                · refine en_icmp_ge_t c15 rfl ?_
                  refine ec_iconst cst_0 rfl ?_
                  refine en_istore (l' := [(4, .int 0), (6, .int (cI C r6 (Int32.toNatClampNeg ((p5 * 4) + p2)))), (0, .ref p0), (1, .int p1), (2, .int p2), (3, .int p3), (5, .int p5)]) rfl rfl ?_
                  refine ec_iinc (l' := [(5, .int (p5 + 1)), (4, .int 0), (6, .int (cI C r6 (Int32.toNatClampNeg ((p5 * 4) + p2)))), (0, .ref p0), (1, .int p1), (2, .int p2), (3, .int p3)]) rfl cst_1 rfl rfl ?_
                  refine en_goto rfl ?_
                  refine en_sub [3, 4, 5, 6, 1, 0] rfl rfl ?_
                  exact ih _ _ _ _ _ _ _ _ h o M' hk
                · refine en_icmp_ge_f c15 rfl ?_
                  refine en_goto rfl ?_
                  refine en_iload rfl rfl ?_
                  refine en_istore (l' := [(3, .int (cI C r6 (Int32.toNatClampNeg ((p5 * 4) + p2)))), (6, .int (cI C r6 (Int32.toNatClampNeg ((p5 * 4) + p2)))), (0, .ref p0), (1, .int p1), (2, .int p2), (4, .int p4), (5, .int p5)]) rfl rfl ?_
                  refine ec_iconst cst_0 rfl ?_
                  refine en_istore (l' := [(4, .int 0), (3, .int (cI C r6 (Int32.toNatClampNeg ((p5 * 4) + p2)))), (6, .int (cI C r6 (Int32.toNatClampNeg ((p5 * 4) + p2)))), (0, .ref p0), (1, .int p1), (2, .int p2), (5, .int p5)]) rfl rfl ?_
                  refine ec_iinc (l' := [(5, .int (p5 + 1)), (4, .int 0), (3, .int (cI C r6 (Int32.toNatClampNeg ((p5 * 4) + p2)))), (6, .int (cI C r6 (Int32.toNatClampNeg ((p5 * 4) + p2)))), (0, .ref p0), (1, .int p1), (2, .int p2)]) rfl cst_1 rfl rfl ?_
                  refine en_goto rfl ?_
                  refine en_sub [4, 5, 6, 2, 1, 0] rfl rfl ?_
                  exact ih _ _ _ _ _ _ _ _ h o M' hk
          · refine en_icmp_ne_f c11 rfl ?_
            refine en_iload rfl rfl ?_
            refine en_iload rfl rfl ?_
            refine en_iadd rfl ?_
            refine en_istore (l' := [(3, .int (p3 + (cI C r6 (Int32.toNatClampNeg ((p5 * 4) + p2))))), (6, .int (cI C r6 (Int32.toNatClampNeg ((p5 * 4) + p2)))), (0, .ref p0), (1, .int p1), (2, .int p2), (4, .int p4), (5, .int p5)]) rfl rfl ?_
            refine en_goto rfl ?_
            refine ec_iconst cst_0 rfl ?_
            refine en_istore (l' := [(4, .int 0), (3, .int (p3 + (cI C r6 (Int32.toNatClampNeg ((p5 * 4) + p2))))), (6, .int (cI C r6 (Int32.toNatClampNeg ((p5 * 4) + p2)))), (0, .ref p0), (1, .int p1), (2, .int p2), (5, .int p5)]) rfl rfl ?_
            refine ec_iinc (l' := [(5, .int (p5 + 1)), (4, .int 0), (3, .int (p3 + (cI C r6 (Int32.toNatClampNeg ((p5 * 4) + p2))))), (6, .int (cI C r6 (Int32.toNatClampNeg ((p5 * 4) + p2)))), (0, .ref p0), (1, .int p1), (2, .int p2)]) rfl cst_1 rfl rfl ?_
            refine en_goto rfl ?_
            refine en_sub [4, 5, 6, 2, 1, 0] rfl rfl ?_
            exact ih _ _ _ _ _ _ _ _ h o M' hk
        · refine en_icmp_ne_f c10 rfl ?_
          refine ec_iinc (l' := [(3, .int (p3 + 1)), (6, .int (cI C r6 (Int32.toNatClampNeg ((p5 * 4) + p2)))), (0, .ref p0), (1, .int p1), (2, .int p2), (4, .int p4), (5, .int p5)]) rfl cst_1 rfl rfl ?_
          refine en_goto rfl ?_
          refine ec_iconst cst_0 rfl ?_
          refine en_istore (l' := [(4, .int 0), (3, .int (p3 + 1)), (6, .int (cI C r6 (Int32.toNatClampNeg ((p5 * 4) + p2)))), (0, .ref p0), (1, .int p1), (2, .int p2), (5, .int p5)]) rfl rfl ?_
          refine ec_iinc (l' := [(5, .int (p5 + 1)), (4, .int 0), (3, .int (p3 + 1)), (6, .int (cI C r6 (Int32.toNatClampNeg ((p5 * 4) + p2)))), (0, .ref p0), (1, .int p1), (2, .int p2)]) rfl cst_1 rfl rfl ?_
          refine en_goto rfl ?_
          refine en_sub [4, 5, 6, 2, 1, 0] rfl rfl ?_
          exact ih _ _ _ _ _ _ _ _ h o M' hk
      · refine en_if_ne_f c5 rfl ?_
        refine en_goto rfl ?_
        refine ec_iinc (l' := [(5, .int (p5 + 1)), (0, .ref p0), (1, .int p1), (2, .int p2), (3, .int p3), (4, .int p4)]) rfl cst_1 rfl rfl ?_
        refine en_goto rfl ?_
        refine en_sub [1, 2, 3, 4, 5, 0] rfl rfl ?_
        exact ih _ _ _ _ _ _ _ _ h o M' hk
/-- BulkWriter$Rows.whole(II)I -/
def f_82 (n : Nat) (a0 : Nat) (a1 : Int32) (a2 : Int32) (C : AmC) : Option (Int32 × AmC) := (if a2 < 0 then some (0, C) else (if a2 < 4 then (lp_82_13 n a0 a1 a2 0 1 0 C).bind (fun q => match q with | (u19, C18) => some (u19, C18)) else some (0, C)))
set_option maxHeartbeats 4000000 in
theorem t_82 {n : Nat} {a0 : Nat} {a1 : Int32} {a2 : Int32} {C : AmC} {r : Int32} {C' : AmC} (h : f_82 n a0 a1 a2 C = some (r, C')) : En false 82 0 [(0, .ref a0), (1, .int a1), (2, .int a2)] [] (mkM C) (.inl (some (.int r))) (mkM C') := by
  unfold f_82 at h
  refine en_iload rfl rfl ?_
  rcases gi h with ⟨c1, h⟩ | ⟨c1, h⟩
  · refine en_if_lt_t c1 rfl ?_
    refine ec_iconst cst_0 rfl ?_
    cases h
    exact en_iret rfl
  · refine en_if_lt_f c1 rfl ?_
    refine en_iload rfl rfl ?_
    refine ec_iconst cst_4 rfl ?_
    rcases gi h with ⟨c2, h⟩ | ⟨c2, h⟩
    · refine en_icmp_lt_t c2 rfl ?_
      refine ec_iconst cst_0 rfl ?_
      refine en_istore (l' := [(3, .int 0), (0, .ref a0), (1, .int a1), (2, .int a2)]) rfl rfl ?_
      refine ec_iconst cst_1 rfl ?_
      refine en_istore (l' := [(4, .int 1), (3, .int 0), (0, .ref a0), (1, .int a1), (2, .int a2)]) rfl rfl ?_
      refine ec_iconst cst_0 rfl ?_
      refine en_istore (l' := [(5, .int 0), (4, .int 1), (3, .int 0), (0, .ref a0), (1, .int a1), (2, .int a2)]) rfl rfl ?_
      obtain ⟨⟨q16, C18⟩, e17, h⟩ := gb h
      refine en_sub [3, 4, 5, 2, 1, 0] rfl rfl (lt_82_13 n _ _ _ _ _ _ _ _ e17 _ _ ?_)
      revert h e17; revert q16; intro u19 e17 h
      dsimp only at h ⊢
      refine en_iload rfl rfl ?_
      cases h
      exact en_iret rfl
    · refine en_icmp_lt_f c2 rfl ?_
      refine ec_iconst cst_0 rfl ?_
      cases h
      exact en_iret rfl
def lp_84_2 : Nat → Nat → Int32 → Nat → Int32 → Int32 → Int32 → AmC → Option (((Unit) ⊕ (Unit)) × AmC)
  | 0, _, _, _, _, _, _, _ => none
  | n + 1, p0, p1, p2, p3, p4, p5, C => (if p4 ≤ p5 then some ((.inr ()), C) else if isK p0 5 = true then (f_76 n p0 p1 p5 C).bind (fun z => match z with | (q3, C4) => if isK p2 5 = true then (f_76 n p2 p3 p5 C4).bind (fun z => match z with | (q7, C8) => (if q3 = q7 then lp_84_2 n p0 p1 p2 p3 p4 (p5 + 1) C8 else some ((.inl ()), C8))) else none) else none)
set_option maxHeartbeats 4000000 in
theorem lt_84_2 : ∀ (n : Nat) (p0 : Nat) (p1 : Int32) (p2 : Nat) (p3 : Int32) (p4 : Int32) (p5 : Int32) (C : AmC) (r : ((Unit) ⊕ (Unit)) × AmC), lp_84_2 n p0 p1 p2 p3 p4 p5 C = some r → ∀ (o : AmO) (M' : AmM), (match r with
        | ((.inl _), C') => En false 84 14 [] [] (mkM C') o M'
        | ((.inr _), C') => En false 84 18 [] [] (mkM C') o M') → En false 84 2 [(0, .ref p0), (1, .int p1), (2, .ref p2), (3, .int p3), (4, .int p4), (5, .int p5)] [] (mkM C) o M' := by
  intro n
  induction n with
  | zero => intro p0 p1 p2 p3 p4 p5 C r h; cases h
  | succ n ih =>
    intro p0 p1 p2 p3 p4 p5 C r h o M' hk
    unfold lp_84_2 at h
    refine en_iload rfl rfl ?_
    refine en_iload rfl rfl ?_
    rcases gi h with ⟨c1, h⟩ | ⟨c1, h⟩
    · refine en_icmp_ge_t c1 rfl ?_
      cases h
      exact en_sub [] rfl rfl hk
    · refine en_icmp_ge_f c1 rfl ?_
      refine en_aload rfl rfl ?_
      refine en_iload rfl rfl ?_
      refine en_iload rfl rfl ?_
      obtain ⟨g2, h⟩ := gd h
      obtain ⟨⟨q3, C4⟩, e5, h⟩ := gb h
      dsimp only at h
      refine ec_callV1 (k' := 76) (n := 3) (rc := 5) (a := p0) (as := [.int p1, .int p5]) ⟨rfl, rfl⟩ rfl rfl (Nat.le_of_ble_eq_true rfl) (Nat.le_of_ble_eq_true rfl) (Nat.le_of_ble_eq_true rfl) g2 rfl (t_76 e5) ?_
      refine en_aload rfl rfl ?_
      refine en_iload rfl rfl ?_
      refine en_iload rfl rfl ?_
      obtain ⟨g6, h⟩ := gd h
      obtain ⟨⟨q7, C8⟩, e9, h⟩ := gb h
      dsimp only at h
      refine ec_callV1 (k' := 76) (n := 3) (rc := 5) (a := p2) (as := [.int p3, .int p5]) ⟨rfl, rfl⟩ rfl rfl (Nat.le_of_ble_eq_true rfl) (Nat.le_of_ble_eq_true rfl) (Nat.le_of_ble_eq_true rfl) g6 rfl (t_76 e9) ?_
      rcases gi h with ⟨c10, h⟩ | ⟨c10, h⟩
      · refine en_icmp_eq_t c10 rfl ?_
        refine ec_iinc (l' := [(5, .int (p5 + 1)), (0, .ref p0), (1, .int p1), (2, .ref p2), (3, .int p3), (4, .int p4)]) rfl cst_1 rfl rfl ?_
        refine en_goto rfl ?_
        refine en_sub [1, 2, 3, 4, 5, 0] rfl rfl ?_
        exact ih _ _ _ _ _ _ _ _ h o M' hk
      · refine en_icmp_eq_f c10 rfl ?_
        cases h
        exact en_sub [] rfl rfl hk
/-- BulkWriter$Rows.isLike(ILBulkWriter$Rows;II)Z -/
def f_84 (n : Nat) (a0 : Nat) (a1 : Int32) (a2 : Nat) (a3 : Int32) (a4 : Int32) (C : AmC) : Option (Int32 × AmC) := (lp_84_2 n a0 a1 a2 a3 a4 0 C).bind (fun q => match q with | ((.inl _), C13) => some (0, C13) | ((.inr _), C13) => some (1, C13))
set_option maxHeartbeats 4000000 in
theorem t_84 {n : Nat} {a0 : Nat} {a1 : Int32} {a2 : Nat} {a3 : Int32} {a4 : Int32} {C : AmC} {r : Int32} {C' : AmC} (h : f_84 n a0 a1 a2 a3 a4 C = some (r, C')) : En false 84 0 [(0, .ref a0), (1, .int a1), (2, .ref a2), (3, .int a3), (4, .int a4)] [] (mkM C) (.inl (some (.int r))) (mkM C') := by
  unfold f_84 at h
  refine ec_iconst cst_0 rfl ?_
  refine en_istore (l' := [(5, .int 0), (0, .ref a0), (1, .int a1), (2, .ref a2), (3, .int a3), (4, .int a4)]) rfl rfl ?_
  obtain ⟨⟨q11, C13⟩, e12, h⟩ := gb h
  refine en_sub [1, 2, 3, 4, 5, 0] rfl rfl (lt_84_2 n _ _ _ _ _ _ _ _ e12 _ _ ?_)
  rcases q11 with ⟨⟩ | ⟨⟩
  · dsimp only at h ⊢
    refine ec_iconst cst_0 rfl ?_
    cases h
    exact en_zret (Or.inl rfl) rfl
  · dsimp only at h ⊢
    refine ec_iconst cst_1 rfl ?_
    cases h
    exact en_zret (Or.inr rfl) rfl
def lp_83_22 : Nat → Nat → Nat → Int32 → Int32 → Int32 → Int32 → Int32 → Int32 → AmC → Option (((Nat × Nat × Int32 × Int32 × Int32 × Int32 × Int32)) × AmC)
  | 0, _, _, _, _, _, _, _, _, _ => none
  | n + 1, p0, p1, p2, p3, p4, p5, p6, p7, C => (if 30 ≤ p7 then some ((p0, p1, p2, p3, p4, p5, p6), C) else (if ¬ p6 = (-1) then some ((p0, p1, p2, p3, p4, p5, p6), C) else (if ¬ (((Int32.toUInt32 p3 >>> (Int32.toUInt32 p7 &&& Int32.toUInt32 31)).toInt32) &&& 1) = 1 then lp_83_22 n p0 p1 p2 p3 p4 p5 p6 (p7 + 1) C else if isK p0 5 = true then (f_84 n p0 p5 p1 p7 p2 C).bind (fun z => match z with | (q9, C10) => (if q9 = 0 then lp_83_22 n p0 p1 p2 p3 p4 p5 p6 (p7 + 1) C10 else lp_83_22 n p0 p1 p2 p3 p4 p5 p7 (p7 + 1) C10)) else none)))
set_option maxHeartbeats 4000000 in
theorem lt_83_22 : ∀ (n : Nat) (p0 : Nat) (p1 : Nat) (p2 : Int32) (p3 : Int32) (p4 : Int32) (p5 : Int32) (p6 : Int32) (p7 : Int32) (C : AmC) (r : ((Nat × Nat × Int32 × Int32 × Int32 × Int32 × Int32)) × AmC), lp_83_22 n p0 p1 p2 p3 p4 p5 p6 p7 C = some r → ∀ (o : AmO) (M' : AmM), (match r with
        | ((w0, w1, w2, w3, w4, w5, w6), C') => En false 83 46 [(0, .ref w0), (1, .ref w1), (2, .int w2), (3, .int w3), (4, .int w4), (5, .int w5), (6, .int w6)] [] (mkM C') o M') → En false 83 22 [(0, .ref p0), (1, .ref p1), (2, .int p2), (3, .int p3), (4, .int p4), (5, .int p5), (6, .int p6), (7, .int p7)] [] (mkM C) o M' := by
  intro n
  induction n with
  | zero => intro p0 p1 p2 p3 p4 p5 p6 p7 C r h; cases h
  | succ n ih =>
    intro p0 p1 p2 p3 p4 p5 p6 p7 C r h o M' hk
    unfold lp_83_22 at h
    refine en_iload rfl rfl ?_
    refine ec_iconst cst_30 rfl ?_
    rcases gi h with ⟨c5, h⟩ | ⟨c5, h⟩
    · refine en_icmp_ge_t c5 rfl ?_
      cases h
      exact en_sub [0, 1, 2, 3, 4, 5, 6] rfl rfl hk
    · refine en_icmp_ge_f c5 rfl ?_
      refine en_iload rfl rfl ?_
      refine ec_iconst cst_m1 rfl ?_
      rcases gi h with ⟨c6, h⟩ | ⟨c6, h⟩
      · refine en_icmp_ne_t c6 rfl ?_
        cases h
        exact en_sub [0, 1, 2, 3, 4, 5, 6] rfl rfl hk
      · refine en_icmp_ne_f c6 rfl ?_
        refine en_iload rfl rfl ?_
        refine en_iload rfl rfl ?_
        refine en_iushr rfl ?_
        refine ec_iconst cst_1 rfl ?_
        refine en_iand rfl ?_
        refine ec_iconst cst_1 rfl ?_
        rcases gi h with ⟨c7, h⟩ | ⟨c7, h⟩
        · refine en_icmp_ne_t c7 rfl ?_
          refine ec_iinc (l' := [(7, .int (p7 + 1)), (0, .ref p0), (1, .ref p1), (2, .int p2), (3, .int p3), (4, .int p4), (5, .int p5), (6, .int p6)]) rfl cst_1 rfl rfl ?_
          refine en_goto rfl ?_
          refine en_sub [1, 2, 3, 4, 5, 6, 7, 0] rfl rfl ?_
          exact ih _ _ _ _ _ _ _ _ _ _ h o M' hk
        · refine en_icmp_ne_f c7 rfl ?_
          refine en_aload rfl rfl ?_
          refine en_iload rfl rfl ?_
          refine en_aload rfl rfl ?_
          refine en_iload rfl rfl ?_
          refine en_iload rfl rfl ?_
          obtain ⟨g8, h⟩ := gd h
          obtain ⟨⟨q9, C10⟩, e11, h⟩ := gb h
          dsimp only at h
          refine ec_callV1 (k' := 84) (n := 5) (rc := 5) (a := p0) (as := [.int p5, .ref p1, .int p7, .int p2]) ⟨rfl, rfl⟩ rfl rfl (Nat.le_of_ble_eq_true rfl) (Nat.le_of_ble_eq_true rfl) (Nat.le_of_ble_eq_true rfl) g8 rfl (t_84 e11) ?_
          rcases gi h with ⟨c12, h⟩ | ⟨c12, h⟩
          · refine en_if_eq_t c12 rfl ?_
            refine ec_iinc (l' := [(7, .int (p7 + 1)), (0, .ref p0), (1, .ref p1), (2, .int p2), (3, .int p3), (4, .int p4), (5, .int p5), (6, .int p6)]) rfl cst_1 rfl rfl ?_
            refine en_goto rfl ?_
            refine en_sub [1, 2, 3, 4, 5, 6, 7, 0] rfl rfl ?_
            exact ih _ _ _ _ _ _ _ _ _ _ h o M' hk
          · refine en_if_eq_f c12 rfl ?_
            refine en_iload rfl rfl ?_
            refine en_istore (l' := [(6, .int p7), (0, .ref p0), (1, .ref p1), (2, .int p2), (3, .int p3), (4, .int p4), (5, .int p5), (7, .int p7)]) rfl rfl ?_
            refine ec_iinc (l' := [(7, .int (p7 + 1)), (6, .int p7), (0, .ref p0), (1, .ref p1), (2, .int p2), (3, .int p3), (4, .int p4), (5, .int p5)]) rfl cst_1 rfl rfl ?_
            refine en_goto rfl ?_
            refine en_sub [2, 3, 4, 5, 6, 7, 1, 0] rfl rfl ?_
            exact ih _ _ _ _ _ _ _ _ _ _ h o M' hk
def lp_83_7 : Nat → Nat → Nat → Int32 → Int32 → Int32 → Int32 → AmC → Option (((Int32)) × AmC)
  | 0, _, _, _, _, _, _, _ => none
  | n + 1, p0, p1, p2, p3, p4, p5, C => (if 30 ≤ p5 then some (p4, C) else if isK p0 5 = true then (if ¬ (((Int32.toUInt32 (cI C p0 1) >>> (Int32.toUInt32 p5 &&& Int32.toUInt32 31)).toInt32) &&& 1) = 0 then (lp_83_22 n p0 p1 p2 p3 p4 p5 (-1) 0 C).bind (fun q => match q with | ((u16, u17, u18, u19, u20, u21, u22), C15) => (if ¬ u22 = (-1) then lp_83_7 n u16 u17 u18 (u19 &&& ((1 <<< (u22 &&& 31)) ^^^ (-1))) u20 (u21 + 1) C15 else lp_83_7 n u16 u17 u18 u19 (u20 + 1) (u21 + 1) C15)) else lp_83_7 n p0 p1 p2 p3 p4 (p5 + 1) C) else none)
set_option maxHeartbeats 4000000 in
theorem lt_83_7 : ∀ (n : Nat) (p0 : Nat) (p1 : Nat) (p2 : Int32) (p3 : Int32) (p4 : Int32) (p5 : Int32) (C : AmC) (r : ((Int32)) × AmC), lp_83_7 n p0 p1 p2 p3 p4 p5 C = some r → ∀ (o : AmO) (M' : AmM), (match r with
        | (w4, C') => En false 83 61 [(4, .int w4)] [] (mkM C') o M') → En false 83 7 [(0, .ref p0), (1, .ref p1), (2, .int p2), (3, .int p3), (4, .int p4), (5, .int p5)] [] (mkM C) o M' := by
  intro n
  induction n with
  | zero => intro p0 p1 p2 p3 p4 p5 C r h; cases h
  | succ n ih =>
    intro p0 p1 p2 p3 p4 p5 C r h o M' hk
    unfold lp_83_7 at h
    refine en_iload rfl rfl ?_
    refine ec_iconst cst_30 rfl ?_
    rcases gi h with ⟨c2, h⟩ | ⟨c2, h⟩
    · refine en_icmp_ge_t c2 rfl ?_
      cases h
      exact en_sub [4] rfl rfl hk
    · refine en_icmp_ge_f c2 rfl ?_
      refine en_aload rfl rfl ?_
      obtain ⟨g3, h⟩ := gd h
      refine ec_getI (ci := 5) (j := 1) ⟨rfl, rfl, rfl⟩ g3 rfl ?_
      refine en_iload rfl rfl ?_
      refine en_iushr rfl ?_
      refine ec_iconst cst_1 rfl ?_
      refine en_iand rfl ?_
      rcases gi h with ⟨c4, h⟩ | ⟨c4, h⟩
      · refine en_if_ne_t c4 rfl ?_
        refine ec_iconst cst_m1 rfl ?_
        refine en_istore (l' := [(6, .int (-1)), (0, .ref p0), (1, .ref p1), (2, .int p2), (3, .int p3), (4, .int p4), (5, .int p5)]) rfl rfl ?_
        refine ec_iconst cst_0 rfl ?_
        refine en_istore (l' := [(7, .int 0), (6, .int (-1)), (0, .ref p0), (1, .ref p1), (2, .int p2), (3, .int p3), (4, .int p4), (5, .int p5)]) rfl rfl ?_
        obtain ⟨⟨q13, C15⟩, e14, h⟩ := gb h
        refine en_sub [2, 3, 4, 5, 6, 7, 1, 0] rfl rfl (lt_83_22 n _ _ _ _ _ _ _ _ _ _ e14 o M' ?_)
        obtain ⟨u16, u17, u18, u19, u20, u21, u22⟩ := q13
        dsimp only at h ⊢
        refine en_iload rfl rfl ?_
        refine ec_iconst cst_m1 rfl ?_
        rcases gi h with ⟨c23, h⟩ | ⟨c23, h⟩
        · refine en_icmp_ne_t c23 rfl ?_
          refine en_iload rfl rfl ?_
          refine ec_iconst cst_1 rfl ?_
          refine en_iload rfl rfl ?_
          refine en_ishl rfl ?_
          refine ec_iconst cst_m1 rfl ?_
          refine en_ixor rfl ?_
          refine en_iand rfl ?_
          refine en_istore (l' := [(3, .int (u19 &&& ((1 <<< (u22 &&& 31)) ^^^ (-1)))), (0, .ref u16), (1, .ref u17), (2, .int u18), (4, .int u20), (5, .int u21), (6, .int u22)]) rfl rfl ?_
          refine ec_iinc (l' := [(5, .int (u21 + 1)), (3, .int (u19 &&& ((1 <<< (u22 &&& 31)) ^^^ (-1)))), (0, .ref u16), (1, .ref u17), (2, .int u18), (4, .int u20), (6, .int u22)]) rfl cst_1 rfl rfl ?_
          refine en_goto rfl ?_
          refine en_sub [2, 3, 4, 1, 5, 0] rfl rfl ?_
          exact ih _ _ _ _ _ _ _ _ h o M' hk
        · refine en_icmp_ne_f c23 rfl ?_
          refine ec_iinc (l' := [(4, .int (u20 + 1)), (0, .ref u16), (1, .ref u17), (2, .int u18), (3, .int u19), (5, .int u21), (6, .int u22)]) rfl cst_1 rfl rfl ?_
          refine en_goto rfl ?_
          refine ec_iinc (l' := [(5, .int (u21 + 1)), (4, .int (u20 + 1)), (0, .ref u16), (1, .ref u17), (2, .int u18), (3, .int u19), (6, .int u22)]) rfl cst_1 rfl rfl ?_
          refine en_goto rfl ?_
          refine en_sub [2, 3, 4, 5, 1, 0] rfl rfl ?_
          exact ih _ _ _ _ _ _ _ _ h o M' hk
      · refine en_if_ne_f c4 rfl ?_
        refine en_goto rfl ?_
        refine ec_iinc (l' := [(5, .int (p5 + 1)), (0, .ref p0), (1, .ref p1), (2, .int p2), (3, .int p3), (4, .int p4)]) rfl cst_1 rfl rfl ?_
        refine en_goto rfl ?_
        refine en_sub [1, 2, 3, 4, 5, 0] rfl rfl ?_
        exact ih _ _ _ _ _ _ _ _ h o M' hk
/-- BulkWriter$Rows.lacking(LBulkWriter$Rows;I)I -/
def f_83 (n : Nat) (a0 : Nat) (a1 : Nat) (a2 : Int32) (C : AmC) : Option (Int32 × AmC) := if isK a1 5 = true then (lp_83_7 n a0 a1 a2 (cI C a1 1) 0 0 C).bind (fun q => match q with | (u27, C26) => some (u27, C26)) else none
set_option maxHeartbeats 4000000 in
theorem t_83 {n : Nat} {a0 : Nat} {a1 : Nat} {a2 : Int32} {C : AmC} {r : Int32} {C' : AmC} (h : f_83 n a0 a1 a2 C = some (r, C')) : En false 83 0 [(0, .ref a0), (1, .ref a1), (2, .int a2)] [] (mkM C) (.inl (some (.int r))) (mkM C') := by
  unfold f_83 at h
  refine en_aload rfl rfl ?_
  obtain ⟨g1, h⟩ := gd h
  refine ec_getI (ci := 5) (j := 1) ⟨rfl, rfl, rfl⟩ g1 rfl ?_
  refine en_istore (l' := [(3, .int (cI C a1 1)), (0, .ref a0), (1, .ref a1), (2, .int a2)]) rfl rfl ?_
  refine ec_iconst cst_0 rfl ?_
  refine en_istore (l' := [(4, .int 0), (3, .int (cI C a1 1)), (0, .ref a0), (1, .ref a1), (2, .int a2)]) rfl rfl ?_
  refine ec_iconst cst_0 rfl ?_
  refine en_istore (l' := [(5, .int 0), (4, .int 0), (3, .int (cI C a1 1)), (0, .ref a0), (1, .ref a1), (2, .int a2)]) rfl rfl ?_
  obtain ⟨⟨q24, C26⟩, e25, h⟩ := gb h
  refine en_sub [3, 4, 5, 2, 1, 0] rfl rfl (lt_83_7 n _ _ _ _ _ _ _ _ e25 _ _ ?_)
  revert h e25; revert q24; intro u27 e25 h
  dsimp only at h ⊢
  refine en_iload rfl rfl ?_
  cases h
  exact en_iret rfl
