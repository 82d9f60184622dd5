def lp_167_8 : Nat → Nat → Int32 → Int32 → Int32 → Int32 → Int32 → Int32 → AmC → Option (((Int32) ⊕ (Unit)) × AmC)
  | 0, _, _, _, _, _, _, _, _ => none
  | n + 1, p0, p1, p2, p3, p4, p5, p6, C => (if (103 : Int32) ≤ p6 then some ((.inr ()), C) else if amIn p6 103 = true then (if ¬ (amKw (Int32.toNatClampNeg p6)) = (32 : Int32) then (if p5 = 0 then lp_167_8 n p0 p1 p2 p3 (p4 + (1 : Int32)) (0 : Int32) (p6 + (1 : Int32)) C else (if p2 ≤ p4 then lp_167_8 n p0 p1 p2 p3 (p4 + (1 : Int32)) (0 : Int32) (p6 + (1 : Int32)) C else if isK p0 10 = true then (f_166 n p0 p4 C).bind (fun z => match z with | (q7, C8) => if amIn p6 103 = true then (if ¬ q7 = (amKw (Int32.toNatClampNeg p6)) then lp_167_8 n p0 p1 p2 p3 (p4 + (1 : Int32)) (0 : Int32) (p6 + (1 : Int32)) C8 else lp_167_8 n p0 p1 p2 p3 (p4 + (1 : Int32)) (1 : Int32) (p6 + (1 : Int32)) C8) else none) else none)) else (if p5 = 0 then lp_167_8 n p0 p1 p2 (p3 + (1 : Int32)) p1 (1 : Int32) (p6 + (1 : Int32)) C else (if ¬ p4 = p2 then lp_167_8 n p0 p1 p2 (p3 + (1 : Int32)) p1 (1 : Int32) (p6 + (1 : Int32)) C else some ((.inl p3), C)))) else none)
set_option maxRecDepth 20000 in
set_option maxHeartbeats 4000000 in
theorem lt_167_8 : ∀ (n : Nat) (p0 : Nat) (p1 : Int32) (p2 : Int32) (p3 : Int32) (p4 : Int32) (p5 : Int32) (p6 : Int32) (C : AmC) (r : ((Int32) ⊕ (Unit)) × AmC), lp_167_8 n p0 p1 p2 p3 p4 p5 p6 C = some r → ∀ (o : AmO) (M' : AmM), (match r with
        | ((.inl w3), C') => En false 167 22 [(3, .int w3)] [] (mkM C') o M'
        | ((.inr _), C') => En false 167 49 [] [] (mkM C') o M') → En false 167 8 [(0, .ref p0), (1, .int p1), (2, .int p2), (3, .int p3), (4, .int p4), (5, .int p5), (6, .int p6)] [] (mkM C) o M' := by
  intro n
  induction n with
  | zero => intro p0 p1 p2 p3 p4 p5 p6 C r h; cases h
  | succ n ih =>
    intro p0 p1 p2 p3 p4 p5 p6 C r h o M' hk
    unfold lp_167_8 at h
    refine en_iload rfl rfl ?_
    refine en_known rfl ?_
    refine en_klen rfl ?_
    rcases gi h with ⟨c1, h⟩ | ⟨c1, h⟩
    · refine en_icmp_ge_t c1 rfl ?_
      cases h
      exact en_sub [] rfl rfl hk
    · refine en_icmp_ge_f c1 rfl ?_
      refine en_known rfl ?_
      refine en_iload rfl rfl ?_
      obtain ⟨g2, h⟩ := gd h
      refine en_kaload g2 rfl ?_
      refine ec_iconst cst_32 rfl ?_
      rcases gi h with ⟨c3, h⟩ | ⟨c3, h⟩
      · refine en_icmp_ne_t c3 rfl ?_
        refine en_iload rfl rfl ?_
        rcases gi h with ⟨c4, h⟩ | ⟨c4, h⟩
        · refine en_if_eq_t c4 rfl ?_
          refine ec_iconst cst_0 rfl ?_
          refine en_istore (l' := [(5, .int (0 : Int32)), (0, .ref p0), (1, .int p1), (2, .int p2), (3, .int p3), (4, .int p4), (6, .int p6)]) rfl rfl ?_
          refine ec_iinc (l' := [(4, .int (p4 + (1 : Int32))), (5, .int (0 : Int32)), (0, .ref p0), (1, .int p1), (2, .int p2), (3, .int p3), (6, .int p6)]) rfl cst_1 rfl rfl ?_
          refine ec_iinc (l' := [(6, .int (p6 + (1 : Int32))), (4, .int (p4 + (1 : Int32))), (5, .int (0 : Int32)), (0, .ref p0), (1, .int p1), (2, .int p2), (3, .int p3)]) rfl cst_1 rfl rfl ?_
          refine en_goto rfl ?_
          refine en_sub [3, 4, 5, 6, 1, 2, 0] rfl rfl ?_
          exact ih _ _ _ _ _ _ _ _ _ h o M' hk
        · refine en_if_eq_f c4 rfl ?_
          refine en_iload rfl rfl ?_
          refine en_iload rfl rfl ?_
          rcases gi h with ⟨c5, h⟩ | ⟨c5, h⟩
          · refine en_icmp_ge_t c5 rfl ?_
            refine ec_iconst cst_0 rfl ?_
            refine en_istore (l' := [(5, .int (0 : Int32)), (0, .ref p0), (1, .int p1), (2, .int p2), (3, .int p3), (4, .int p4), (6, .int p6)]) rfl rfl ?_
            refine ec_iinc (l' := [(4, .int (p4 + (1 : Int32))), (5, .int (0 : Int32)), (0, .ref p0), (1, .int p1), (2, .int p2), (3, .int p3), (6, .int p6)]) rfl cst_1 rfl rfl ?_
            refine ec_iinc (l' := [(6, .int (p6 + (1 : Int32))), (4, .int (p4 + (1 : Int32))), (5, .int (0 : Int32)), (0, .ref p0), (1, .int p1), (2, .int p2), (3, .int p3)]) rfl cst_1 rfl rfl ?_
            refine en_goto rfl ?_
            refine en_sub [3, 4, 5, 6, 1, 2, 0] rfl rfl ?_
            exact ih _ _ _ _ _ _ _ _ _ h o M' hk
          · refine en_icmp_ge_f c5 rfl ?_
            refine en_aload rfl rfl ?_
            refine en_iload rfl rfl ?_
            obtain ⟨g6, h⟩ := gd h
            obtain ⟨⟨q7, C8⟩, e9, h⟩ := gb h
            dsimp only at h
            refine ec_callV1 (k' := 166) (n := 2) (rc := 10) (a := p0) (as := [.int p4]) ⟨rfl, rfl⟩ rfl rfl (Nat.le_of_ble_eq_true rfl) (Nat.le_of_ble_eq_true rfl) (Nat.le_of_ble_eq_true rfl) g6 rfl (t_166 e9) ?_
            refine en_known rfl ?_
            refine en_iload rfl rfl ?_
            obtain ⟨g10, h⟩ := gd h
            refine en_kaload g10 rfl ?_
            rcases gi h with ⟨c11, h⟩ | ⟨c11, h⟩
            · refine en_icmp_ne_t c11 rfl ?_
              refine ec_iconst cst_0 rfl ?_
              refine en_istore (l' := [(5, .int (0 : Int32)), (0, .ref p0), (1, .int p1), (2, .int p2), (3, .int p3), (4, .int p4), (6, .int p6)]) rfl rfl ?_
              refine ec_iinc (l' := [(4, .int (p4 + (1 : Int32))), (5, .int (0 : Int32)), (0, .ref p0), (1, .int p1), (2, .int p2), (3, .int p3), (6, .int p6)]) rfl cst_1 rfl rfl ?_
              refine ec_iinc (l' := [(6, .int (p6 + (1 : Int32))), (4, .int (p4 + (1 : Int32))), (5, .int (0 : Int32)), (0, .ref p0), (1, .int p1), (2, .int p2), (3, .int p3)]) rfl cst_1 rfl rfl ?_
              refine en_goto rfl ?_
              refine en_sub [3, 4, 5, 6, 1, 2, 0] rfl rfl ?_
              exact ih _ _ _ _ _ _ _ _ _ h o M' hk
            · refine en_icmp_ne_f c11 rfl ?_
              refine ec_iconst cst_1 rfl ?_
              refine en_goto rfl ?_
              refine en_istore (l' := [(5, .int (1 : Int32)), (0, .ref p0), (1, .int p1), (2, .int p2), (3, .int p3), (4, .int p4), (6, .int p6)]) rfl rfl ?_
              refine ec_iinc (l' := [(4, .int (p4 + (1 : Int32))), (5, .int (1 : Int32)), (0, .ref p0), (1, .int p1), (2, .int p2), (3, .int p3), (6, .int p6)]) rfl cst_1 rfl rfl ?_
              refine ec_iinc (l' := [(6, .int (p6 + (1 : Int32))), (4, .int (p4 + (1 : Int32))), (5, .int (1 : Int32)), (0, .ref p0), (1, .int p1), (2, .int p2), (3, .int p3)]) rfl cst_1 rfl rfl ?_
              refine en_goto rfl ?_
              refine en_sub [3, 4, 5, 6, 1, 2, 0] rfl rfl ?_
              exact ih _ _ _ _ _ _ _ _ _ h o M' hk
      · refine en_icmp_ne_f c3 rfl ?_
        refine en_iload rfl rfl ?_
        rcases gi h with ⟨c12, h⟩ | ⟨c12, h⟩
        · refine en_if_eq_t c12 rfl ?_
          refine ec_iinc (l' := [(3, .int (p3 + (1 : Int32))), (0, .ref p0), (1, .int p1), (2, .int p2), (4, .int p4), (5, .int p5), (6, .int p6)]) rfl cst_1 rfl rfl ?_
          refine en_iload rfl rfl ?_
          refine en_istore (l' := [(4, .int p1), (3, .int (p3 + (1 : Int32))), (0, .ref p0), (1, .int p1), (2, .int p2), (5, .int p5), (6, .int p6)]) rfl rfl ?_
          refine ec_iconst cst_1 rfl ?_
          refine en_istore (l' := [(5, .int (1 : Int32)), (4, .int p1), (3, .int (p3 + (1 : Int32))), (0, .ref p0), (1, .int p1), (2, .int p2), (6, .int p6)]) rfl rfl ?_
          refine en_goto rfl ?_
          refine ec_iinc (l' := [(6, .int (p6 + (1 : Int32))), (5, .int (1 : Int32)), (4, .int p1), (3, .int (p3 + (1 : Int32))), (0, .ref p0), (1, .int p1), (2, .int p2)]) rfl cst_1 rfl rfl ?_
          refine en_goto rfl ?_
          refine en_sub [4, 5, 6, 3, 2, 1, 0] rfl rfl ?_
          exact ih _ _ _ _ _ _ _ _ _ h o M' hk
        · refine en_if_eq_f c12 rfl ?_
          refine en_iload rfl rfl ?_
          refine en_iload rfl rfl ?_
          rcases gi h with ⟨c13, h⟩ | ⟨c13, h⟩
          · refine en_icmp_ne_t c13 rfl ?_
            refine ec_iinc (l' := [(3, .int (p3 + (1 : Int32))), (0, .ref p0), (1, .int p1), (2, .int p2), (4, .int p4), (5, .int p5), (6, .int p6)]) rfl cst_1 rfl rfl ?_
            refine en_iload rfl rfl ?_
            refine en_istore (l' := [(4, .int p1), (3, .int (p3 + (1 : Int32))), (0, .ref p0), (1, .int p1), (2, .int p2), (5, .int p5), (6, .int p6)]) rfl rfl ?_
            refine ec_iconst cst_1 rfl ?_
            refine en_istore (l' := [(5, .int (1 : Int32)), (4, .int p1), (3, .int (p3 + (1 : Int32))), (0, .ref p0), (1, .int p1), (2, .int p2), (6, .int p6)]) rfl rfl ?_
            refine en_goto rfl ?_
            refine ec_iinc (l' := [(6, .int (p6 + (1 : Int32))), (5, .int (1 : Int32)), (4, .int p1), (3, .int (p3 + (1 : Int32))), (0, .ref p0), (1, .int p1), (2, .int p2)]) rfl cst_1 rfl rfl ?_
            refine en_goto rfl ?_
            refine en_sub [4, 5, 6, 3, 2, 1, 0] rfl rfl ?_
            exact ih _ _ _ _ _ _ _ _ _ h o M' hk
          · refine en_icmp_ne_f c13 rfl ?_
            cases h
            exact en_sub [3] rfl rfl hk
/-- BulkWriterModel.wordFrom(II)I -/
def f_167 (n : Nat) (a0 : Nat) (a1 : Int32) (a2 : Int32) (C : AmC) : Option (Int32 × AmC) := (lp_167_8 n a0 a1 a2 (0 : Int32) a1 (1 : Int32) (0 : Int32) C).bind (fun q => match q with | ((.inl u17), C16) => some (u17, C16) | ((.inr _), C16) => some ((-1 : Int32), C16))
set_option maxRecDepth 20000 in
set_option maxHeartbeats 4000000 in
theorem t_167 {n : Nat} {a0 : Nat} {a1 : Int32} {a2 : Int32} {C : AmC} {r : Int32} {C' : AmC} (h : f_167 n a0 a1 a2 C = some (r, C')) : En false 167 0 [(0, .ref a0), (1, .int a1), (2, .int a2)] [] (mkM C) (.inl (some (.int r))) (mkM C') := by
  unfold f_167 at h
  refine ec_iconst cst_0 rfl ?_
  refine en_istore (l' := [(3, .int (0 : Int32)), (0, .ref a0), (1, .int a1), (2, .int a2)]) rfl rfl ?_
  refine en_iload rfl rfl ?_
  refine en_istore (l' := [(4, .int a1), (3, .int (0 : Int32)), (0, .ref a0), (1, .int a1), (2, .int a2)]) rfl rfl ?_
  refine ec_iconst cst_1 rfl ?_
  refine en_istore (l' := [(5, .int (1 : Int32)), (4, .int a1), (3, .int (0 : Int32)), (0, .ref a0), (1, .int a1), (2, .int a2)]) rfl rfl ?_
  refine ec_iconst cst_0 rfl ?_
  refine en_istore (l' := [(6, .int (0 : Int32)), (5, .int (1 : Int32)), (4, .int a1), (3, .int (0 : Int32)), (0, .ref a0), (1, .int a1), (2, .int a2)]) rfl rfl ?_
  obtain ⟨⟨q14, C16⟩, e15, h⟩ := gb h
  refine en_sub [4, 5, 6, 3, 2, 1, 0] rfl rfl (lt_167_8 n _ _ _ _ _ _ _ _ _ e15 _ _ ?_)
  rcases q14 with u17 | ⟨⟩
  · dsimp only at h ⊢
    refine en_iload rfl rfl ?_
    cases h
    exact en_iret rfl
  · dsimp only at h ⊢
    refine ec_iconst cst_m1 rfl ?_
    cases h
    exact en_iret rfl
/-- BulkWriterModel.isSign(I)Z -/
def f_168 (n : Nat) (a0 : Int32) (C : AmC) : Option (Int32 × AmC) := (if a0 = (59 : Int32) then some ((1 : Int32), C) else (if a0 = (44 : Int32) then some ((1 : Int32), C) else (if a0 = (43 : Int32) then some ((1 : Int32), C) else (if a0 = (45 : Int32) then some ((1 : Int32), C) else (if a0 = (42 : Int32) then some ((1 : Int32), C) else (if a0 = (60 : Int32) then some ((1 : Int32), C) else (if a0 = (61 : Int32) then some ((1 : Int32), C) else (if ¬ a0 = (62 : Int32) then some ((0 : Int32), C) else some ((1 : Int32), C)))))))))
set_option maxRecDepth 20000 in
set_option maxHeartbeats 4000000 in
theorem t_168 {n : Nat} {a0 : Int32} {C : AmC} {r : Int32} {C' : AmC} (h : f_168 n a0 C = some (r, C')) : En false 168 0 [(0, .int a0)] [] (mkM C) (.inl (some (.int r))) (mkM C') := by
  unfold f_168 at h
  refine en_iload rfl rfl ?_
  refine ec_iconst cst_59 rfl ?_
  rcases gi h with ⟨c1, h⟩ | ⟨c1, h⟩
  · refine en_icmp_eq_t c1 rfl ?_
    refine ec_iconst cst_1 rfl ?_
    refine en_goto rfl ?_
    cases h
    exact en_zret (Or.inr rfl) rfl
  · refine en_icmp_eq_f c1 rfl ?_
    refine en_iload rfl rfl ?_
    refine ec_iconst cst_44 rfl ?_
    rcases gi h with ⟨c2, h⟩ | ⟨c2, h⟩
    · refine en_icmp_eq_t c2 rfl ?_
      refine ec_iconst cst_1 rfl ?_
      refine en_goto rfl ?_
      cases h
      exact en_zret (Or.inr rfl) rfl
    · refine en_icmp_eq_f c2 rfl ?_
      refine en_iload rfl rfl ?_
      refine ec_iconst cst_43 rfl ?_
      rcases gi h with ⟨c3, h⟩ | ⟨c3, h⟩
      · refine en_icmp_eq_t c3 rfl ?_
        refine ec_iconst cst_1 rfl ?_
        refine en_goto rfl ?_
        cases h
        exact en_zret (Or.inr rfl) rfl
      · refine en_icmp_eq_f c3 rfl ?_
        refine en_iload rfl rfl ?_
        refine ec_iconst cst_45 rfl ?_
        rcases gi h with ⟨c4, h⟩ | ⟨c4, h⟩
        · refine en_icmp_eq_t c4 rfl ?_
          refine ec_iconst cst_1 rfl ?_
          refine en_goto rfl ?_
          cases h
          exact en_zret (Or.inr rfl) rfl
        · refine en_icmp_eq_f c4 rfl ?_
          refine en_iload rfl rfl ?_
          refine ec_iconst cst_42 rfl ?_
          rcases gi h with ⟨c5, h⟩ | ⟨c5, h⟩
          · refine en_icmp_eq_t c5 rfl ?_
            refine ec_iconst cst_1 rfl ?_
            refine en_goto rfl ?_
            cases h
            exact en_zret (Or.inr rfl) rfl
          · refine en_icmp_eq_f c5 rfl ?_
            refine en_iload rfl rfl ?_
            refine ec_iconst cst_60 rfl ?_
            rcases gi h with ⟨c6, h⟩ | ⟨c6, h⟩
            · refine en_icmp_eq_t c6 rfl ?_
              refine ec_iconst cst_1 rfl ?_
              refine en_goto rfl ?_
              cases h
              exact en_zret (Or.inr rfl) rfl
            · refine en_icmp_eq_f c6 rfl ?_
              refine en_iload rfl rfl ?_
              refine ec_iconst cst_61 rfl ?_
              rcases gi h with ⟨c7, h⟩ | ⟨c7, h⟩
              · refine en_icmp_eq_t c7 rfl ?_
                refine ec_iconst cst_1 rfl ?_
                refine en_goto rfl ?_
                cases h
                exact en_zret (Or.inr rfl) rfl
              · refine en_icmp_eq_f c7 rfl ?_
                refine en_iload rfl rfl ?_
                refine ec_iconst cst_62 rfl ?_
                rcases gi h with ⟨c8, h⟩ | ⟨c8, h⟩
                · refine en_icmp_ne_t c8 rfl ?_
                  refine ec_iconst cst_0 rfl ?_
                  cases h
                  exact en_zret (Or.inl rfl) rfl
                · refine en_icmp_ne_f c8 rfl ?_
                  refine ec_iconst cst_1 rfl ?_
                  refine en_goto rfl ?_
                  cases h
                  exact en_zret (Or.inr rfl) rfl
def lp_169_0 : Nat → Nat → AmC → Option (((Nat)) × AmC)
  | 0, _, _ => none
  | n + 1, p0, C => if isK p0 10 = true then (if (cI C p0 47) ≤ (cI C p0 45) then some (p0, C) else (f_166 n p0 (cI C p0 45) C).bind (fun z => match z with | (q3, C4) => (if q3 = (32 : Int32) then lp_169_0 n p0 (uI C4 p0 45 ((cI C4 p0 45) + (1 : Int32))) else (f_166 n p0 (cI C4 p0 45) C4).bind (fun z => match z with | (q7, C8) => (if ¬ q7 = (10 : Int32) then some (p0, C8) else lp_169_0 n p0 (uI C8 p0 45 ((cI C8 p0 45) + (1 : Int32)))))))) else none
set_option maxRecDepth 20000 in
set_option maxHeartbeats 4000000 in
theorem lt_169_0 : ∀ (n : Nat) (p0 : Nat) (C : AmC) (r : ((Nat)) × AmC), lp_169_0 n p0 C = some r → ∀ (o : AmO) (M' : AmM), (match r with
        | (w0, C') => En false 169 24 [(0, .ref w0)] [] (mkM C') o M') → En false 169 0 [(0, .ref p0)] [] (mkM C) o M' := by
  intro n
  induction n with
  | zero => intro p0 C r h; cases h
  | succ n ih =>
    intro p0 C r h o M' hk
    unfold lp_169_0 at h
    refine en_aload rfl rfl ?_
    obtain ⟨g1, h⟩ := gd h
    refine ec_getI (ci := 10) (j := 45) ⟨rfl, rfl, rfl⟩ g1 rfl ?_
    refine en_aload rfl rfl ?_
    refine ec_getI (ci := 10) (j := 47) ⟨rfl, rfl, rfl⟩ g1 rfl ?_
    rcases gi h with ⟨c2, h⟩ | ⟨c2, h⟩
    · refine en_icmp_ge_t c2 rfl ?_
      cases h
      exact en_sub [0] rfl rfl hk
    · refine en_icmp_ge_f c2 rfl ?_
      refine en_aload rfl rfl ?_
      refine en_aload rfl rfl ?_
      refine ec_getI (ci := 10) (j := 45) ⟨rfl, rfl, rfl⟩ g1 rfl ?_
      obtain ⟨⟨q3, C4⟩, e5, h⟩ := gb h
      dsimp only at h
      refine ec_callV1 (k' := 166) (n := 2) (rc := 10) (a := p0) (as := [.int (cI C p0 45)]) ⟨rfl, rfl⟩ rfl rfl (Nat.le_of_ble_eq_true rfl) (Nat.le_of_ble_eq_true rfl) (Nat.le_of_ble_eq_true rfl) g1 rfl (t_166 e5) ?_
      refine ec_iconst cst_32 rfl ?_
      rcases gi h with ⟨c6, h⟩ | ⟨c6, h⟩
      · refine en_icmp_eq_t c6 rfl ?_
        refine en_aload rfl rfl ?_
        refine en_dup rfl rfl ?_
        refine ec_getI (ci := 10) (j := 45) ⟨rfl, rfl, rfl⟩ g1 rfl ?_
        refine ec_iconst cst_1 rfl ?_
        refine en_iadd rfl ?_
        refine ec_putI (ci := 10) (j := 45) ⟨rfl, rfl, rfl⟩ g1 rfl ?_
        refine en_goto rfl ?_
        refine en_sub [0] rfl rfl ?_
        exact ih _ _ _ h o M' hk
      · refine en_icmp_eq_f c6 rfl ?_
        refine en_aload rfl rfl ?_
        refine en_aload rfl rfl ?_
        refine ec_getI (ci := 10) (j := 45) ⟨rfl, rfl, rfl⟩ g1 rfl ?_
        obtain ⟨⟨q7, C8⟩, e9, h⟩ := gb h
        dsimp only at h
        refine ec_callV1 (k' := 166) (n := 2) (rc := 10) (a := p0) (as := [.int (cI C4 p0 45)]) ⟨rfl, rfl⟩ rfl rfl (Nat.le_of_ble_eq_true rfl) (Nat.le_of_ble_eq_true rfl) (Nat.le_of_ble_eq_true rfl) g1 rfl (t_166 e9) ?_
        refine ec_iconst cst_10 rfl ?_
        rcases gi h with ⟨c10, h⟩ | ⟨c10, h⟩
        · refine en_icmp_ne_t c10 rfl ?_
          cases h
          exact en_sub [0] rfl rfl hk
        · refine en_icmp_ne_f c10 rfl ?_
          refine en_aload rfl rfl ?_
          refine en_dup rfl rfl ?_
          refine ec_getI (ci := 10) (j := 45) ⟨rfl, rfl, rfl⟩ g1 rfl ?_
          refine ec_iconst cst_1 rfl ?_
          refine en_iadd rfl ?_
          refine ec_putI (ci := 10) (j := 45) ⟨rfl, rfl, rfl⟩ g1 rfl ?_
          refine en_goto rfl ?_
          refine en_sub [0] rfl rfl ?_
          exact ih _ _ _ h o M' hk
def lp_169_82 : Nat → Nat → AmC → Option (((Nat)) × AmC)
  | 0, _, _ => none
  | n + 1, p0, C => if isK p0 10 = true then (f_166 n p0 (cI C p0 45) C).bind (fun z => match z with | (q35, C36) => (if q35 < (48 : Int32) then some (p0, C36) else (f_166 n p0 (cI C36 p0 45) C36).bind (fun z => match z with | (q39, C40) => (if (57 : Int32) < q39 then some (p0, C40) else (if (4 : Int32) ≤ ((cI C40 p0 45) - (cI C40 p0 46)) then lp_169_82 n p0 (uI (uI C40 p0 49 (99999 : Int32)) p0 45 ((cI (uI C40 p0 49 (99999 : Int32)) p0 45) + (1 : Int32))) else (f_166 n p0 (cI C40 p0 45) C40).bind (fun z => match z with | (q44, C45) => lp_169_82 n p0 (uI (uI C45 p0 49 ((((10 : Int32) * (cI C40 p0 49)) + q44) - (48 : Int32))) p0 45 ((cI (uI C45 p0 49 ((((10 : Int32) * (cI C40 p0 49)) + q44) - (48 : Int32))) p0 45) + (1 : Int32))))))))) else none
set_option maxRecDepth 20000 in
set_option maxHeartbeats 4000000 in
theorem lt_169_82 : ∀ (n : Nat) (p0 : Nat) (C : AmC) (r : ((Nat)) × AmC), lp_169_82 n p0 C = some r → ∀ (o : AmO) (M' : AmM), (match r with
        | (w0, C') => En false 169 123 [(0, .ref w0)] [] (mkM C') o M') → En false 169 82 [(0, .ref p0)] [] (mkM C) o M' := by
  intro n
  induction n with
  | zero => intro p0 C r h; cases h
  | succ n ih =>
    intro p0 C r h o M' hk
    unfold lp_169_82 at h
    refine en_aload rfl rfl ?_
    refine en_aload rfl rfl ?_
    obtain ⟨g34, h⟩ := gd h
    refine ec_getI (ci := 10) (j := 45) ⟨rfl, rfl, rfl⟩ g34 rfl ?_
    obtain ⟨⟨q35, C36⟩, e37, h⟩ := gb h
    dsimp only at h
    refine ec_callV1 (k' := 166) (n := 2) (rc := 10) (a := p0) (as := [.int (cI C p0 45)]) ⟨rfl, rfl⟩ rfl rfl (Nat.le_of_ble_eq_true rfl) (Nat.le_of_ble_eq_true rfl) (Nat.le_of_ble_eq_true rfl) g34 rfl (t_166 e37) ?_
    refine ec_iconst cst_48 rfl ?_
    rcases gi h with ⟨c38, h⟩ | ⟨c38, h⟩
    · refine en_icmp_lt_t c38 rfl ?_
      cases h
      exact en_sub [0] rfl rfl hk
    · refine en_icmp_lt_f c38 rfl ?_
      refine en_aload rfl rfl ?_
      refine en_aload rfl rfl ?_
      refine ec_getI (ci := 10) (j := 45) ⟨rfl, rfl, rfl⟩ g34 rfl ?_
      obtain ⟨⟨q39, C40⟩, e41, h⟩ := gb h
      dsimp only at h
      refine ec_callV1 (k' := 166) (n := 2) (rc := 10) (a := p0) (as := [.int (cI C36 p0 45)]) ⟨rfl, rfl⟩ rfl rfl (Nat.le_of_ble_eq_true rfl) (Nat.le_of_ble_eq_true rfl) (Nat.le_of_ble_eq_true rfl) g34 rfl (t_166 e41) ?_
      refine ec_iconst cst_57 rfl ?_
      rcases gi h with ⟨c42, h⟩ | ⟨c42, h⟩
      · refine en_icmp_gt_t c42 rfl ?_
        cases h
        exact en_sub [0] rfl rfl hk
      · refine en_icmp_gt_f c42 rfl ?_
        refine en_aload rfl rfl ?_
        refine en_aload rfl rfl ?_
        refine ec_getI (ci := 10) (j := 45) ⟨rfl, rfl, rfl⟩ g34 rfl ?_
        refine en_aload rfl rfl ?_
        refine ec_getI (ci := 10) (j := 46) ⟨rfl, rfl, rfl⟩ g34 rfl ?_
        refine en_isub rfl ?_
        refine ec_iconst cst_4 rfl ?_
        rcases gi h with ⟨c43, h⟩ | ⟨c43, h⟩
        · refine en_icmp_ge_t c43 rfl ?_
          refine ec_iconst cst_99999 rfl ?_
          refine ec_putI (ci := 10) (j := 49) ⟨rfl, rfl, rfl⟩ g34 rfl ?_
          refine en_aload rfl rfl ?_
          refine en_dup rfl rfl ?_
          refine ec_getI (ci := 10) (j := 45) ⟨rfl, rfl, rfl⟩ g34 rfl ?_
          refine ec_iconst cst_1 rfl ?_
          refine en_iadd rfl ?_
          refine ec_putI (ci := 10) (j := 45) ⟨rfl, rfl, rfl⟩ g34 rfl ?_
          refine en_goto rfl ?_
          refine en_sub [0] rfl rfl ?_
          exact ih _ _ _ h o M' hk
        · refine en_icmp_ge_f c43 rfl ?_
          refine ec_iconst cst_10 rfl ?_
          refine en_aload rfl rfl ?_
          refine ec_getI (ci := 10) (j := 49) ⟨rfl, rfl, rfl⟩ g34 rfl ?_
          refine en_imul rfl ?_
          refine en_aload rfl rfl ?_
          refine en_aload rfl rfl ?_
          refine ec_getI (ci := 10) (j := 45) ⟨rfl, rfl, rfl⟩ g34 rfl ?_
          obtain ⟨⟨q44, C45⟩, e46, h⟩ := gb h
          dsimp only at h
          refine ec_callV1 (k' := 166) (n := 2) (rc := 10) (a := p0) (as := [.int (cI C40 p0 45)]) ⟨rfl, rfl⟩ rfl rfl (Nat.le_of_ble_eq_true rfl) (Nat.le_of_ble_eq_true rfl) (Nat.le_of_ble_eq_true rfl) g34 rfl (t_166 e46) ?_
          refine en_iadd rfl ?_
          refine ec_iconst cst_48 rfl ?_
          refine en_isub rfl ?_
          refine en_goto rfl ?_
          refine ec_putI (ci := 10) (j := 49) ⟨rfl, rfl, rfl⟩ g34 rfl ?_
          refine en_aload rfl rfl ?_
          refine en_dup rfl rfl ?_
          refine ec_getI (ci := 10) (j := 45) ⟨rfl, rfl, rfl⟩ g34 rfl ?_
          refine ec_iconst cst_1 rfl ?_
          refine en_iadd rfl ?_
          refine ec_putI (ci := 10) (j := 45) ⟨rfl, rfl, rfl⟩ g34 rfl ?_
          refine en_goto rfl ?_
          refine en_sub [0] rfl rfl ?_
          exact ih _ _ _ h o M' hk
def lp_169_51 : Nat → Nat → AmC → Option (((Nat)) × AmC)
  | 0, _, _ => none
  | n + 1, p0, C => if isK p0 10 = true then (f_166 n p0 (cI C p0 45) C).bind (fun z => match z with | (q53, C54) => (f_165 n q53 C54).bind (fun z => match z with | (q56, C57) => (if q56 = 0 then some (p0, C57) else lp_169_51 n p0 (uI C57 p0 45 ((cI C57 p0 45) + (1 : Int32)))))) else none
set_option maxRecDepth 20000 in
set_option maxHeartbeats 4000000 in
theorem lt_169_51 : ∀ (n : Nat) (p0 : Nat) (C : AmC) (r : ((Nat)) × AmC), lp_169_51 n p0 C = some r → ∀ (o : AmO) (M' : AmM), (match r with
        | (w0, C') => En false 169 64 [(0, .ref w0)] [] (mkM C') o M') → En false 169 51 [(0, .ref p0)] [] (mkM C) o M' := by
  intro n
  induction n with
  | zero => intro p0 C r h; cases h
  | succ n ih =>
    intro p0 C r h o M' hk
    unfold lp_169_51 at h
    refine en_aload rfl rfl ?_
    refine en_aload rfl rfl ?_
    obtain ⟨g52, h⟩ := gd h
    refine ec_getI (ci := 10) (j := 45) ⟨rfl, rfl, rfl⟩ g52 rfl ?_
    obtain ⟨⟨q53, C54⟩, e55, h⟩ := gb h
    dsimp only at h
    refine ec_callV1 (k' := 166) (n := 2) (rc := 10) (a := p0) (as := [.int (cI C p0 45)]) ⟨rfl, rfl⟩ rfl rfl (Nat.le_of_ble_eq_true rfl) (Nat.le_of_ble_eq_true rfl) (Nat.le_of_ble_eq_true rfl) g52 rfl (t_166 e55) ?_
    obtain ⟨⟨q56, C57⟩, e58, h⟩ := gb h
    dsimp only at h
    refine ec_callS1 (k' := 165) (n := 1) (as := [.int q53]) rfl rfl rfl (Nat.le_of_ble_eq_true rfl) (Nat.le_of_ble_eq_true rfl) (Nat.le_of_ble_eq_true rfl) rfl (t_165 e58) ?_
    rcases gi h with ⟨c59, h⟩ | ⟨c59, h⟩
    · refine en_if_eq_t c59 rfl ?_
      cases h
      exact en_sub [0] rfl rfl hk
    · refine en_if_eq_f c59 rfl ?_
      refine en_aload rfl rfl ?_
      refine en_dup rfl rfl ?_
      refine ec_getI (ci := 10) (j := 45) ⟨rfl, rfl, rfl⟩ g52 rfl ?_
      refine ec_iconst cst_1 rfl ?_
      refine en_iadd rfl ?_
      refine ec_putI (ci := 10) (j := 45) ⟨rfl, rfl, rfl⟩ g52 rfl ?_
      refine en_goto rfl ?_
      refine en_sub [0] rfl rfl ?_
      exact ih _ _ _ h o M' hk
/-- BulkWriterModel.go()V -/
def f_169 (n : Nat) (a0 : Nat) (C : AmC) : Option (Unit × AmC) := (lp_169_0 n a0 C).bind (fun q => match q with | (u14, C13) => if isK u14 10 = true then (f_166 n u14 (cI (uI C13 u14 46 (cI C13 u14 45)) u14 45) (uI C13 u14 46 (cI C13 u14 45))).bind (fun z => match z with | (q16, C17) => (if (cI (uI (uI C17 u14 50 (-1 : Int32)) u14 49 (0 : Int32)) u14 45) < (cI (uI (uI C17 u14 50 (-1 : Int32)) u14 49 (0 : Int32)) u14 47) then (f_165 n q16 (uI (uI C17 u14 50 (-1 : Int32)) u14 49 (0 : Int32))).bind (fun z => match z with | (q20, C21) => (if q20 = 0 then (if q16 < (48 : Int32) then (f_168 n q16 (uI C21 u14 45 ((cI C21 u14 45) + (1 : Int32)))).bind (fun z => match z with | (q25, C26) => (if q25 = 0 then some ((), uI (uI C26 u14 48 (4 : Int32)) u14 49 q16) else some ((), uI (uI C26 u14 48 (3 : Int32)) u14 49 q16))) else (if (57 : Int32) < q16 then (f_168 n q16 (uI C21 u14 45 ((cI C21 u14 45) + (1 : Int32)))).bind (fun z => match z with | (q30, C31) => (if q30 = 0 then some ((), uI (uI C31 u14 48 (4 : Int32)) u14 49 q16) else some ((), uI (uI C31 u14 48 (3 : Int32)) u14 49 q16))) else (lp_169_82 n u14 C21).bind (fun q => match q with | (u50, C49) => if isK u50 10 = true then some ((), uI C49 u50 48 (2 : Int32)) else none))) else (lp_169_51 n u14 C21).bind (fun q => match q with | (u63, C62) => if isK u63 10 = true then (f_167 n u63 (cI (uI C62 u63 48 (1 : Int32)) u63 46) (cI (uI C62 u63 48 (1 : Int32)) u63 45) (uI C62 u63 48 (1 : Int32))).bind (fun z => match z with | (q65, C66) => some ((), uI C66 u63 50 q65)) else none))) else some ((), uI (uI (uI C17 u14 50 (-1 : Int32)) u14 49 (0 : Int32)) u14 48 (0 : Int32)))) else none)
set_option maxRecDepth 20000 in
set_option maxHeartbeats 4000000 in
theorem t_169 {n : Nat} {a0 : Nat} {C : AmC} {r : Unit} {C' : AmC} (h : f_169 n a0 C = some (r, C')) : En false 169 0 [(0, .ref a0)] [] (mkM C) (.inl none) (mkM C') := by
  unfold f_169 at h
  obtain ⟨⟨q11, C13⟩, e12, h⟩ := gb h
  refine en_sub [0] rfl rfl (lt_169_0 n _ _ _ e12 _ _ ?_)
  revert h e12; revert q11; intro u14 e12 h
  dsimp only at h ⊢
  refine en_aload rfl rfl ?_
  refine en_aload rfl rfl ?_
  obtain ⟨g15, h⟩ := gd h
  refine ec_getI (ci := 10) (j := 45) ⟨rfl, rfl, rfl⟩ g15 rfl ?_
  refine ec_putI (ci := 10) (j := 46) ⟨rfl, rfl, rfl⟩ g15 rfl ?_
  refine en_aload rfl rfl ?_
  refine en_aload rfl rfl ?_
  refine ec_getI (ci := 10) (j := 45) ⟨rfl, rfl, rfl⟩ g15 rfl ?_
  obtain ⟨⟨q16, C17⟩, e18, h⟩ := gb h
  dsimp only at h
  refine ec_callV1 (k' := 166) (n := 2) (rc := 10) (a := u14) (as := [.int (cI (uI C13 u14 46 (cI C13 u14 45)) u14 45)]) ⟨rfl, rfl⟩ rfl rfl (Nat.le_of_ble_eq_true rfl) (Nat.le_of_ble_eq_true rfl) (Nat.le_of_ble_eq_true rfl) g15 rfl (t_166 e18) ?_
  refine en_istore (l' := [(1, .int q16), (0, .ref u14)]) rfl rfl ?_
  refine en_aload rfl rfl ?_
  refine ec_iconst cst_m1 rfl ?_
  refine ec_putI (ci := 10) (j := 50) ⟨rfl, rfl, rfl⟩ g15 rfl ?_
  refine en_aload rfl rfl ?_
  refine ec_iconst cst_0 rfl ?_
  refine ec_putI (ci := 10) (j := 49) ⟨rfl, rfl, rfl⟩ g15 rfl ?_
  refine en_aload rfl rfl ?_
  refine ec_getI (ci := 10) (j := 45) ⟨rfl, rfl, rfl⟩ g15 rfl ?_
  refine en_aload rfl rfl ?_
  refine ec_getI (ci := 10) (j := 47) ⟨rfl, rfl, rfl⟩ g15 rfl ?_
  rcases gi h with ⟨c19, h⟩ | ⟨c19, h⟩
  · refine en_icmp_lt_t c19 rfl ?_
    refine en_iload rfl rfl ?_
    obtain ⟨⟨q20, C21⟩, e22, h⟩ := gb h
    dsimp only at h
    refine ec_callS1 (k' := 165) (n := 1) (as := [.int q16]) rfl rfl rfl (Nat.le_of_ble_eq_true rfl) (Nat.le_of_ble_eq_true rfl) (Nat.le_of_ble_eq_true rfl) rfl (t_165 e22) ?_
    rcases gi h with ⟨c23, h⟩ | ⟨c23, h⟩
    · refine en_if_eq_t c23 rfl ?_
      refine en_iload rfl rfl ?_
      refine ec_iconst cst_48 rfl ?_
      rcases gi h with ⟨c24, h⟩ | ⟨c24, h⟩
      · refine en_icmp_lt_t c24 rfl ?_
        refine en_aload rfl rfl ?_
        refine en_dup rfl rfl ?_
        refine ec_getI (ci := 10) (j := 45) ⟨rfl, rfl, rfl⟩ g15 rfl ?_
        refine ec_iconst cst_1 rfl ?_
        refine en_iadd rfl ?_
        refine ec_putI (ci := 10) (j := 45) ⟨rfl, rfl, rfl⟩ g15 rfl ?_
        refine en_aload rfl rfl ?_
        refine en_iload rfl rfl ?_
        obtain ⟨⟨q25, C26⟩, e27, h⟩ := gb h
        dsimp only at h
        refine ec_callS1 (k' := 168) (n := 1) (as := [.int q16]) rfl rfl rfl (Nat.le_of_ble_eq_true rfl) (Nat.le_of_ble_eq_true rfl) (Nat.le_of_ble_eq_true rfl) rfl (t_168 e27) ?_
        rcases gi h with ⟨c28, h⟩ | ⟨c28, h⟩
        · refine en_if_eq_t c28 rfl ?_
          refine ec_iconst cst_4 rfl ?_
          refine ec_putI (ci := 10) (j := 48) ⟨rfl, rfl, rfl⟩ g15 rfl ?_
          refine en_aload rfl rfl ?_
          refine en_iload rfl rfl ?_
          refine ec_putI (ci := 10) (j := 49) ⟨rfl, rfl, rfl⟩ g15 rfl ?_
          cases h
          exact en_vret rfl
        · refine en_if_eq_f c28 rfl ?_
          refine ec_iconst cst_3 rfl ?_
          refine en_goto rfl ?_
          refine ec_putI (ci := 10) (j := 48) ⟨rfl, rfl, rfl⟩ g15 rfl ?_
          refine en_aload rfl rfl ?_
          refine en_iload rfl rfl ?_
          refine ec_putI (ci := 10) (j := 49) ⟨rfl, rfl, rfl⟩ g15 rfl ?_
          cases h
          exact en_vret rfl
      · refine en_icmp_lt_f c24 rfl ?_
        refine en_iload rfl rfl ?_
        refine ec_iconst cst_57 rfl ?_
        rcases gi h with ⟨c29, h⟩ | ⟨c29, h⟩
        · refine en_icmp_gt_t c29 rfl ?_
          refine en_aload rfl rfl ?_
          refine en_dup rfl rfl ?_
          refine ec_getI (ci := 10) (j := 45) ⟨rfl, rfl, rfl⟩ g15 rfl ?_
          refine ec_iconst cst_1 rfl ?_
          refine en_iadd rfl ?_
          refine ec_putI (ci := 10) (j := 45) ⟨rfl, rfl, rfl⟩ g15 rfl ?_
          refine en_aload rfl rfl ?_
          refine en_iload rfl rfl ?_
          obtain ⟨⟨q30, C31⟩, e32, h⟩ := gb h
          dsimp only at h
          refine ec_callS1 (k' := 168) (n := 1) (as := [.int q16]) rfl rfl rfl (Nat.le_of_ble_eq_true rfl) (Nat.le_of_ble_eq_true rfl) (Nat.le_of_ble_eq_true rfl) rfl (t_168 e32) ?_
          rcases gi h with ⟨c33, h⟩ | ⟨c33, h⟩
          · refine en_if_eq_t c33 rfl ?_
            refine ec_iconst cst_4 rfl ?_
            refine ec_putI (ci := 10) (j := 48) ⟨rfl, rfl, rfl⟩ g15 rfl ?_
            refine en_aload rfl rfl ?_
            refine en_iload rfl rfl ?_
            refine ec_putI (ci := 10) (j := 49) ⟨rfl, rfl, rfl⟩ g15 rfl ?_
            cases h
            exact en_vret rfl
          · refine en_if_eq_f c33 rfl ?_
            refine ec_iconst cst_3 rfl ?_
            refine en_goto rfl ?_
            refine ec_putI (ci := 10) (j := 48) ⟨rfl, rfl, rfl⟩ g15 rfl ?_
            refine en_aload rfl rfl ?_
            refine en_iload rfl rfl ?_
            refine ec_putI (ci := 10) (j := 49) ⟨rfl, rfl, rfl⟩ g15 rfl ?_
            cases h
            exact en_vret rfl
        · refine en_icmp_gt_f c29 rfl ?_
          obtain ⟨⟨q47, C49⟩, e48, h⟩ := gb h
          refine en_sub [1] rfl rfl (lt_169_82 n _ _ _ e48 _ _ ?_)
          revert h e48; revert q47; intro u50 e48 h
          dsimp only at h ⊢
          refine en_aload rfl rfl ?_
          refine ec_iconst cst_2 rfl ?_
          obtain ⟨g51, h⟩ := gd h
          refine ec_putI (ci := 10) (j := 48) ⟨rfl, rfl, rfl⟩ g51 rfl ?_
          refine en_goto rfl ?_
          cases h
          exact en_vret rfl
    · refine en_if_eq_f c23 rfl ?_
      obtain ⟨⟨q60, C62⟩, e61, h⟩ := gb h
      refine en_sub [1] rfl rfl (lt_169_51 n _ _ _ e61 _ _ ?_)
      revert h e61; revert q60; intro u63 e61 h
      dsimp only at h ⊢
      refine en_aload rfl rfl ?_
      refine ec_iconst cst_1 rfl ?_
      obtain ⟨g64, h⟩ := gd h
      refine ec_putI (ci := 10) (j := 48) ⟨rfl, rfl, rfl⟩ g64 rfl ?_
      refine en_aload rfl rfl ?_
      refine en_aload rfl rfl ?_
      refine en_aload rfl rfl ?_
      refine ec_getI (ci := 10) (j := 46) ⟨rfl, rfl, rfl⟩ g64 rfl ?_
      refine en_aload rfl rfl ?_
      refine ec_getI (ci := 10) (j := 45) ⟨rfl, rfl, rfl⟩ g64 rfl ?_
      obtain ⟨⟨q65, C66⟩, e67, h⟩ := gb h
      dsimp only at h
      refine ec_callV1 (k' := 167) (n := 3) (rc := 10) (a := u63) (as := [.int (cI (uI C62 u63 48 (1 : Int32)) u63 46), .int (cI (uI C62 u63 48 (1 : Int32)) u63 45)]) ⟨rfl, rfl⟩ rfl rfl (Nat.le_of_ble_eq_true rfl) (Nat.le_of_ble_eq_true rfl) (Nat.le_of_ble_eq_true rfl) g64 rfl (t_167 e67) ?_
      refine ec_putI (ci := 10) (j := 50) ⟨rfl, rfl, rfl⟩ g64 rfl ?_
      refine en_goto rfl ?_
      cases h
      exact en_vret rfl
  · refine en_icmp_lt_f c19 rfl ?_
    refine en_aload rfl rfl ?_
    refine ec_iconst cst_0 rfl ?_
    refine ec_putI (ci := 10) (j := 48) ⟨rfl, rfl, rfl⟩ g15 rfl ?_
    refine en_goto rfl ?_
    cases h
    exact en_vret rfl
/-- BulkWriterModel.wants(ZI)Z -/
def f_170 (n : Nat) (a0 : Nat) (a1 : Int32) (a2 : Int32) (C : AmC) : Option (Int32 × AmC) := if isK a0 10 = true then (if ¬ (cI C a0 51) = 0 then (if ¬ (cI C a0 51) = 0 then some ((0 : Int32), C) else some ((1 : Int32), C)) else (if ¬ a1 = 0 then (if ¬ (cI C a0 51) = 0 then some ((0 : Int32), C) else some ((1 : Int32), C)) else (if ¬ (cI (uI (uI C a0 51 a2) a0 44 (cI (uI C a0 51 a2) a0 46)) a0 51) = 0 then some ((0 : Int32), uI (uI C a0 51 a2) a0 44 (cI (uI C a0 51 a2) a0 46)) else some ((1 : Int32), uI (uI C a0 51 a2) a0 44 (cI (uI C a0 51 a2) a0 46))))) else none
set_option maxRecDepth 20000 in
set_option maxHeartbeats 4000000 in
theorem t_170 {n : Nat} {a0 : Nat} {a1 : Int32} {a2 : Int32} {C : AmC} {r : Int32} {C' : AmC} (h : f_170 n a0 a1 a2 C = some (r, C')) : En false 170 0 [(0, .ref a0), (1, .int a1), (2, .int a2)] [] (mkM C) (.inl (some (.int r))) (mkM C') := by
  unfold f_170 at h
  refine en_aload rfl rfl ?_
  obtain ⟨g1, h⟩ := gd h
  refine ec_getI (ci := 10) (j := 51) ⟨rfl, rfl, rfl⟩ g1 rfl ?_
  rcases gi h with ⟨c2, h⟩ | ⟨c2, h⟩
  · refine en_if_ne_t c2 rfl ?_
    refine en_aload rfl rfl ?_
    refine ec_getI (ci := 10) (j := 51) ⟨rfl, rfl, rfl⟩ g1 rfl ?_
    rcases gi h with ⟨c3, h⟩ | ⟨c3, h⟩
    · refine en_if_ne_t c3 rfl ?_
      refine ec_iconst cst_0 rfl ?_
      cases h
      exact en_zret (Or.inl rfl) rfl
    · refine en_if_ne_f c3 rfl ?_
      refine ec_iconst cst_1 rfl ?_
      refine en_goto rfl ?_
      cases h
      exact en_zret (Or.inr rfl) rfl
  · refine en_if_ne_f c2 rfl ?_
    refine en_iload rfl rfl ?_
    rcases gi h with ⟨c4, h⟩ | ⟨c4, h⟩
    · refine en_if_ne_t c4 rfl ?_
      refine en_aload rfl rfl ?_
      refine ec_getI (ci := 10) (j := 51) ⟨rfl, rfl, rfl⟩ g1 rfl ?_
      rcases gi h with ⟨c5, h⟩ | ⟨c5, h⟩
      · refine en_if_ne_t c5 rfl ?_
        refine ec_iconst cst_0 rfl ?_
        cases h
        exact en_zret (Or.inl rfl) rfl
      · refine en_if_ne_f c5 rfl ?_
        refine ec_iconst cst_1 rfl ?_
        refine en_goto rfl ?_
        cases h
        exact en_zret (Or.inr rfl) rfl
    · refine en_if_ne_f c4 rfl ?_
      refine en_aload rfl rfl ?_
      refine en_iload rfl rfl ?_
      refine ec_putI (ci := 10) (j := 51) ⟨rfl, rfl, rfl⟩ g1 rfl ?_
      refine en_aload rfl rfl ?_
      refine en_aload rfl rfl ?_
      refine ec_getI (ci := 10) (j := 46) ⟨rfl, rfl, rfl⟩ g1 rfl ?_
      refine ec_putI (ci := 10) (j := 44) ⟨rfl, rfl, rfl⟩ g1 rfl ?_
      refine en_aload rfl rfl ?_
      refine ec_getI (ci := 10) (j := 51) ⟨rfl, rfl, rfl⟩ g1 rfl ?_
      rcases gi h with ⟨c6, h⟩ | ⟨c6, h⟩
      · refine en_if_ne_t c6 rfl ?_
        refine ec_iconst cst_0 rfl ?_
        cases h
        exact en_zret (Or.inl rfl) rfl
      · refine en_if_ne_f c6 rfl ?_
        refine ec_iconst cst_1 rfl ?_
        refine en_goto rfl ?_
        cases h
        exact en_zret (Or.inr rfl) rfl
/-- BulkWriterModel.is(I)Z -/
def f_171 (n : Nat) (a0 : Nat) (a1 : Int32) (C : AmC) : Option (Int32 × AmC) := if isK a0 10 = true then (if ¬ (cI C a0 51) = 0 then some ((0 : Int32), C) else (if ¬ (cI C a0 48) = (1 : Int32) then some ((0 : Int32), C) else (if ¬ (cI C a0 50) = a1 then some ((0 : Int32), C) else some ((1 : Int32), C)))) else none
set_option maxRecDepth 20000 in
set_option maxHeartbeats 4000000 in
theorem t_171 {n : Nat} {a0 : Nat} {a1 : Int32} {C : AmC} {r : Int32} {C' : AmC} (h : f_171 n a0 a1 C = some (r, C')) : En false 171 0 [(0, .ref a0), (1, .int a1)] [] (mkM C) (.inl (some (.int r))) (mkM C') := by
  unfold f_171 at h
  refine en_aload rfl rfl ?_
  obtain ⟨g1, h⟩ := gd h
  refine ec_getI (ci := 10) (j := 51) ⟨rfl, rfl, rfl⟩ g1 rfl ?_
  rcases gi h with ⟨c2, h⟩ | ⟨c2, h⟩
  · refine en_if_ne_t c2 rfl ?_
    refine ec_iconst cst_0 rfl ?_
    cases h
    exact en_zret (Or.inl rfl) rfl
  · refine en_if_ne_f c2 rfl ?_
    refine en_aload rfl rfl ?_
    refine ec_getI (ci := 10) (j := 48) ⟨rfl, rfl, rfl⟩ g1 rfl ?_
    refine ec_iconst cst_1 rfl ?_
    rcases gi h with ⟨c3, h⟩ | ⟨c3, h⟩
    · refine en_icmp_ne_t c3 rfl ?_
      refine ec_iconst cst_0 rfl ?_
      cases h
      exact en_zret (Or.inl rfl) rfl
    · refine en_icmp_ne_f c3 rfl ?_
      refine en_aload rfl rfl ?_
      refine ec_getI (ci := 10) (j := 50) ⟨rfl, rfl, rfl⟩ g1 rfl ?_
      refine en_iload rfl rfl ?_
      rcases gi h with ⟨c4, h⟩ | ⟨c4, h⟩
      · refine en_icmp_ne_t c4 rfl ?_
        refine ec_iconst cst_0 rfl ?_
        cases h
        exact en_zret (Or.inl rfl) rfl
      · refine en_icmp_ne_f c4 rfl ?_
        refine ec_iconst cst_1 rfl ?_
        refine en_goto rfl ?_
        cases h
        exact en_zret (Or.inr rfl) rfl
/-- BulkWriterModel.isSignHere(I)Z -/
def f_172 (n : Nat) (a0 : Nat) (a1 : Int32) (C : AmC) : Option (Int32 × AmC) := if isK a0 10 = true then (if ¬ (cI C a0 51) = 0 then some ((0 : Int32), C) else (if ¬ (cI C a0 48) = (3 : Int32) then some ((0 : Int32), C) else (if ¬ (cI C a0 49) = a1 then some ((0 : Int32), C) else some ((1 : Int32), C)))) else none
set_option maxRecDepth 20000 in
set_option maxHeartbeats 4000000 in
theorem t_172 {n : Nat} {a0 : Nat} {a1 : Int32} {C : AmC} {r : Int32} {C' : AmC} (h : f_172 n a0 a1 C = some (r, C')) : En false 172 0 [(0, .ref a0), (1, .int a1)] [] (mkM C) (.inl (some (.int r))) (mkM C') := by
  unfold f_172 at h
  refine en_aload rfl rfl ?_
  obtain ⟨g1, h⟩ := gd h
  refine ec_getI (ci := 10) (j := 51) ⟨rfl, rfl, rfl⟩ g1 rfl ?_
  rcases gi h with ⟨c2, h⟩ | ⟨c2, h⟩
  · refine en_if_ne_t c2 rfl ?_
    refine ec_iconst cst_0 rfl ?_
    cases h
    exact en_zret (Or.inl rfl) rfl
  · refine en_if_ne_f c2 rfl ?_
    refine en_aload rfl rfl ?_
    refine ec_getI (ci := 10) (j := 48) ⟨rfl, rfl, rfl⟩ g1 rfl ?_
    refine ec_iconst cst_3 rfl ?_
    rcases gi h with ⟨c3, h⟩ | ⟨c3, h⟩
    · refine en_icmp_ne_t c3 rfl ?_
      refine ec_iconst cst_0 rfl ?_
      cases h
      exact en_zret (Or.inl rfl) rfl
    · refine en_icmp_ne_f c3 rfl ?_
      refine en_aload rfl rfl ?_
      refine ec_getI (ci := 10) (j := 49) ⟨rfl, rfl, rfl⟩ g1 rfl ?_
      refine en_iload rfl rfl ?_
      rcases gi h with ⟨c4, h⟩ | ⟨c4, h⟩
      · refine en_icmp_ne_t c4 rfl ?_
        refine ec_iconst cst_0 rfl ?_
        cases h
        exact en_zret (Or.inl rfl) rfl
      · refine en_icmp_ne_f c4 rfl ?_
        refine ec_iconst cst_1 rfl ?_
        refine en_goto rfl ?_
        cases h
        exact en_zret (Or.inr rfl) rfl
/-- BulkWriterModel.passes(I)V -/
def f_173 (n : Nat) (a0 : Nat) (a1 : Int32) (C : AmC) : Option (Unit × AmC) := if isK a0 10 = true then (f_172 n a0 a1 C).bind (fun z => match z with | (q2, C3) => (f_170 n a0 q2 (1 : Int32) C3).bind (fun z => match z with | (q5, C6) => (if q5 = 0 then some ((), C6) else (f_169 n a0 C6).bind (fun z => match z with | (_, C10) => some ((), C10))))) else none
set_option maxRecDepth 20000 in
set_option maxHeartbeats 4000000 in
theorem t_173 {n : Nat} {a0 : Nat} {a1 : Int32} {C : AmC} {r : Unit} {C' : AmC} (h : f_173 n a0 a1 C = some (r, C')) : En false 173 0 [(0, .ref a0), (1, .int a1)] [] (mkM C) (.inl none) (mkM C') := by
  unfold f_173 at h
  refine en_aload rfl rfl ?_
  refine en_aload rfl rfl ?_
  refine en_iload rfl rfl ?_
  obtain ⟨g1, h⟩ := gd h
  obtain ⟨⟨q2, C3⟩, e4, h⟩ := gb h
  dsimp only at h
  refine ec_callV1 (k' := 172) (n := 2) (rc := 10) (a := a0) (as := [.int a1]) ⟨rfl, rfl⟩ rfl rfl (Nat.le_of_ble_eq_true rfl) (Nat.le_of_ble_eq_true rfl) (Nat.le_of_ble_eq_true rfl) g1 rfl (t_172 e4) ?_
  refine ec_iconst cst_1 rfl ?_
  obtain ⟨⟨q5, C6⟩, e7, h⟩ := gb h
  dsimp only at h
  refine ec_callV1 (k' := 170) (n := 3) (rc := 10) (a := a0) (as := [.int q2, .int (1 : Int32)]) ⟨rfl, rfl⟩ rfl rfl (Nat.le_of_ble_eq_true rfl) (Nat.le_of_ble_eq_true rfl) (Nat.le_of_ble_eq_true rfl) g1 rfl (t_170 e7) ?_
  rcases gi h with ⟨c8, h⟩ | ⟨c8, h⟩
  · refine en_if_eq_t c8 rfl ?_
    cases h
    exact en_vret rfl
  · refine en_if_eq_f c8 rfl ?_
    refine en_aload rfl rfl ?_
    obtain ⟨⟨q9, C10⟩, e11, h⟩ := gb h
    dsimp only at h
    refine ec_callV0 (k' := 169) (n := 1) (rc := 10) (a := a0) (as := []) ⟨rfl, rfl⟩ rfl rfl (Nat.le_of_ble_eq_true rfl) (Nat.le_of_ble_eq_true rfl) (Nat.le_of_ble_eq_true rfl) g1 rfl (t_169 e11) ?_
    cases h
    exact en_vret rfl
/-- BulkWriterModel.signed()I -/
def f_174 (n : Nat) (a0 : Nat) (C : AmC) : Option (Int32 × AmC) := if isK a0 10 = true then (f_172 n a0 (45 : Int32) C).bind (fun z => match z with | (q2, C3) => (if q2 = 0 then (if ¬ (cI C3 a0 48) = (2 : Int32) then (f_170 n a0 (0 : Int32) (1 : Int32) C3).bind (fun z => match z with | (q7, C8) => (if q7 = 0 then some ((0 : Int32), C8) else (if (9999 : Int32) < (cI C8 a0 49) then (f_170 n a0 (0 : Int32) (2 : Int32) C8).bind (fun z => match z with | (q12, C13) => (if ¬ q12 = 0 then (if q2 = 0 then (f_169 n a0 C13).bind (fun z => match z with | (_, C18) => some ((cI C13 a0 49), C18)) else (f_169 n a0 C13).bind (fun z => match z with | (_, C21) => some ((-(cI C13 a0 49)), C21))) else some ((0 : Int32), C13))) else (f_170 n a0 (1 : Int32) (2 : Int32) C8).bind (fun z => match z with | (q23, C24) => (if ¬ q23 = 0 then (if q2 = 0 then (f_169 n a0 C24).bind (fun z => match z with | (_, C29) => some ((cI C24 a0 49), C29)) else (f_169 n a0 C24).bind (fun z => match z with | (_, C32) => some ((-(cI C24 a0 49)), C32))) else some ((0 : Int32), C24)))))) else (f_170 n a0 (1 : Int32) (1 : Int32) C3).bind (fun z => match z with | (q34, C35) => (if q34 = 0 then some ((0 : Int32), C35) else (if (9999 : Int32) < (cI C35 a0 49) then (f_170 n a0 (0 : Int32) (2 : Int32) C35).bind (fun z => match z with | (q39, C40) => (if ¬ q39 = 0 then (if q2 = 0 then (f_169 n a0 C40).bind (fun z => match z with | (_, C45) => some ((cI C40 a0 49), C45)) else (f_169 n a0 C40).bind (fun z => match z with | (_, C48) => some ((-(cI C40 a0 49)), C48))) else some ((0 : Int32), C40))) else (f_170 n a0 (1 : Int32) (2 : Int32) C35).bind (fun z => match z with | (q50, C51) => (if ¬ q50 = 0 then (if q2 = 0 then (f_169 n a0 C51).bind (fun z => match z with | (_, C56) => some ((cI C51 a0 49), C56)) else (f_169 n a0 C51).bind (fun z => match z with | (_, C59) => some ((-(cI C51 a0 49)), C59))) else some ((0 : Int32), C51))))))) else (f_169 n a0 C3).bind (fun z => match z with | (_, C62) => (if ¬ (cI C62 a0 48) = (2 : Int32) then (f_170 n a0 (0 : Int32) (1 : Int32) C62).bind (fun z => match z with | (q65, C66) => (if q65 = 0 then some ((0 : Int32), C66) else (if (9999 : Int32) < (cI C66 a0 49) then (f_170 n a0 (0 : Int32) (2 : Int32) C66).bind (fun z => match z with | (q70, C71) => (if ¬ q70 = 0 then (if q2 = 0 then (f_169 n a0 C71).bind (fun z => match z with | (_, C76) => some ((cI C71 a0 49), C76)) else (f_169 n a0 C71).bind (fun z => match z with | (_, C79) => some ((-(cI C71 a0 49)), C79))) else some ((0 : Int32), C71))) else (f_170 n a0 (1 : Int32) (2 : Int32) C66).bind (fun z => match z with | (q81, C82) => (if ¬ q81 = 0 then (if q2 = 0 then (f_169 n a0 C82).bind (fun z => match z with | (_, C87) => some ((cI C82 a0 49), C87)) else (f_169 n a0 C82).bind (fun z => match z with | (_, C90) => some ((-(cI C82 a0 49)), C90))) else some ((0 : Int32), C82)))))) else (f_170 n a0 (1 : Int32) (1 : Int32) C62).bind (fun z => match z with | (q92, C93) => (if q92 = 0 then some ((0 : Int32), C93) else (if (9999 : Int32) < (cI C93 a0 49) then (f_170 n a0 (0 : Int32) (2 : Int32) C93).bind (fun z => match z with | (q97, C98) => (if ¬ q97 = 0 then (if q2 = 0 then (f_169 n a0 C98).bind (fun z => match z with | (_, C103) => some ((cI C98 a0 49), C103)) else (f_169 n a0 C98).bind (fun z => match z with | (_, C106) => some ((-(cI C98 a0 49)), C106))) else some ((0 : Int32), C98))) else (f_170 n a0 (1 : Int32) (2 : Int32) C93).bind (fun z => match z with | (q108, C109) => (if ¬ q108 = 0 then (if q2 = 0 then (f_169 n a0 C109).bind (fun z => match z with | (_, C114) => some ((cI C109 a0 49), C114)) else (f_169 n a0 C109).bind (fun z => match z with | (_, C117) => some ((-(cI C109 a0 49)), C117))) else some ((0 : Int32), C109)))))))))) else none
set_option maxRecDepth 20000 in
set_option maxHeartbeats 4000000 in
theorem t_174 {n : Nat} {a0 : Nat} {C : AmC} {r : Int32} {C' : AmC} (h : f_174 n a0 C = some (r, C')) : En false 174 0 [(0, .ref a0)] [] (mkM C) (.inl (some (.int r))) (mkM C') := by
  unfold f_174 at h
  refine en_aload rfl rfl ?_
  refine ec_iconst cst_45 rfl ?_
  obtain ⟨g1, h⟩ := gd h
  obtain ⟨⟨q2, C3⟩, e4, h⟩ := gb h
  dsimp only at h
  refine ec_callV1 (k' := 172) (n := 2) (rc := 10) (a := a0) (as := [.int (45 : Int32)]) ⟨rfl, rfl⟩ rfl rfl (Nat.le_of_ble_eq_true rfl) (Nat.le_of_ble_eq_true rfl) (Nat.le_of_ble_eq_true rfl) g1 rfl (t_172 e4) ?_
  refine en_istore (l' := [(1, .int q2), (0, .ref a0)]) rfl rfl ?_
  refine en_iload rfl rfl ?_
  rcases gi h with ⟨c5, h⟩ | ⟨c5, h⟩
  · refine en_if_eq_t c5 rfl ?_
    refine en_aload rfl rfl ?_
    refine en_aload rfl rfl ?_
    refine ec_getI (ci := 10) (j := 48) ⟨rfl, rfl, rfl⟩ g1 rfl ?_
    refine ec_iconst cst_2 rfl ?_
    rcases gi h with ⟨c6, h⟩ | ⟨c6, h⟩
    · refine en_icmp_ne_t c6 rfl ?_
      refine ec_iconst cst_0 rfl ?_
      refine ec_iconst cst_1 rfl ?_
      obtain ⟨⟨q7, C8⟩, e9, h⟩ := gb h
      dsimp only at h
      refine ec_callV1 (k' := 170) (n := 3) (rc := 10) (a := a0) (as := [.int (0 : Int32), .int (1 : Int32)]) ⟨rfl, rfl⟩ rfl rfl (Nat.le_of_ble_eq_true rfl) (Nat.le_of_ble_eq_true rfl) (Nat.le_of_ble_eq_true rfl) g1 rfl (t_170 e9) ?_
      rcases gi h with ⟨c10, h⟩ | ⟨c10, h⟩
      · refine en_if_eq_t c10 rfl ?_
        refine ec_iconst cst_0 rfl ?_
        cases h
        exact en_iret rfl
      · refine en_if_eq_f c10 rfl ?_
        refine en_aload rfl rfl ?_
        refine en_aload rfl rfl ?_
        refine ec_getI (ci := 10) (j := 49) ⟨rfl, rfl, rfl⟩ g1 rfl ?_
        refine ec_iconst cst_9999 rfl ?_
        rcases gi h with ⟨c11, h⟩ | ⟨c11, h⟩
        · refine en_icmp_gt_t c11 rfl ?_
          refine ec_iconst cst_0 rfl ?_
          refine ec_iconst cst_2 rfl ?_
          obtain ⟨⟨q12, C13⟩, e14, h⟩ := gb h
          dsimp only at h
          refine ec_callV1 (k' := 170) (n := 3) (rc := 10) (a := a0) (as := [.int (0 : Int32), .int (2 : Int32)]) ⟨rfl, rfl⟩ rfl rfl (Nat.le_of_ble_eq_true rfl) (Nat.le_of_ble_eq_true rfl) (Nat.le_of_ble_eq_true rfl) g1 rfl (t_170 e14) ?_
          rcases gi h with ⟨c15, h⟩ | ⟨c15, h⟩
          · refine en_if_ne_t c15 rfl ?_
            refine en_iload rfl rfl ?_
            rcases gi h with ⟨c16, h⟩ | ⟨c16, h⟩
            · refine en_if_eq_t c16 rfl ?_
              refine en_aload rfl rfl ?_
              refine ec_getI (ci := 10) (j := 49) ⟨rfl, rfl, rfl⟩ g1 rfl ?_
              refine en_istore (l' := [(2, .int (cI C13 a0 49)), (1, .int q2), (0, .ref a0)]) rfl rfl ?_
              refine en_aload rfl rfl ?_
              obtain ⟨⟨q17, C18⟩, e19, h⟩ := gb h
              dsimp only at h
              refine ec_callV0 (k' := 169) (n := 1) (rc := 10) (a := a0) (as := []) ⟨rfl, rfl⟩ rfl rfl (Nat.le_of_ble_eq_true rfl) (Nat.le_of_ble_eq_true rfl) (Nat.le_of_ble_eq_true rfl) g1 rfl (t_169 e19) ?_
              refine en_iload rfl rfl ?_
              cases h
              exact en_iret rfl
            · refine en_if_eq_f c16 rfl ?_
              refine en_aload rfl rfl ?_
              refine ec_getI (ci := 10) (j := 49) ⟨rfl, rfl, rfl⟩ g1 rfl ?_
              refine en_ineg rfl ?_
              refine en_goto rfl ?_
              refine en_istore (l' := [(2, .int (-(cI C13 a0 49))), (1, .int q2), (0, .ref a0)]) rfl rfl ?_
              refine en_aload rfl rfl ?_
              obtain ⟨⟨q20, C21⟩, e22, h⟩ := gb h
              dsimp only at h
              refine ec_callV0 (k' := 169) (n := 1) (rc := 10) (a := a0) (as := []) ⟨rfl, rfl⟩ rfl rfl (Nat.le_of_ble_eq_true rfl) (Nat.le_of_ble_eq_true rfl) (Nat.le_of_ble_eq_true rfl) g1 rfl (t_169 e22) ?_
              refine en_iload rfl rfl ?_
              cases h
              exact en_iret rfl
          · refine en_if_ne_f c15 rfl ?_
            refine ec_iconst cst_0 rfl ?_
            cases h
            exact en_iret rfl
        · refine en_icmp_gt_f c11 rfl ?_
          refine ec_iconst cst_1 rfl ?_
          refine en_goto rfl ?_
          refine ec_iconst cst_2 rfl ?_
          obtain ⟨⟨q23, C24⟩, e25, h⟩ := gb h
          dsimp only at h
          refine ec_callV1 (k' := 170) (n := 3) (rc := 10) (a := a0) (as := [.int (1 : Int32), .int (2 : Int32)]) ⟨rfl, rfl⟩ rfl rfl (Nat.le_of_ble_eq_true rfl) (Nat.le_of_ble_eq_true rfl) (Nat.le_of_ble_eq_true rfl) g1 rfl (t_170 e25) ?_
          rcases gi h with ⟨c26, h⟩ | ⟨c26, h⟩
          · refine en_if_ne_t c26 rfl ?_
            refine en_iload rfl rfl ?_
            rcases gi h with ⟨c27, h⟩ | ⟨c27, h⟩
            · refine en_if_eq_t c27 rfl ?_
              refine en_aload rfl rfl ?_
              refine ec_getI (ci := 10) (j := 49) ⟨rfl, rfl, rfl⟩ g1 rfl ?_
              refine en_istore (l' := [(2, .int (cI C24 a0 49)), (1, .int q2), (0, .ref a0)]) rfl rfl ?_
              refine en_aload rfl rfl ?_
              obtain ⟨⟨q28, C29⟩, e30, h⟩ := gb h
              dsimp only at h
              refine ec_callV0 (k' := 169) (n := 1) (rc := 10) (a := a0) (as := []) ⟨rfl, rfl⟩ rfl rfl (Nat.le_of_ble_eq_true rfl) (Nat.le_of_ble_eq_true rfl) (Nat.le_of_ble_eq_true rfl) g1 rfl (t_169 e30) ?_
              refine en_iload rfl rfl ?_
              cases h
              exact en_iret rfl
            · refine en_if_eq_f c27 rfl ?_
              refine en_aload rfl rfl ?_
              refine ec_getI (ci := 10) (j := 49) ⟨rfl, rfl, rfl⟩ g1 rfl ?_
              refine en_ineg rfl ?_
              refine en_goto rfl ?_
              refine en_istore (l' := [(2, .int (-(cI C24 a0 49))), (1, .int q2), (0, .ref a0)]) rfl rfl ?_
              refine en_aload rfl rfl ?_
              obtain ⟨⟨q31, C32⟩, e33, h⟩ := gb h
              dsimp only at h
              refine ec_callV0 (k' := 169) (n := 1) (rc := 10) (a := a0) (as := []) ⟨rfl, rfl⟩ rfl rfl (Nat.le_of_ble_eq_true rfl) (Nat.le_of_ble_eq_true rfl) (Nat.le_of_ble_eq_true rfl) g1 rfl (t_169 e33) ?_
              refine en_iload rfl rfl ?_
              cases h
              exact en_iret rfl
          · refine en_if_ne_f c26 rfl ?_
            refine ec_iconst cst_0 rfl ?_
            cases h
            exact en_iret rfl
    · refine en_icmp_ne_f c6 rfl ?_
      refine ec_iconst cst_1 rfl ?_
      refine en_goto rfl ?_
      refine ec_iconst cst_1 rfl ?_
      obtain ⟨⟨q34, C35⟩, e36, h⟩ := gb h
      dsimp only at h
      refine ec_callV1 (k' := 170) (n := 3) (rc := 10) (a := a0) (as := [.int (1 : Int32), .int (1 : Int32)]) ⟨rfl, rfl⟩ rfl rfl (Nat.le_of_ble_eq_true rfl) (Nat.le_of_ble_eq_true rfl) (Nat.le_of_ble_eq_true rfl) g1 rfl (t_170 e36) ?_
      rcases gi h with ⟨c37, h⟩ | ⟨c37, h⟩
      · refine en_if_eq_t c37 rfl ?_
        refine ec_iconst cst_0 rfl ?_
        cases h
        exact en_iret rfl
      · refine en_if_eq_f c37 rfl ?_
        refine en_aload rfl rfl ?_
        refine en_aload rfl rfl ?_
        refine ec_getI (ci := 10) (j := 49) ⟨rfl, rfl, rfl⟩ g1 rfl ?_
        refine ec_iconst cst_9999 rfl ?_
        rcases gi h with ⟨c38, h⟩ | ⟨c38, h⟩
        · refine en_icmp_gt_t c38 rfl ?_
          refine ec_iconst cst_0 rfl ?_
          refine ec_iconst cst_2 rfl ?_
          obtain ⟨⟨q39, C40⟩, e41, h⟩ := gb h
          dsimp only at h
          refine ec_callV1 (k' := 170) (n := 3) (rc := 10) (a := a0) (as := [.int (0 : Int32), .int (2 : Int32)]) ⟨rfl, rfl⟩ rfl rfl (Nat.le_of_ble_eq_true rfl) (Nat.le_of_ble_eq_true rfl) (Nat.le_of_ble_eq_true rfl) g1 rfl (t_170 e41) ?_
          rcases gi h with ⟨c42, h⟩ | ⟨c42, h⟩
          · refine en_if_ne_t c42 rfl ?_
            refine en_iload rfl rfl ?_
            rcases gi h with ⟨c43, h⟩ | ⟨c43, h⟩
            · refine en_if_eq_t c43 rfl ?_
              refine en_aload rfl rfl ?_
              refine ec_getI (ci := 10) (j := 49) ⟨rfl, rfl, rfl⟩ g1 rfl ?_
              refine en_istore (l' := [(2, .int (cI C40 a0 49)), (1, .int q2), (0, .ref a0)]) rfl rfl ?_
              refine en_aload rfl rfl ?_
              obtain ⟨⟨q44, C45⟩, e46, h⟩ := gb h
              dsimp only at h
              refine ec_callV0 (k' := 169) (n := 1) (rc := 10) (a := a0) (as := []) ⟨rfl, rfl⟩ rfl rfl (Nat.le_of_ble_eq_true rfl) (Nat.le_of_ble_eq_true rfl) (Nat.le_of_ble_eq_true rfl) g1 rfl (t_169 e46) ?_
              refine en_iload rfl rfl ?_
              cases h
              exact en_iret rfl
            · refine en_if_eq_f c43 rfl ?_
              refine en_aload rfl rfl ?_
              refine ec_getI (ci := 10) (j := 49) ⟨rfl, rfl, rfl⟩ g1 rfl ?_
              refine en_ineg rfl ?_
              refine en_goto rfl ?_
              refine en_istore (l' := [(2, .int (-(cI C40 a0 49))), (1, .int q2), (0, .ref a0)]) rfl rfl ?_
              refine en_aload rfl rfl ?_
              obtain ⟨⟨q47, C48⟩, e49, h⟩ := gb h
              dsimp only at h
              refine ec_callV0 (k' := 169) (n := 1) (rc := 10) (a := a0) (as := []) ⟨rfl, rfl⟩ rfl rfl (Nat.le_of_ble_eq_true rfl) (Nat.le_of_ble_eq_true rfl) (Nat.le_of_ble_eq_true rfl) g1 rfl (t_169 e49) ?_
              refine en_iload rfl rfl ?_
              cases h
              exact en_iret rfl
          · refine en_if_ne_f c42 rfl ?_
            refine ec_iconst cst_0 rfl ?_
            cases h
            exact en_iret rfl
        · refine en_icmp_gt_f c38 rfl ?_
          refine ec_iconst cst_1 rfl ?_
          refine en_goto rfl ?_
          refine ec_iconst cst_2 rfl ?_
          obtain ⟨⟨q50, C51⟩, e52, h⟩ := gb h
          dsimp only at h
          refine ec_callV1 (k' := 170) (n := 3) (rc := 10) (a := a0) (as := [.int (1 : Int32), .int (2 : Int32)]) ⟨rfl, rfl⟩ rfl rfl (Nat.le_of_ble_eq_true rfl) (Nat.le_of_ble_eq_true rfl) (Nat.le_of_ble_eq_true rfl) g1 rfl (t_170 e52) ?_
          rcases gi h with ⟨c53, h⟩ | ⟨c53, h⟩
          · refine en_if_ne_t c53 rfl ?_
            refine en_iload rfl rfl ?_
            rcases gi h with ⟨c54, h⟩ | ⟨c54, h⟩
            · refine en_if_eq_t c54 rfl ?_
              refine en_aload rfl rfl ?_
              refine ec_getI (ci := 10) (j := 49) ⟨rfl, rfl, rfl⟩ g1 rfl ?_
              refine en_istore (l' := [(2, .int (cI C51 a0 49)), (1, .int q2), (0, .ref a0)]) rfl rfl ?_
              refine en_aload rfl rfl ?_
              obtain ⟨⟨q55, C56⟩, e57, h⟩ := gb h
              dsimp only at h
              refine ec_callV0 (k' := 169) (n := 1) (rc := 10) (a := a0) (as := []) ⟨rfl, rfl⟩ rfl rfl (Nat.le_of_ble_eq_true rfl) (Nat.le_of_ble_eq_true rfl) (Nat.le_of_ble_eq_true rfl) g1 rfl (t_169 e57) ?_
              refine en_iload rfl rfl ?_
              cases h
              exact en_iret rfl
            · refine en_if_eq_f c54 rfl ?_
              refine en_aload rfl rfl ?_
              refine ec_getI (ci := 10) (j := 49) ⟨rfl, rfl, rfl⟩ g1 rfl ?_
              refine en_ineg rfl ?_
              refine en_goto rfl ?_
              refine en_istore (l' := [(2, .int (-(cI C51 a0 49))), (1, .int q2), (0, .ref a0)]) rfl rfl ?_
              refine en_aload rfl rfl ?_
              obtain ⟨⟨q58, C59⟩, e60, h⟩ := gb h
              dsimp only at h
              refine ec_callV0 (k' := 169) (n := 1) (rc := 10) (a := a0) (as := []) ⟨rfl, rfl⟩ rfl rfl (Nat.le_of_ble_eq_true rfl) (Nat.le_of_ble_eq_true rfl) (Nat.le_of_ble_eq_true rfl) g1 rfl (t_169 e60) ?_
              refine en_iload rfl rfl ?_
              cases h
              exact en_iret rfl
          · refine en_if_ne_f c53 rfl ?_
            refine ec_iconst cst_0 rfl ?_
            cases h
            exact en_iret rfl
  · refine en_if_eq_f c5 rfl ?_
    refine en_aload rfl rfl ?_
    obtain ⟨⟨q61, C62⟩, e63, h⟩ := gb h
    dsimp only at h
    refine ec_callV0 (k' := 169) (n := 1) (rc := 10) (a := a0) (as := []) ⟨rfl, rfl⟩ rfl rfl (Nat.le_of_ble_eq_true rfl) (Nat.le_of_ble_eq_true rfl) (Nat.le_of_ble_eq_true rfl) g1 rfl (t_169 e63) ?_
    refine en_aload rfl rfl ?_
    refine en_aload rfl rfl ?_
    refine ec_getI (ci := 10) (j := 48) ⟨rfl, rfl, rfl⟩ g1 rfl ?_
    refine ec_iconst cst_2 rfl ?_
    rcases gi h with ⟨c64, h⟩ | ⟨c64, h⟩
    · refine en_icmp_ne_t c64 rfl ?_
      refine ec_iconst cst_0 rfl ?_
      refine ec_iconst cst_1 rfl ?_
      obtain ⟨⟨q65, C66⟩, e67, h⟩ := gb h
      dsimp only at h
      refine ec_callV1 (k' := 170) (n := 3) (rc := 10) (a := a0) (as := [.int (0 : Int32), .int (1 : Int32)]) ⟨rfl, rfl⟩ rfl rfl (Nat.le_of_ble_eq_true rfl) (Nat.le_of_ble_eq_true rfl) (Nat.le_of_ble_eq_true rfl) g1 rfl (t_170 e67) ?_
      rcases gi h with ⟨c68, h⟩ | ⟨c68, h⟩
      · refine en_if_eq_t c68 rfl ?_
        refine ec_iconst cst_0 rfl ?_
        cases h
        exact en_iret rfl
      · refine en_if_eq_f c68 rfl ?_
        refine en_aload rfl rfl ?_
        refine en_aload rfl rfl ?_
        refine ec_getI (ci := 10) (j := 49) ⟨rfl, rfl, rfl⟩ g1 rfl ?_
        refine ec_iconst cst_9999 rfl ?_
        rcases gi h with ⟨c69, h⟩ | ⟨c69, h⟩
        · refine en_icmp_gt_t c69 rfl ?_
          refine ec_iconst cst_0 rfl ?_
          refine ec_iconst cst_2 rfl ?_
          obtain ⟨⟨q70, C71⟩, e72, h⟩ := gb h
          dsimp only at h
          refine ec_callV1 (k' := 170) (n := 3) (rc := 10) (a := a0) (as := [.int (0 : Int32), .int (2 : Int32)]) ⟨rfl, rfl⟩ rfl rfl (Nat.le_of_ble_eq_true rfl) (Nat.le_of_ble_eq_true rfl) (Nat.le_of_ble_eq_true rfl) g1 rfl (t_170 e72) ?_
          rcases gi h with ⟨c73, h⟩ | ⟨c73, h⟩
          · refine en_if_ne_t c73 rfl ?_
            refine en_iload rfl rfl ?_
            rcases gi h with ⟨c74, h⟩ | ⟨c74, h⟩
            · refine en_if_eq_t c74 rfl ?_
              refine en_aload rfl rfl ?_
              refine ec_getI (ci := 10) (j := 49) ⟨rfl, rfl, rfl⟩ g1 rfl ?_
              refine en_istore (l' := [(2, .int (cI C71 a0 49)), (1, .int q2), (0, .ref a0)]) rfl rfl ?_
              refine en_aload rfl rfl ?_
              obtain ⟨⟨q75, C76⟩, e77, h⟩ := gb h
              dsimp only at h
              refine ec_callV0 (k' := 169) (n := 1) (rc := 10) (a := a0) (as := []) ⟨rfl, rfl⟩ rfl rfl (Nat.le_of_ble_eq_true rfl) (Nat.le_of_ble_eq_true rfl) (Nat.le_of_ble_eq_true rfl) g1 rfl (t_169 e77) ?_
              refine en_iload rfl rfl ?_
              cases h
              exact en_iret rfl
            · refine en_if_eq_f c74 rfl ?_
              refine en_aload rfl rfl ?_
              refine ec_getI (ci := 10) (j := 49) ⟨rfl, rfl, rfl⟩ g1 rfl ?_
              refine en_ineg rfl ?_
              refine en_goto rfl ?_
              refine en_istore (l' := [(2, .int (-(cI C71 a0 49))), (1, .int q2), (0, .ref a0)]) rfl rfl ?_
              refine en_aload rfl rfl ?_
              obtain ⟨⟨q78, C79⟩, e80, h⟩ := gb h
              dsimp only at h
              refine ec_callV0 (k' := 169) (n := 1) (rc := 10) (a := a0) (as := []) ⟨rfl, rfl⟩ rfl rfl (Nat.le_of_ble_eq_true rfl) (Nat.le_of_ble_eq_true rfl) (Nat.le_of_ble_eq_true rfl) g1 rfl (t_169 e80) ?_
              refine en_iload rfl rfl ?_
              cases h
              exact en_iret rfl
          · refine en_if_ne_f c73 rfl ?_
            refine ec_iconst cst_0 rfl ?_
            cases h
            exact en_iret rfl
        · refine en_icmp_gt_f c69 rfl ?_
          refine ec_iconst cst_1 rfl ?_
          refine en_goto rfl ?_
          refine ec_iconst cst_2 rfl ?_
          obtain ⟨⟨q81, C82⟩, e83, h⟩ := gb h
          dsimp only at h
          refine ec_callV1 (k' := 170) (n := 3) (rc := 10) (a := a0) (as := [.int (1 : Int32), .int (2 : Int32)]) ⟨rfl, rfl⟩ rfl rfl (Nat.le_of_ble_eq_true rfl) (Nat.le_of_ble_eq_true rfl) (Nat.le_of_ble_eq_true rfl) g1 rfl (t_170 e83) ?_
          rcases gi h with ⟨c84, h⟩ | ⟨c84, h⟩
          · refine en_if_ne_t c84 rfl ?_
            refine en_iload rfl rfl ?_
            rcases gi h with ⟨c85, h⟩ | ⟨c85, h⟩
            · refine en_if_eq_t c85 rfl ?_
              refine en_aload rfl rfl ?_
              refine ec_getI (ci := 10) (j := 49) ⟨rfl, rfl, rfl⟩ g1 rfl ?_
              refine en_istore (l' := [(2, .int (cI C82 a0 49)), (1, .int q2), (0, .ref a0)]) rfl rfl ?_
              refine en_aload rfl rfl ?_
              obtain ⟨⟨q86, C87⟩, e88, h⟩ := gb h
              dsimp only at h
              refine ec_callV0 (k' := 169) (n := 1) (rc := 10) (a := a0) (as := []) ⟨rfl, rfl⟩ rfl rfl (Nat.le_of_ble_eq_true rfl) (Nat.le_of_ble_eq_true rfl) (Nat.le_of_ble_eq_true rfl) g1 rfl (t_169 e88) ?_
              refine en_iload rfl rfl ?_
              cases h
              exact en_iret rfl
            · refine en_if_eq_f c85 rfl ?_
              refine en_aload rfl rfl ?_
              refine ec_getI (ci := 10) (j := 49) ⟨rfl, rfl, rfl⟩ g1 rfl ?_
              refine en_ineg rfl ?_
              refine en_goto rfl ?_
              refine en_istore (l' := [(2, .int (-(cI C82 a0 49))), (1, .int q2), (0, .ref a0)]) rfl rfl ?_
              refine en_aload rfl rfl ?_
              obtain ⟨⟨q89, C90⟩, e91, h⟩ := gb h
              dsimp only at h
              refine ec_callV0 (k' := 169) (n := 1) (rc := 10) (a := a0) (as := []) ⟨rfl, rfl⟩ rfl rfl (Nat.le_of_ble_eq_true rfl) (Nat.le_of_ble_eq_true rfl) (Nat.le_of_ble_eq_true rfl) g1 rfl (t_169 e91) ?_
              refine en_iload rfl rfl ?_
              cases h
              exact en_iret rfl
          · refine en_if_ne_f c84 rfl ?_
            refine ec_iconst cst_0 rfl ?_
            cases h
            exact en_iret rfl
    · refine en_icmp_ne_f c64 rfl ?_
      refine ec_iconst cst_1 rfl ?_
      refine en_goto rfl ?_
      refine ec_iconst cst_1 rfl ?_
      obtain ⟨⟨q92, C93⟩, e94, h⟩ := gb h
      dsimp only at h
      refine ec_callV1 (k' := 170) (n := 3) (rc := 10) (a := a0) (as := [.int (1 : Int32), .int (1 : Int32)]) ⟨rfl, rfl⟩ rfl rfl (Nat.le_of_ble_eq_true rfl) (Nat.le_of_ble_eq_true rfl) (Nat.le_of_ble_eq_true rfl) g1 rfl (t_170 e94) ?_
      rcases gi h with ⟨c95, h⟩ | ⟨c95, h⟩
      · refine en_if_eq_t c95 rfl ?_
        refine ec_iconst cst_0 rfl ?_
        cases h
        exact en_iret rfl
      · refine en_if_eq_f c95 rfl ?_
        refine en_aload rfl rfl ?_
        refine en_aload rfl rfl ?_
        refine ec_getI (ci := 10) (j := 49) ⟨rfl, rfl, rfl⟩ g1 rfl ?_
        refine ec_iconst cst_9999 rfl ?_
        rcases gi h with ⟨c96, h⟩ | ⟨c96, h⟩
        · refine en_icmp_gt_t c96 rfl ?_
          refine ec_iconst cst_0 rfl ?_
          refine ec_iconst cst_2 rfl ?_
          obtain ⟨⟨q97, C98⟩, e99, h⟩ := gb h
          dsimp only at h
          refine ec_callV1 (k' := 170) (n := 3) (rc := 10) (a := a0) (as := [.int (0 : Int32), .int (2 : Int32)]) ⟨rfl, rfl⟩ rfl rfl (Nat.le_of_ble_eq_true rfl) (Nat.le_of_ble_eq_true rfl) (Nat.le_of_ble_eq_true rfl) g1 rfl (t_170 e99) ?_
          rcases gi h with ⟨c100, h⟩ | ⟨c100, h⟩
          · refine en_if_ne_t c100 rfl ?_
            refine en_iload rfl rfl ?_
            rcases gi h with ⟨c101, h⟩ | ⟨c101, h⟩
            · refine en_if_eq_t c101 rfl ?_
              refine en_aload rfl rfl ?_
              refine ec_getI (ci := 10) (j := 49) ⟨rfl, rfl, rfl⟩ g1 rfl ?_
              refine en_istore (l' := [(2, .int (cI C98 a0 49)), (1, .int q2), (0, .ref a0)]) rfl rfl ?_
              refine en_aload rfl rfl ?_
              obtain ⟨⟨q102, C103⟩, e104, h⟩ := gb h
              dsimp only at h
              refine ec_callV0 (k' := 169) (n := 1) (rc := 10) (a := a0) (as := []) ⟨rfl, rfl⟩ rfl rfl (Nat.le_of_ble_eq_true rfl) (Nat.le_of_ble_eq_true rfl) (Nat.le_of_ble_eq_true rfl) g1 rfl (t_169 e104) ?_
              refine en_iload rfl rfl ?_
              cases h
              exact en_iret rfl
            · refine en_if_eq_f c101 rfl ?_
              refine en_aload rfl rfl ?_
              refine ec_getI (ci := 10) (j := 49) ⟨rfl, rfl, rfl⟩ g1 rfl ?_
              refine en_ineg rfl ?_
              refine en_goto rfl ?_
              refine en_istore (l' := [(2, .int (-(cI C98 a0 49))), (1, .int q2), (0, .ref a0)]) rfl rfl ?_
              refine en_aload rfl rfl ?_
              obtain ⟨⟨q105, C106⟩, e107, h⟩ := gb h
              dsimp only at h
              refine ec_callV0 (k' := 169) (n := 1) (rc := 10) (a := a0) (as := []) ⟨rfl, rfl⟩ rfl rfl (Nat.le_of_ble_eq_true rfl) (Nat.le_of_ble_eq_true rfl) (Nat.le_of_ble_eq_true rfl) g1 rfl (t_169 e107) ?_
              refine en_iload rfl rfl ?_
              cases h
              exact en_iret rfl
          · refine en_if_ne_f c100 rfl ?_
            refine ec_iconst cst_0 rfl ?_
            cases h
            exact en_iret rfl
        · refine en_icmp_gt_f c96 rfl ?_
          refine ec_iconst cst_1 rfl ?_
          refine en_goto rfl ?_
          refine ec_iconst cst_2 rfl ?_
          obtain ⟨⟨q108, C109⟩, e110, h⟩ := gb h
          dsimp only at h
          refine ec_callV1 (k' := 170) (n := 3) (rc := 10) (a := a0) (as := [.int (1 : Int32), .int (2 : Int32)]) ⟨rfl, rfl⟩ rfl rfl (Nat.le_of_ble_eq_true rfl) (Nat.le_of_ble_eq_true rfl) (Nat.le_of_ble_eq_true rfl) g1 rfl (t_170 e110) ?_
          rcases gi h with ⟨c111, h⟩ | ⟨c111, h⟩
          · refine en_if_ne_t c111 rfl ?_
            refine en_iload rfl rfl ?_
            rcases gi h with ⟨c112, h⟩ | ⟨c112, h⟩
            · refine en_if_eq_t c112 rfl ?_
              refine en_aload rfl rfl ?_
              refine ec_getI (ci := 10) (j := 49) ⟨rfl, rfl, rfl⟩ g1 rfl ?_
              refine en_istore (l' := [(2, .int (cI C109 a0 49)), (1, .int q2), (0, .ref a0)]) rfl rfl ?_
              refine en_aload rfl rfl ?_
              obtain ⟨⟨q113, C114⟩, e115, h⟩ := gb h
              dsimp only at h
              refine ec_callV0 (k' := 169) (n := 1) (rc := 10) (a := a0) (as := []) ⟨rfl, rfl⟩ rfl rfl (Nat.le_of_ble_eq_true rfl) (Nat.le_of_ble_eq_true rfl) (Nat.le_of_ble_eq_true rfl) g1 rfl (t_169 e115) ?_
              refine en_iload rfl rfl ?_
              cases h
              exact en_iret rfl
            · refine en_if_eq_f c112 rfl ?_
              refine en_aload rfl rfl ?_
              refine ec_getI (ci := 10) (j := 49) ⟨rfl, rfl, rfl⟩ g1 rfl ?_
              refine en_ineg rfl ?_
              refine en_goto rfl ?_
              refine en_istore (l' := [(2, .int (-(cI C109 a0 49))), (1, .int q2), (0, .ref a0)]) rfl rfl ?_
              refine en_aload rfl rfl ?_
              obtain ⟨⟨q116, C117⟩, e118, h⟩ := gb h
              dsimp only at h
              refine ec_callV0 (k' := 169) (n := 1) (rc := 10) (a := a0) (as := []) ⟨rfl, rfl⟩ rfl rfl (Nat.le_of_ble_eq_true rfl) (Nat.le_of_ble_eq_true rfl) (Nat.le_of_ble_eq_true rfl) g1 rfl (t_169 e118) ?_
              refine en_iload rfl rfl ?_
              cases h
              exact en_iret rfl
          · refine en_if_ne_f c111 rfl ?_
            refine ec_iconst cst_0 rfl ?_
            cases h
            exact en_iret rfl
/-- BulkWriterModel.isColumnWord()Z -/
def f_175 (n : Nat) (a0 : Nat) (C : AmC) : Option (Int32 × AmC) := if isK a0 10 = true then (if ¬ (cI C a0 48) = (1 : Int32) then some ((0 : Int32), C) else (if (cI C a0 50) < (17 : Int32) then some ((0 : Int32), C) else some ((1 : Int32), C))) else none
set_option maxRecDepth 20000 in
set_option maxHeartbeats 4000000 in
theorem t_175 {n : Nat} {a0 : Nat} {C : AmC} {r : Int32} {C' : AmC} (h : f_175 n a0 C = some (r, C')) : En false 175 0 [(0, .ref a0)] [] (mkM C) (.inl (some (.int r))) (mkM C') := by
  unfold f_175 at h
  refine en_aload rfl rfl ?_
  obtain ⟨g1, h⟩ := gd h
  refine ec_getI (ci := 10) (j := 48) ⟨rfl, rfl, rfl⟩ g1 rfl ?_
  refine ec_iconst cst_1 rfl ?_
  rcases gi h with ⟨c2, h⟩ | ⟨c2, h⟩
  · refine en_icmp_ne_t c2 rfl ?_
    refine ec_iconst cst_0 rfl ?_
    cases h
    exact en_zret (Or.inl rfl) rfl
  · refine en_icmp_ne_f c2 rfl ?_
    refine en_aload rfl rfl ?_
    refine ec_getI (ci := 10) (j := 50) ⟨rfl, rfl, rfl⟩ g1 rfl ?_
    refine ec_iconst cst_17 rfl ?_
    rcases gi h with ⟨c3, h⟩ | ⟨c3, h⟩
    · refine en_icmp_lt_t c3 rfl ?_
      refine ec_iconst cst_0 rfl ?_
      cases h
      exact en_zret (Or.inl rfl) rfl
    · refine en_icmp_lt_f c3 rfl ?_
      refine ec_iconst cst_1 rfl ?_
      refine en_goto rfl ?_
      cases h
      exact en_zret (Or.inr rfl) rfl
/-- BulkWriterModel.column()I -/
def f_176 (n : Nat) (a0 : Nat) (C : AmC) : Option (Int32 × AmC) := if isK a0 10 = true then (f_175 n a0 C).bind (fun z => match z with | (q2, C3) => (f_170 n a0 q2 (1 : Int32) C3).bind (fun z => match z with | (q5, C6) => (if q5 = 0 then some ((0 : Int32), C6) else (cP C6 a0 21).bind (fun r9 => if isK r9 12 = true then if amIn (cI C6 a0 41) (aLen r9) = true then (if (cI C6 r9 (Int32.toNatClampNeg (cI C6 a0 41))) ≤ ((cI C6 a0 50) - (17 : Int32)) then (f_170 n a0 (0 : Int32) (3 : Int32) C6).bind (fun z => match z with | (q14, C15) => (if ¬ q14 = 0 then (f_169 n a0 C15).bind (fun z => match z with | (_, C19) => some (((cI C15 a0 50) - (17 : Int32)), C19)) else some ((0 : Int32), C15))) else (f_170 n a0 (1 : Int32) (3 : Int32) C6).bind (fun z => match z with | (q21, C22) => (if ¬ q21 = 0 then (f_169 n a0 C22).bind (fun z => match z with | (_, C26) => some (((cI C22 a0 50) - (17 : Int32)), C26)) else some ((0 : Int32), C22)))) else none else none)))) else none
set_option maxRecDepth 20000 in
set_option maxHeartbeats 4000000 in
theorem t_176 {n : Nat} {a0 : Nat} {C : AmC} {r : Int32} {C' : AmC} (h : f_176 n a0 C = some (r, C')) : En false 176 0 [(0, .ref a0)] [] (mkM C) (.inl (some (.int r))) (mkM C') := by
  unfold f_176 at h
  refine en_aload rfl rfl ?_
  refine en_aload rfl rfl ?_
  obtain ⟨g1, h⟩ := gd h
  obtain ⟨⟨q2, C3⟩, e4, h⟩ := gb h
  dsimp only at h
  refine ec_callV1 (k' := 175) (n := 1) (rc := 10) (a := a0) (as := []) ⟨rfl, rfl⟩ rfl rfl (Nat.le_of_ble_eq_true rfl) (Nat.le_of_ble_eq_true rfl) (Nat.le_of_ble_eq_true rfl) g1 rfl (t_175 e4) ?_
  refine ec_iconst cst_1 rfl ?_
  obtain ⟨⟨q5, C6⟩, e7, h⟩ := gb h
  dsimp only at h
  refine ec_callV1 (k' := 170) (n := 3) (rc := 10) (a := a0) (as := [.int q2, .int (1 : Int32)]) ⟨rfl, rfl⟩ rfl rfl (Nat.le_of_ble_eq_true rfl) (Nat.le_of_ble_eq_true rfl) (Nat.le_of_ble_eq_true rfl) g1 rfl (t_170 e7) ?_
  rcases gi h with ⟨c8, h⟩ | ⟨c8, h⟩
  · refine en_if_eq_t c8 rfl ?_
    refine ec_iconst cst_0 rfl ?_
    cases h
    exact en_iret rfl
  · refine en_if_eq_f c8 rfl ?_
    refine en_aload rfl rfl ?_
    refine en_aload rfl rfl ?_
    refine ec_getI (ci := 10) (j := 50) ⟨rfl, rfl, rfl⟩ g1 rfl ?_
    refine ec_iconst cst_17 rfl ?_
    refine en_isub rfl ?_
    refine en_aload rfl rfl ?_
    obtain ⟨r9, e10, h⟩ := gb h
    refine ec_getP (ci := 10) (j := 21) ⟨rfl, rfl, rfl⟩ g1 e10 rfl ?_
    refine en_aload rfl rfl ?_
    refine ec_getI (ci := 10) (j := 41) ⟨rfl, rfl, rfl⟩ g1 rfl ?_
    obtain ⟨g11, h⟩ := gd h
    obtain ⟨g12, h⟩ := gd h
    refine ec_iaload g11 g12 rfl ?_
    rcases gi h with ⟨c13, h⟩ | ⟨c13, h⟩
    · refine en_icmp_ge_t c13 rfl ?_
      refine ec_iconst cst_0 rfl ?_
      refine ec_iconst cst_3 rfl ?_
      obtain ⟨⟨q14, C15⟩, e16, h⟩ := gb h
      dsimp only at h
      refine ec_callV1 (k' := 170) (n := 3) (rc := 10) (a := a0) (as := [.int (0 : Int32), .int (3 : Int32)]) ⟨rfl, rfl⟩ rfl rfl (Nat.le_of_ble_eq_true rfl) (Nat.le_of_ble_eq_true rfl) (Nat.le_of_ble_eq_true rfl) g1 rfl (t_170 e16) ?_
      rcases gi h with ⟨c17, h⟩ | ⟨c17, h⟩
      · refine en_if_ne_t c17 rfl ?_
        refine en_aload rfl rfl ?_
        refine ec_getI (ci := 10) (j := 50) ⟨rfl, rfl, rfl⟩ g1 rfl ?_
        refine ec_iconst cst_17 rfl ?_
        refine en_isub rfl ?_
        refine en_istore (l' := [(1, .int ((cI C15 a0 50) - (17 : Int32))), (0, .ref a0)]) rfl rfl ?_
        refine en_aload rfl rfl ?_
        obtain ⟨⟨q18, C19⟩, e20, h⟩ := gb h
        dsimp only at h
        refine ec_callV0 (k' := 169) (n := 1) (rc := 10) (a := a0) (as := []) ⟨rfl, rfl⟩ rfl rfl (Nat.le_of_ble_eq_true rfl) (Nat.le_of_ble_eq_true rfl) (Nat.le_of_ble_eq_true rfl) g1 rfl (t_169 e20) ?_
        refine en_iload rfl rfl ?_
        cases h
        exact en_iret rfl
      · refine en_if_ne_f c17 rfl ?_
        refine ec_iconst cst_0 rfl ?_
        cases h
        exact en_iret rfl
    · refine en_icmp_ge_f c13 rfl ?_
      refine ec_iconst cst_1 rfl ?_
      refine en_goto rfl ?_
      refine ec_iconst cst_3 rfl ?_
      obtain ⟨⟨q21, C22⟩, e23, h⟩ := gb h
      dsimp only at h
      refine ec_callV1 (k' := 170) (n := 3) (rc := 10) (a := a0) (as := [.int (1 : Int32), .int (3 : Int32)]) ⟨rfl, rfl⟩ rfl rfl (Nat.le_of_ble_eq_true rfl) (Nat.le_of_ble_eq_true rfl) (Nat.le_of_ble_eq_true rfl) g1 rfl (t_170 e23) ?_
      rcases gi h with ⟨c24, h⟩ | ⟨c24, h⟩
      · refine en_if_ne_t c24 rfl ?_
        refine en_aload rfl rfl ?_
        refine ec_getI (ci := 10) (j := 50) ⟨rfl, rfl, rfl⟩ g1 rfl ?_
        refine ec_iconst cst_17 rfl ?_
        refine en_isub rfl ?_
        refine en_istore (l' := [(1, .int ((cI C22 a0 50) - (17 : Int32))), (0, .ref a0)]) rfl rfl ?_
        refine en_aload rfl rfl ?_
        obtain ⟨⟨q25, C26⟩, e27, h⟩ := gb h
        dsimp only at h
        refine ec_callV0 (k' := 169) (n := 1) (rc := 10) (a := a0) (as := []) ⟨rfl, rfl⟩ rfl rfl (Nat.le_of_ble_eq_true rfl) (Nat.le_of_ble_eq_true rfl) (Nat.le_of_ble_eq_true rfl) g1 rfl (t_169 e27) ?_
        refine en_iload rfl rfl ?_
        cases h
        exact en_iret rfl
      · refine en_if_ne_f c24 rfl ?_
        refine ec_iconst cst_0 rfl ?_
        cases h
        exact en_iret rfl
/-- BulkWriterModel.adds(III)V -/
def f_177 (n : Nat) (a0 : Nat) (a1 : Int32) (a2 : Int32) (a3 : Int32) (C : AmC) : Option (Unit × AmC) := if isK a0 10 = true then (if (cI C a0 51) = 0 then (cP C a0 26).bind (fun r3 => if isK r3 12 = true then if amIn (cI C a0 41) (aLen r3) = true then (cP C a0 13).bind (fun r7 => if isK r7 12 = true then if amIn (((460 : Int32) * (cI C a0 41)) + (cI C r3 (Int32.toNatClampNeg (cI C a0 41)))) (aLen r7) = true then (cP (uI C r7 (Int32.toNatClampNeg (((460 : Int32) * (cI C a0 41)) + (cI C r3 (Int32.toNatClampNeg (cI C a0 41))))) a1) a0 14).bind (fun r11 => if isK r11 12 = true then if amIn (((460 : Int32) * (cI C a0 41)) + (cI C r3 (Int32.toNatClampNeg (cI C a0 41)))) (aLen r11) = true then (cP (uI (uI C r7 (Int32.toNatClampNeg (((460 : Int32) * (cI C a0 41)) + (cI C r3 (Int32.toNatClampNeg (cI C a0 41))))) a1) r11 (Int32.toNatClampNeg (((460 : Int32) * (cI C a0 41)) + (cI C r3 (Int32.toNatClampNeg (cI C a0 41))))) a2) a0 15).bind (fun r15 => if isK r15 12 = true then if amIn (((460 : Int32) * (cI C a0 41)) + (cI C r3 (Int32.toNatClampNeg (cI C a0 41)))) (aLen r15) = true then (cP (uI (uI (uI C r7 (Int32.toNatClampNeg (((460 : Int32) * (cI C a0 41)) + (cI C r3 (Int32.toNatClampNeg (cI C a0 41))))) a1) r11 (Int32.toNatClampNeg (((460 : Int32) * (cI C a0 41)) + (cI C r3 (Int32.toNatClampNeg (cI C a0 41))))) a2) r15 (Int32.toNatClampNeg (((460 : Int32) * (cI C a0 41)) + (cI C r3 (Int32.toNatClampNeg (cI C a0 41))))) a3) a0 26).bind (fun r19 => if isK r19 12 = true then if amIn (cI (uI (uI (uI C r7 (Int32.toNatClampNeg (((460 : Int32) * (cI C a0 41)) + (cI C r3 (Int32.toNatClampNeg (cI C a0 41))))) a1) r11 (Int32.toNatClampNeg (((460 : Int32) * (cI C a0 41)) + (cI C r3 (Int32.toNatClampNeg (cI C a0 41))))) a2) r15 (Int32.toNatClampNeg (((460 : Int32) * (cI C a0 41)) + (cI C r3 (Int32.toNatClampNeg (cI C a0 41))))) a3) a0 41) (aLen r19) = true then if amIn (cI (uI (uI (uI C r7 (Int32.toNatClampNeg (((460 : Int32) * (cI C a0 41)) + (cI C r3 (Int32.toNatClampNeg (cI C a0 41))))) a1) r11 (Int32.toNatClampNeg (((460 : Int32) * (cI C a0 41)) + (cI C r3 (Int32.toNatClampNeg (cI C a0 41))))) a2) r15 (Int32.toNatClampNeg (((460 : Int32) * (cI C a0 41)) + (cI C r3 (Int32.toNatClampNeg (cI C a0 41))))) a3) a0 41) (aLen r19) = true then some ((), uI (uI (uI (uI C r7 (Int32.toNatClampNeg (((460 : Int32) * (cI C a0 41)) + (cI C r3 (Int32.toNatClampNeg (cI C a0 41))))) a1) r11 (Int32.toNatClampNeg (((460 : Int32) * (cI C a0 41)) + (cI C r3 (Int32.toNatClampNeg (cI C a0 41))))) a2) r15 (Int32.toNatClampNeg (((460 : Int32) * (cI C a0 41)) + (cI C r3 (Int32.toNatClampNeg (cI C a0 41))))) a3) r19 (Int32.toNatClampNeg (cI (uI (uI (uI C r7 (Int32.toNatClampNeg (((460 : Int32) * (cI C a0 41)) + (cI C r3 (Int32.toNatClampNeg (cI C a0 41))))) a1) r11 (Int32.toNatClampNeg (((460 : Int32) * (cI C a0 41)) + (cI C r3 (Int32.toNatClampNeg (cI C a0 41))))) a2) r15 (Int32.toNatClampNeg (((460 : Int32) * (cI C a0 41)) + (cI C r3 (Int32.toNatClampNeg (cI C a0 41))))) a3) a0 41)) ((cI (uI (uI (uI C r7 (Int32.toNatClampNeg (((460 : Int32) * (cI C a0 41)) + (cI C r3 (Int32.toNatClampNeg (cI C a0 41))))) a1) r11 (Int32.toNatClampNeg (((460 : Int32) * (cI C a0 41)) + (cI C r3 (Int32.toNatClampNeg (cI C a0 41))))) a2) r15 (Int32.toNatClampNeg (((460 : Int32) * (cI C a0 41)) + (cI C r3 (Int32.toNatClampNeg (cI C a0 41))))) a3) r19 (Int32.toNatClampNeg (cI (uI (uI (uI C r7 (Int32.toNatClampNeg (((460 : Int32) * (cI C a0 41)) + (cI C r3 (Int32.toNatClampNeg (cI C a0 41))))) a1) r11 (Int32.toNatClampNeg (((460 : Int32) * (cI C a0 41)) + (cI C r3 (Int32.toNatClampNeg (cI C a0 41))))) a2) r15 (Int32.toNatClampNeg (((460 : Int32) * (cI C a0 41)) + (cI C r3 (Int32.toNatClampNeg (cI C a0 41))))) a3) a0 41))) + (1 : Int32))) else none else none else none) else none else none) else none else none) else none else none) else none else none) else some ((), C)) else none
set_option maxRecDepth 20000 in
set_option maxHeartbeats 4000000 in
theorem t_177 {n : Nat} {a0 : Nat} {a1 : Int32} {a2 : Int32} {a3 : Int32} {C : AmC} {r : Unit} {C' : AmC} (h : f_177 n a0 a1 a2 a3 C = some (r, C')) : En false 177 0 [(0, .ref a0), (1, .int a1), (2, .int a2), (3, .int a3)] [] (mkM C) (.inl none) (mkM C') := by
  unfold f_177 at h
  refine en_aload rfl rfl ?_
  obtain ⟨g1, h⟩ := gd h
  refine ec_getI (ci := 10) (j := 51) ⟨rfl, rfl, rfl⟩ g1 rfl ?_
  rcases gi h with ⟨c2, h⟩ | ⟨c2, h⟩
  · refine en_if_eq_t c2 rfl ?_
    refine ec_iconst cst_460 rfl ?_
    refine en_aload rfl rfl ?_
    refine ec_getI (ci := 10) (j := 41) ⟨rfl, rfl, rfl⟩ g1 rfl ?_
    refine en_imul rfl ?_
    refine en_aload rfl rfl ?_
    obtain ⟨r3, e4, h⟩ := gb h
    refine ec_getP (ci := 10) (j := 26) ⟨rfl, rfl, rfl⟩ g1 e4 rfl ?_
    refine en_aload rfl rfl ?_
    refine ec_getI (ci := 10) (j := 41) ⟨rfl, rfl, rfl⟩ g1 rfl ?_
    obtain ⟨g5, h⟩ := gd h
    obtain ⟨g6, h⟩ := gd h
    refine ec_iaload g5 g6 rfl ?_
    refine en_iadd rfl ?_
    refine en_istore (l' := [(4, .int (((460 : Int32) * (cI C a0 41)) + (cI C r3 (Int32.toNatClampNeg (cI C a0 41))))), (0, .ref a0), (1, .int a1), (2, .int a2), (3, .int a3)]) rfl rfl ?_
    refine en_aload rfl rfl ?_
    obtain ⟨r7, e8, h⟩ := gb h
    refine ec_getP (ci := 10) (j := 13) ⟨rfl, rfl, rfl⟩ g1 e8 rfl ?_
    refine en_iload rfl rfl ?_
    refine en_iload rfl rfl ?_
    obtain ⟨g9, h⟩ := gd h
    obtain ⟨g10, h⟩ := gd h
    refine ec_iastore g9 g10 rfl ?_
    refine en_aload rfl rfl ?_
    obtain ⟨r11, e12, h⟩ := gb h
    refine ec_getP (ci := 10) (j := 14) ⟨rfl, rfl, rfl⟩ g1 e12 rfl ?_
    refine en_iload rfl rfl ?_
    refine en_iload rfl rfl ?_
    obtain ⟨g13, h⟩ := gd h
    obtain ⟨g14, h⟩ := gd h
    refine ec_iastore g13 g14 rfl ?_
    refine en_aload rfl rfl ?_
    obtain ⟨r15, e16, h⟩ := gb h
    refine ec_getP (ci := 10) (j := 15) ⟨rfl, rfl, rfl⟩ g1 e16 rfl ?_
    refine en_iload rfl rfl ?_
    refine en_iload rfl rfl ?_
    obtain ⟨g17, h⟩ := gd h
    obtain ⟨g18, h⟩ := gd h
    refine ec_iastore g17 g18 rfl ?_
    refine en_aload rfl rfl ?_
    obtain ⟨r19, e20, h⟩ := gb h
    refine ec_getP (ci := 10) (j := 26) ⟨rfl, rfl, rfl⟩ g1 e20 rfl ?_
    refine en_aload rfl rfl ?_
    refine ec_getI (ci := 10) (j := 41) ⟨rfl, rfl, rfl⟩ g1 rfl ?_
    refine en_dup2 ⟨rfl, rfl⟩ rfl ?_
    obtain ⟨g21, h⟩ := gd h
    obtain ⟨g22, h⟩ := gd h
    refine ec_iaload g21 g22 rfl ?_
    refine ec_iconst cst_1 rfl ?_
    refine en_iadd rfl ?_
    obtain ⟨g23, h⟩ := gd h
    refine ec_iastore g21 g23 rfl ?_
    cases h
    exact en_vret rfl
  · refine en_if_eq_f c2 rfl ?_
    cases h
    exact en_vret rfl
/-- BulkWriterModel.atom(IZZ)V -/
def f_178 (n : Nat) (a0 : Nat) (a1 : Int32) (a2 : Int32) (a3 : Int32) (C : AmC) : Option (Unit × AmC) := if isK a0 10 = true then (if (cI C a0 51) = 0 then (if (cI C a0 48) = (2 : Int32) then (f_174 n a0 C).bind (fun z => match z with | (q4, C5) => (f_177 n a0 a1 (0 : Int32) q4 C5).bind (fun z => match z with | (_, C8) => some ((), C8))) else (f_172 n a0 (45 : Int32) C).bind (fun z => match z with | (q10, C11) => (if q10 = 0 then (f_171 n a0 (16 : Int32) C11).bind (fun z => match z with | (q14, C15) => (if q14 = 0 then (f_171 n a0 (2 : Int32) C15).bind (fun z => match z with | (q18, C19) => (if q18 = 0 then (if ¬ (cI C19 a0 48) = (1 : Int32) then (f_175 n a0 C19).bind (fun z => match z with | (q23, C24) => (f_170 n a0 q23 (1 : Int32) C24).bind (fun z => match z with | (q26, C27) => (if q26 = 0 then some ((), C27) else (f_170 n a0 a3 (3 : Int32) C27).bind (fun z => match z with | (q30, C31) => (if ¬ q30 = 0 then (f_176 n a0 C31).bind (fun z => match z with | (q34, C35) => (f_177 n a0 a1 (1 : Int32) q34 C35).bind (fun z => match z with | (_, C38) => some ((), C38))) else some ((), C31)))))) else (f_163 n (cI C19 a0 50) (13 : Int32) (15 : Int32) C19).bind (fun z => match z with | (q40, C41) => (if q40 = 0 then (f_175 n a0 C41).bind (fun z => match z with | (q44, C45) => (f_170 n a0 q44 (1 : Int32) C45).bind (fun z => match z with | (q47, C48) => (if q47 = 0 then some ((), C48) else (f_170 n a0 a3 (3 : Int32) C48).bind (fun z => match z with | (q51, C52) => (if ¬ q51 = 0 then (f_176 n a0 C52).bind (fun z => match z with | (q55, C56) => (f_177 n a0 a1 (1 : Int32) q55 C56).bind (fun z => match z with | (_, C59) => some ((), C59))) else some ((), C52)))))) else (f_169 n a0 C41).bind (fun z => match z with | (_, C62) => (f_176 n a0 C62).bind (fun z => match z with | (q64, C65) => (f_177 n a0 a1 (((cI C41 a0 50) - (13 : Int32)) + (3 : Int32)) q64 C65).bind (fun z => match z with | (_, C68) => some ((), C68))))))) else (f_170 n a0 a2 (3 : Int32) C19).bind (fun z => match z with | (q70, C71) => (if ¬ q70 = 0 then (f_169 n a0 C71).bind (fun z => match z with | (_, C75) => (f_176 n a0 C75).bind (fun z => match z with | (q77, C78) => (f_177 n a0 a1 (2 : Int32) q77 C78).bind (fun z => match z with | (_, C81) => some ((), C81)))) else some ((), C71))))) else (f_169 n a0 C15).bind (fun z => match z with | (_, C84) => (f_177 n a0 a1 (6 : Int32) (0 : Int32) C84).bind (fun z => match z with | (_, C87) => some ((), C87))))) else (f_174 n a0 C11).bind (fun z => match z with | (q89, C90) => (f_177 n a0 a1 (0 : Int32) q89 C90).bind (fun z => match z with | (_, C93) => some ((), C93)))))) else some ((), C)) else none
set_option maxRecDepth 20000 in
set_option maxHeartbeats 4000000 in
theorem t_178 {n : Nat} {a0 : Nat} {a1 : Int32} {a2 : Int32} {a3 : Int32} {C : AmC} {r : Unit} {C' : AmC} (h : f_178 n a0 a1 a2 a3 C = some (r, C')) : En false 178 0 [(0, .ref a0), (1, .int a1), (2, .int a2), (3, .int a3)] [] (mkM C) (.inl none) (mkM C') := by
  unfold f_178 at h
  refine en_aload rfl rfl ?_
  obtain ⟨g1, h⟩ := gd h
  refine ec_getI (ci := 10) (j := 51) ⟨rfl, rfl, rfl⟩ g1 rfl ?_
  rcases gi h with ⟨c2, h⟩ | ⟨c2, h⟩
  · refine en_if_eq_t c2 rfl ?_
    refine en_aload rfl rfl ?_
    refine ec_getI (ci := 10) (j := 48) ⟨rfl, rfl, rfl⟩ g1 rfl ?_
    refine ec_iconst cst_2 rfl ?_
    rcases gi h with ⟨c3, h⟩ | ⟨c3, h⟩
    · refine en_icmp_eq_t c3 rfl ?_
      refine en_aload rfl rfl ?_
      refine en_iload rfl rfl ?_
      refine ec_iconst cst_0 rfl ?_
      refine en_aload rfl rfl ?_
      obtain ⟨⟨q4, C5⟩, e6, h⟩ := gb h
      dsimp only at h
      refine ec_callV1 (k' := 174) (n := 1) (rc := 10) (a := a0) (as := []) ⟨rfl, rfl⟩ rfl rfl (Nat.le_of_ble_eq_true rfl) (Nat.le_of_ble_eq_true rfl) (Nat.le_of_ble_eq_true rfl) g1 rfl (t_174 e6) ?_
      obtain ⟨⟨q7, C8⟩, e9, h⟩ := gb h
      dsimp only at h
      refine ec_callV0 (k' := 177) (n := 4) (rc := 10) (a := a0) (as := [.int a1, .int (0 : Int32), .int q4]) ⟨rfl, rfl⟩ rfl rfl (Nat.le_of_ble_eq_true rfl) (Nat.le_of_ble_eq_true rfl) (Nat.le_of_ble_eq_true rfl) g1 rfl (t_177 e9) ?_
      refine en_goto rfl ?_
      cases h
      exact en_vret rfl
    · refine en_icmp_eq_f c3 rfl ?_
      refine en_aload rfl rfl ?_
      refine ec_iconst cst_45 rfl ?_
      obtain ⟨⟨q10, C11⟩, e12, h⟩ := gb h
      dsimp only at h
      refine ec_callV1 (k' := 172) (n := 2) (rc := 10) (a := a0) (as := [.int (45 : Int32)]) ⟨rfl, rfl⟩ rfl rfl (Nat.le_of_ble_eq_true rfl) (Nat.le_of_ble_eq_true rfl) (Nat.le_of_ble_eq_true rfl) g1 rfl (t_172 e12) ?_
      rcases gi h with ⟨c13, h⟩ | ⟨c13, h⟩
      · refine en_if_eq_t c13 rfl ?_
        refine en_aload rfl rfl ?_
        refine ec_iconst cst_16 rfl ?_
        obtain ⟨⟨q14, C15⟩, e16, h⟩ := gb h
        dsimp only at h
        refine ec_callV1 (k' := 171) (n := 2) (rc := 10) (a := a0) (as := [.int (16 : Int32)]) ⟨rfl, rfl⟩ rfl rfl (Nat.le_of_ble_eq_true rfl) (Nat.le_of_ble_eq_true rfl) (Nat.le_of_ble_eq_true rfl) g1 rfl (t_171 e16) ?_
        rcases gi h with ⟨c17, h⟩ | ⟨c17, h⟩
        · refine en_if_eq_t c17 rfl ?_
          refine en_aload rfl rfl ?_
          refine ec_iconst cst_2 rfl ?_
          obtain ⟨⟨q18, C19⟩, e20, h⟩ := gb h
          dsimp only at h
          refine ec_callV1 (k' := 171) (n := 2) (rc := 10) (a := a0) (as := [.int (2 : Int32)]) ⟨rfl, rfl⟩ rfl rfl (Nat.le_of_ble_eq_true rfl) (Nat.le_of_ble_eq_true rfl) (Nat.le_of_ble_eq_true rfl) g1 rfl (t_171 e20) ?_
          rcases gi h with ⟨c21, h⟩ | ⟨c21, h⟩
          · refine en_if_eq_t c21 rfl ?_
            refine en_aload rfl rfl ?_
            refine ec_getI (ci := 10) (j := 48) ⟨rfl, rfl, rfl⟩ g1 rfl ?_
            refine ec_iconst cst_1 rfl ?_
            rcases gi h with ⟨c22, h⟩ | ⟨c22, h⟩
            · refine en_icmp_ne_t c22 rfl ?_
              refine en_aload rfl rfl ?_
              refine en_aload rfl rfl ?_
              obtain ⟨⟨q23, C24⟩, e25, h⟩ := gb h
              dsimp only at h
              refine ec_callV1 (k' := 175) (n := 1) (rc := 10) (a := a0) (as := []) ⟨rfl, rfl⟩ rfl rfl (Nat.le_of_ble_eq_true rfl) (Nat.le_of_ble_eq_true rfl) (Nat.le_of_ble_eq_true rfl) g1 rfl (t_175 e25) ?_
              refine ec_iconst cst_1 rfl ?_
              obtain ⟨⟨q26, C27⟩, e28, h⟩ := gb h
              dsimp only at h
              refine ec_callV1 (k' := 170) (n := 3) (rc := 10) (a := a0) (as := [.int q23, .int (1 : Int32)]) ⟨rfl, rfl⟩ rfl rfl (Nat.le_of_ble_eq_true rfl) (Nat.le_of_ble_eq_true rfl) (Nat.le_of_ble_eq_true rfl) g1 rfl (t_170 e28) ?_
              rcases gi h with ⟨c29, h⟩ | ⟨c29, h⟩
              · refine en_if_eq_t c29 rfl ?_
                cases h
                exact en_vret rfl
              · refine en_if_eq_f c29 rfl ?_
                refine en_aload rfl rfl ?_
                refine en_iload rfl rfl ?_
                refine ec_iconst cst_3 rfl ?_
                obtain ⟨⟨q30, C31⟩, e32, h⟩ := gb h
                dsimp only at h
                refine ec_callV1 (k' := 170) (n := 3) (rc := 10) (a := a0) (as := [.int a3, .int (3 : Int32)]) ⟨rfl, rfl⟩ rfl rfl (Nat.le_of_ble_eq_true rfl) (Nat.le_of_ble_eq_true rfl) (Nat.le_of_ble_eq_true rfl) g1 rfl (t_170 e32) ?_
                rcases gi h with ⟨c33, h⟩ | ⟨c33, h⟩
                · refine en_if_ne_t c33 rfl ?_
                  refine en_aload rfl rfl ?_
                  refine en_iload rfl rfl ?_
                  refine ec_iconst cst_1 rfl ?_
                  refine en_aload rfl rfl ?_
                  obtain ⟨⟨q34, C35⟩, e36, h⟩ := gb h
                  dsimp only at h
                  refine ec_callV1 (k' := 176) (n := 1) (rc := 10) (a := a0) (as := []) ⟨rfl, rfl⟩ rfl rfl (Nat.le_of_ble_eq_true rfl) (Nat.le_of_ble_eq_true rfl) (Nat.le_of_ble_eq_true rfl) g1 rfl (t_176 e36) ?_
                  obtain ⟨⟨q37, C38⟩, e39, h⟩ := gb h
                  dsimp only at h
                  refine ec_callV0 (k' := 177) (n := 4) (rc := 10) (a := a0) (as := [.int a1, .int (1 : Int32), .int q34]) ⟨rfl, rfl⟩ rfl rfl (Nat.le_of_ble_eq_true rfl) (Nat.le_of_ble_eq_true rfl) (Nat.le_of_ble_eq_true rfl) g1 rfl (t_177 e39) ?_
                  cases h
                  exact en_vret rfl
                · refine en_if_ne_f c33 rfl ?_
                  cases h
                  exact en_vret rfl
            · refine en_icmp_ne_f c22 rfl ?_
              refine en_aload rfl rfl ?_
              refine ec_getI (ci := 10) (j := 50) ⟨rfl, rfl, rfl⟩ g1 rfl ?_
              refine ec_iconst cst_13 rfl ?_
              refine ec_iconst cst_15 rfl ?_
              obtain ⟨⟨q40, C41⟩, e42, h⟩ := gb h
              dsimp only at h
              refine ec_callS1 (k' := 163) (n := 3) (as := [.int (cI C19 a0 50), .int (13 : Int32), .int (15 : Int32)]) rfl rfl rfl (Nat.le_of_ble_eq_true rfl) (Nat.le_of_ble_eq_true rfl) (Nat.le_of_ble_eq_true rfl) rfl (t_163 e42) ?_
              rcases gi h with ⟨c43, h⟩ | ⟨c43, h⟩
              · refine en_if_eq_t c43 rfl ?_
                refine en_aload rfl rfl ?_
                refine en_aload rfl rfl ?_
                obtain ⟨⟨q44, C45⟩, e46, h⟩ := gb h
                dsimp only at h
                refine ec_callV1 (k' := 175) (n := 1) (rc := 10) (a := a0) (as := []) ⟨rfl, rfl⟩ rfl rfl (Nat.le_of_ble_eq_true rfl) (Nat.le_of_ble_eq_true rfl) (Nat.le_of_ble_eq_true rfl) g1 rfl (t_175 e46) ?_
                refine ec_iconst cst_1 rfl ?_
                obtain ⟨⟨q47, C48⟩, e49, h⟩ := gb h
                dsimp only at h
                refine ec_callV1 (k' := 170) (n := 3) (rc := 10) (a := a0) (as := [.int q44, .int (1 : Int32)]) ⟨rfl, rfl⟩ rfl rfl (Nat.le_of_ble_eq_true rfl) (Nat.le_of_ble_eq_true rfl) (Nat.le_of_ble_eq_true rfl) g1 rfl (t_170 e49) ?_
                rcases gi h with ⟨c50, h⟩ | ⟨c50, h⟩
                · refine en_if_eq_t c50 rfl ?_
                  cases h
                  exact en_vret rfl
                · refine en_if_eq_f c50 rfl ?_
                  refine en_aload rfl rfl ?_
                  refine en_iload rfl rfl ?_
                  refine ec_iconst cst_3 rfl ?_
                  obtain ⟨⟨q51, C52⟩, e53, h⟩ := gb h
                  dsimp only at h
                  refine ec_callV1 (k' := 170) (n := 3) (rc := 10) (a := a0) (as := [.int a3, .int (3 : Int32)]) ⟨rfl, rfl⟩ rfl rfl (Nat.le_of_ble_eq_true rfl) (Nat.le_of_ble_eq_true rfl) (Nat.le_of_ble_eq_true rfl) g1 rfl (t_170 e53) ?_
                  rcases gi h with ⟨c54, h⟩ | ⟨c54, h⟩
                  · refine en_if_ne_t c54 rfl ?_
                    refine en_aload rfl rfl ?_
                    refine en_iload rfl rfl ?_
                    refine ec_iconst cst_1 rfl ?_
                    refine en_aload rfl rfl ?_
                    obtain ⟨⟨q55, C56⟩, e57, h⟩ := gb h
                    dsimp only at h
                    refine ec_callV1 (k' := 176) (n := 1) (rc := 10) (a := a0) (as := []) ⟨rfl, rfl⟩ rfl rfl (Nat.le_of_ble_eq_true rfl) (Nat.le_of_ble_eq_true rfl) (Nat.le_of_ble_eq_true rfl) g1 rfl (t_176 e57) ?_
                    obtain ⟨⟨q58, C59⟩, e60, h⟩ := gb h
                    dsimp only at h
                    refine ec_callV0 (k' := 177) (n := 4) (rc := 10) (a := a0) (as := [.int a1, .int (1 : Int32), .int q55]) ⟨rfl, rfl⟩ rfl rfl (Nat.le_of_ble_eq_true rfl) (Nat.le_of_ble_eq_true rfl) (Nat.le_of_ble_eq_true rfl) g1 rfl (t_177 e60) ?_
                    cases h
                    exact en_vret rfl
                  · refine en_if_ne_f c54 rfl ?_
                    cases h
                    exact en_vret rfl
              · refine en_if_eq_f c43 rfl ?_
                refine en_aload rfl rfl ?_
                refine ec_getI (ci := 10) (j := 50) ⟨rfl, rfl, rfl⟩ g1 rfl ?_
                refine ec_iconst cst_13 rfl ?_
                refine en_isub rfl ?_
                refine ec_iconst cst_3 rfl ?_
                refine en_iadd rfl ?_
                refine en_istore (l' := [(4, .int (((cI C41 a0 50) - (13 : Int32)) + (3 : Int32))), (0, .ref a0), (1, .int a1), (2, .int a2), (3, .int a3)]) rfl rfl ?_
                refine en_aload rfl rfl ?_
                obtain ⟨⟨q61, C62⟩, e63, h⟩ := gb h
                dsimp only at h
                refine ec_callV0 (k' := 169) (n := 1) (rc := 10) (a := a0) (as := []) ⟨rfl, rfl⟩ rfl rfl (Nat.le_of_ble_eq_true rfl) (Nat.le_of_ble_eq_true rfl) (Nat.le_of_ble_eq_true rfl) g1 rfl (t_169 e63) ?_
                refine en_aload rfl rfl ?_
                refine en_iload rfl rfl ?_
                refine en_iload rfl rfl ?_
                refine en_aload rfl rfl ?_
                obtain ⟨⟨q64, C65⟩, e66, h⟩ := gb h
                dsimp only at h
                refine ec_callV1 (k' := 176) (n := 1) (rc := 10) (a := a0) (as := []) ⟨rfl, rfl⟩ rfl rfl (Nat.le_of_ble_eq_true rfl) (Nat.le_of_ble_eq_true rfl) (Nat.le_of_ble_eq_true rfl) g1 rfl (t_176 e66) ?_
                obtain ⟨⟨q67, C68⟩, e69, h⟩ := gb h
                dsimp only at h
                refine ec_callV0 (k' := 177) (n := 4) (rc := 10) (a := a0) (as := [.int a1, .int (((cI C41 a0 50) - (13 : Int32)) + (3 : Int32)), .int q64]) ⟨rfl, rfl⟩ rfl rfl (Nat.le_of_ble_eq_true rfl) (Nat.le_of_ble_eq_true rfl) (Nat.le_of_ble_eq_true rfl) g1 rfl (t_177 e69) ?_
                refine en_goto rfl ?_
                cases h
                exact en_vret rfl
          · refine en_if_eq_f c21 rfl ?_
            refine en_aload rfl rfl ?_
            refine en_iload rfl rfl ?_
            refine ec_iconst cst_3 rfl ?_
            obtain ⟨⟨q70, C71⟩, e72, h⟩ := gb h
            dsimp only at h
            refine ec_callV1 (k' := 170) (n := 3) (rc := 10) (a := a0) (as := [.int a2, .int (3 : Int32)]) ⟨rfl, rfl⟩ rfl rfl (Nat.le_of_ble_eq_true rfl) (Nat.le_of_ble_eq_true rfl) (Nat.le_of_ble_eq_true rfl) g1 rfl (t_170 e72) ?_
            rcases gi h with ⟨c73, h⟩ | ⟨c73, h⟩
            · refine en_if_ne_t c73 rfl ?_
              refine en_aload rfl rfl ?_
              obtain ⟨⟨q74, C75⟩, e76, h⟩ := gb h
              dsimp only at h
              refine ec_callV0 (k' := 169) (n := 1) (rc := 10) (a := a0) (as := []) ⟨rfl, rfl⟩ rfl rfl (Nat.le_of_ble_eq_true rfl) (Nat.le_of_ble_eq_true rfl) (Nat.le_of_ble_eq_true rfl) g1 rfl (t_169 e76) ?_
              refine en_aload rfl rfl ?_
              refine en_iload rfl rfl ?_
              refine ec_iconst cst_2 rfl ?_
              refine en_aload rfl rfl ?_
              obtain ⟨⟨q77, C78⟩, e79, h⟩ := gb h
              dsimp only at h
              refine ec_callV1 (k' := 176) (n := 1) (rc := 10) (a := a0) (as := []) ⟨rfl, rfl⟩ rfl rfl (Nat.le_of_ble_eq_true rfl) (Nat.le_of_ble_eq_true rfl) (Nat.le_of_ble_eq_true rfl) g1 rfl (t_176 e79) ?_
              obtain ⟨⟨q80, C81⟩, e82, h⟩ := gb h
              dsimp only at h
              refine ec_callV0 (k' := 177) (n := 4) (rc := 10) (a := a0) (as := [.int a1, .int (2 : Int32), .int q77]) ⟨rfl, rfl⟩ rfl rfl (Nat.le_of_ble_eq_true rfl) (Nat.le_of_ble_eq_true rfl) (Nat.le_of_ble_eq_true rfl) g1 rfl (t_177 e82) ?_
              refine en_goto rfl ?_
              cases h
              exact en_vret rfl
            · refine en_if_ne_f c73 rfl ?_
              cases h
              exact en_vret rfl
        · refine en_if_eq_f c17 rfl ?_
          refine en_aload rfl rfl ?_
          obtain ⟨⟨q83, C84⟩, e85, h⟩ := gb h
          dsimp only at h
          refine ec_callV0 (k' := 169) (n := 1) (rc := 10) (a := a0) (as := []) ⟨rfl, rfl⟩ rfl rfl (Nat.le_of_ble_eq_true rfl) (Nat.le_of_ble_eq_true rfl) (Nat.le_of_ble_eq_true rfl) g1 rfl (t_169 e85) ?_
          refine en_aload rfl rfl ?_
          refine en_iload rfl rfl ?_
          refine ec_iconst cst_6 rfl ?_
          refine ec_iconst cst_0 rfl ?_
          obtain ⟨⟨q86, C87⟩, e88, h⟩ := gb h
          dsimp only at h
          refine ec_callV0 (k' := 177) (n := 4) (rc := 10) (a := a0) (as := [.int a1, .int (6 : Int32), .int (0 : Int32)]) ⟨rfl, rfl⟩ rfl rfl (Nat.le_of_ble_eq_true rfl) (Nat.le_of_ble_eq_true rfl) (Nat.le_of_ble_eq_true rfl) g1 rfl (t_177 e88) ?_
          refine en_goto rfl ?_
          cases h
          exact en_vret rfl
      · refine en_if_eq_f c13 rfl ?_
        refine en_aload rfl rfl ?_
        refine en_iload rfl rfl ?_
        refine ec_iconst cst_0 rfl ?_
        refine en_aload rfl rfl ?_
        obtain ⟨⟨q89, C90⟩, e91, h⟩ := gb h
        dsimp only at h
        refine ec_callV1 (k' := 174) (n := 1) (rc := 10) (a := a0) (as := []) ⟨rfl, rfl⟩ rfl rfl (Nat.le_of_ble_eq_true rfl) (Nat.le_of_ble_eq_true rfl) (Nat.le_of_ble_eq_true rfl) g1 rfl (t_174 e91) ?_
        obtain ⟨⟨q92, C93⟩, e94, h⟩ := gb h
        dsimp only at h
        refine ec_callV0 (k' := 177) (n := 4) (rc := 10) (a := a0) (as := [.int a1, .int (0 : Int32), .int q89]) ⟨rfl, rfl⟩ rfl rfl (Nat.le_of_ble_eq_true rfl) (Nat.le_of_ble_eq_true rfl) (Nat.le_of_ble_eq_true rfl) g1 rfl (t_177 e94) ?_
        refine en_goto rfl ?_
        cases h
        exact en_vret rfl
  · refine en_if_eq_f c2 rfl ?_
    cases h
    exact en_vret rfl
def lp_179_11 : Nat → Nat → Int32 → Int32 → Int32 → AmC → Option (((Nat × Int32)) × AmC)
  | 0, _, _, _, _, _ => none
  | n + 1, p0, p1, p2, p3, C => if isK p0 10 = true then (f_172 n p0 (43 : Int32) C).bind (fun z => match z with | (q10, C11) => (if ¬ q10 = 0 then (f_169 n p0 C11).bind (fun z => match z with | (_, C15) => (f_178 n p0 (cI C11 p0 49) p1 p2 C15).bind (fun z => match z with | (_, C18) => lp_179_11 n p0 p1 p2 p3 C18)) else (f_172 n p0 (45 : Int32) C11).bind (fun z => match z with | (q20, C21) => (if ¬ q20 = 0 then (f_169 n p0 C21).bind (fun z => match z with | (_, C25) => (f_178 n p0 (cI C21 p0 49) p1 p2 C25).bind (fun z => match z with | (_, C28) => lp_179_11 n p0 p1 p2 p3 C28)) else (f_172 n p0 (42 : Int32) C21).bind (fun z => match z with | (q30, C31) => (if q30 = 0 then some ((p0, p3), C31) else (f_169 n p0 C31).bind (fun z => match z with | (_, C35) => (f_178 n p0 (cI C31 p0 49) p1 p2 C35).bind (fun z => match z with | (_, C38) => lp_179_11 n p0 p1 p2 p3 C38)))))))) else none
set_option maxRecDepth 20000 in
set_option maxHeartbeats 4000000 in
theorem lt_179_11 : ∀ (n : Nat) (p0 : Nat) (p1 : Int32) (p2 : Int32) (p3 : Int32) (C : AmC) (r : ((Nat × Int32)) × AmC), lp_179_11 n p0 p1 p2 p3 C = some r → ∀ (o : AmO) (M' : AmM), (match r with
        | ((w0, w3), C') => En false 179 34 [(0, .ref w0), (3, .int w3)] [] (mkM C') o M') → En false 179 11 [(0, .ref p0), (1, .int p1), (2, .int p2), (3, .int p3)] [] (mkM C) o M' := by
  intro n
  induction n with
  | zero => intro p0 p1 p2 p3 C r h; cases h
  | succ n ih =>
    intro p0 p1 p2 p3 C r h o M' hk
    unfold lp_179_11 at h
    refine en_aload rfl rfl ?_
    refine ec_iconst cst_43 rfl ?_
    obtain ⟨g9, h⟩ := gd h
    obtain ⟨⟨q10, C11⟩, e12, h⟩ := gb h
    dsimp only at h
    refine ec_callV1 (k' := 172) (n := 2) (rc := 10) (a := p0) (as := [.int (43 : Int32)]) ⟨rfl, rfl⟩ rfl rfl (Nat.le_of_ble_eq_true rfl) (Nat.le_of_ble_eq_true rfl) (Nat.le_of_ble_eq_true rfl) g9 rfl (t_172 e12) ?_
    rcases gi h with ⟨c13, h⟩ | ⟨c13, h⟩
    · refine en_if_ne_t c13 rfl ?_
      refine en_aload rfl rfl ?_
      refine ec_getI (ci := 10) (j := 49) ⟨rfl, rfl, rfl⟩ g9 rfl ?_
      refine en_istore (l' := [(4, .int (cI C11 p0 49)), (0, .ref p0), (1, .int p1), (2, .int p2), (3, .int p3)]) rfl rfl ?_
      refine en_aload rfl rfl ?_
      obtain ⟨⟨q14, C15⟩, e16, h⟩ := gb h
      dsimp only at h
      refine ec_callV0 (k' := 169) (n := 1) (rc := 10) (a := p0) (as := []) ⟨rfl, rfl⟩ rfl rfl (Nat.le_of_ble_eq_true rfl) (Nat.le_of_ble_eq_true rfl) (Nat.le_of_ble_eq_true rfl) g9 rfl (t_169 e16) ?_
      refine en_aload rfl rfl ?_
      refine en_iload rfl rfl ?_
      refine en_iload rfl rfl ?_
      refine en_iload rfl rfl ?_
      obtain ⟨⟨q17, C18⟩, e19, h⟩ := gb h
      dsimp only at h
      refine ec_callV0 (k' := 178) (n := 4) (rc := 10) (a := p0) (as := [.int (cI C11 p0 49), .int p1, .int p2]) ⟨rfl, rfl⟩ rfl rfl (Nat.le_of_ble_eq_true rfl) (Nat.le_of_ble_eq_true rfl) (Nat.le_of_ble_eq_true rfl) g9 rfl (t_178 e19) ?_
      refine en_goto rfl ?_
      refine en_sub [1, 2, 3, 4] rfl rfl ?_
      exact ih _ _ _ _ _ _ h o M' hk
    · refine en_if_ne_f c13 rfl ?_
      refine en_aload rfl rfl ?_
      refine ec_iconst cst_45 rfl ?_
      obtain ⟨⟨q20, C21⟩, e22, h⟩ := gb h
      dsimp only at h
      refine ec_callV1 (k' := 172) (n := 2) (rc := 10) (a := p0) (as := [.int (45 : Int32)]) ⟨rfl, rfl⟩ rfl rfl (Nat.le_of_ble_eq_true rfl) (Nat.le_of_ble_eq_true rfl) (Nat.le_of_ble_eq_true rfl) g9 rfl (t_172 e22) ?_
      rcases gi h with ⟨c23, h⟩ | ⟨c23, h⟩
      · refine en_if_ne_t c23 rfl ?_
        refine en_aload rfl rfl ?_
        refine ec_getI (ci := 10) (j := 49) ⟨rfl, rfl, rfl⟩ g9 rfl ?_
        refine en_istore (l' := [(4, .int (cI C21 p0 49)), (0, .ref p0), (1, .int p1), (2, .int p2), (3, .int p3)]) rfl rfl ?_
        refine en_aload rfl rfl ?_
        obtain ⟨⟨q24, C25⟩, e26, h⟩ := gb h
        dsimp only at h
        refine ec_callV0 (k' := 169) (n := 1) (rc := 10) (a := p0) (as := []) ⟨rfl, rfl⟩ rfl rfl (Nat.le_of_ble_eq_true rfl) (Nat.le_of_ble_eq_true rfl) (Nat.le_of_ble_eq_true rfl) g9 rfl (t_169 e26) ?_
        refine en_aload rfl rfl ?_
        refine en_iload rfl rfl ?_
        refine en_iload rfl rfl ?_
        refine en_iload rfl rfl ?_
        obtain ⟨⟨q27, C28⟩, e29, h⟩ := gb h
        dsimp only at h
        refine ec_callV0 (k' := 178) (n := 4) (rc := 10) (a := p0) (as := [.int (cI C21 p0 49), .int p1, .int p2]) ⟨rfl, rfl⟩ rfl rfl (Nat.le_of_ble_eq_true rfl) (Nat.le_of_ble_eq_true rfl) (Nat.le_of_ble_eq_true rfl) g9 rfl (t_178 e29) ?_
        refine en_goto rfl ?_
        refine en_sub [1, 2, 3, 4] rfl rfl ?_
        exact ih _ _ _ _ _ _ h o M' hk
      · refine en_if_ne_f c23 rfl ?_
        refine en_aload rfl rfl ?_
        refine ec_iconst cst_42 rfl ?_
        obtain ⟨⟨q30, C31⟩, e32, h⟩ := gb h
        dsimp only at h
        refine ec_callV1 (k' := 172) (n := 2) (rc := 10) (a := p0) (as := [.int (42 : Int32)]) ⟨rfl, rfl⟩ rfl rfl (Nat.le_of_ble_eq_true rfl) (Nat.le_of_ble_eq_true rfl) (Nat.le_of_ble_eq_true rfl) g9 rfl (t_172 e32) ?_
        rcases gi h with ⟨c33, h⟩ | ⟨c33, h⟩
        · refine en_if_eq_t c33 rfl ?_
          cases h
          exact en_sub [0, 3] rfl rfl hk
        · refine en_if_eq_f c33 rfl ?_
          refine en_aload rfl rfl ?_
          refine ec_getI (ci := 10) (j := 49) ⟨rfl, rfl, rfl⟩ g9 rfl ?_
          refine en_istore (l' := [(4, .int (cI C31 p0 49)), (0, .ref p0), (1, .int p1), (2, .int p2), (3, .int p3)]) rfl rfl ?_
          refine en_aload rfl rfl ?_
          obtain ⟨⟨q34, C35⟩, e36, h⟩ := gb h
          dsimp only at h
          refine ec_callV0 (k' := 169) (n := 1) (rc := 10) (a := p0) (as := []) ⟨rfl, rfl⟩ rfl rfl (Nat.le_of_ble_eq_true rfl) (Nat.le_of_ble_eq_true rfl) (Nat.le_of_ble_eq_true rfl) g9 rfl (t_169 e36) ?_
          refine en_aload rfl rfl ?_
          refine en_iload rfl rfl ?_
          refine en_iload rfl rfl ?_
          refine en_iload rfl rfl ?_
          obtain ⟨⟨q37, C38⟩, e39, h⟩ := gb h
          dsimp only at h
          refine ec_callV0 (k' := 178) (n := 4) (rc := 10) (a := p0) (as := [.int (cI C31 p0 49), .int p1, .int p2]) ⟨rfl, rfl⟩ rfl rfl (Nat.le_of_ble_eq_true rfl) (Nat.le_of_ble_eq_true rfl) (Nat.le_of_ble_eq_true rfl) g9 rfl (t_178 e39) ?_
          refine en_goto rfl ?_
          refine en_sub [1, 2, 3, 4] rfl rfl ?_
          exact ih _ _ _ _ _ _ h o M' hk
/-- BulkWriterModel.value(ZZ)I -/
def f_179 (n : Nat) (a0 : Nat) (a1 : Int32) (a2 : Int32) (C : AmC) : Option (Int32 × AmC) := if isK a0 10 = true then (cP C a0 26).bind (fun r2 => if isK r2 12 = true then if amIn (cI C a0 41) (aLen r2) = true then (f_178 n a0 (43 : Int32) a1 a2 C).bind (fun z => match z with | (_, C7) => (lp_179_11 n a0 a1 a2 (cI C r2 (Int32.toNatClampNeg (cI C a0 41))) C7).bind (fun q => match q with | ((u43, u44), C42) => if isK u43 10 = true then (cP C42 u43 27).bind (fun r46 => if isK r46 12 = true then if amIn (cI C42 u43 41) (aLen r46) = true then (if (cI C42 u43 51) = 0 then (cP C42 u43 16).bind (fun r51 => if isK r51 12 = true then if amIn (((320 : Int32) * (cI C42 u43 41)) + (cI C42 r46 (Int32.toNatClampNeg (cI C42 u43 41)))) (aLen r51) = true then (cP (uI C42 r51 (Int32.toNatClampNeg (((320 : Int32) * (cI C42 u43 41)) + (cI C42 r46 (Int32.toNatClampNeg (cI C42 u43 41))))) (((460 : Int32) * (cI C42 u43 41)) + u44)) u43 17).bind (fun r55 => (cP (uI C42 r51 (Int32.toNatClampNeg (((320 : Int32) * (cI C42 u43 41)) + (cI C42 r46 (Int32.toNatClampNeg (cI C42 u43 41))))) (((460 : Int32) * (cI C42 u43 41)) + u44)) u43 26).bind (fun r57 => if isK r57 12 = true then if amIn (cI (uI C42 r51 (Int32.toNatClampNeg (((320 : Int32) * (cI C42 u43 41)) + (cI C42 r46 (Int32.toNatClampNeg (cI C42 u43 41))))) (((460 : Int32) * (cI C42 u43 41)) + u44)) u43 41) (aLen r57) = true then if isK r55 12 = true then if amIn (((320 : Int32) * (cI (uI C42 r51 (Int32.toNatClampNeg (((320 : Int32) * (cI C42 u43 41)) + (cI C42 r46 (Int32.toNatClampNeg (cI C42 u43 41))))) (((460 : Int32) * (cI C42 u43 41)) + u44)) u43 41)) + (cI C42 r46 (Int32.toNatClampNeg (cI C42 u43 41)))) (aLen r55) = true then (cP (uI (uI C42 r51 (Int32.toNatClampNeg (((320 : Int32) * (cI C42 u43 41)) + (cI C42 r46 (Int32.toNatClampNeg (cI C42 u43 41))))) (((460 : Int32) * (cI C42 u43 41)) + u44)) r55 (Int32.toNatClampNeg (((320 : Int32) * (cI (uI C42 r51 (Int32.toNatClampNeg (((320 : Int32) * (cI C42 u43 41)) + (cI C42 r46 (Int32.toNatClampNeg (cI C42 u43 41))))) (((460 : Int32) * (cI C42 u43 41)) + u44)) u43 41)) + (cI C42 r46 (Int32.toNatClampNeg (cI C42 u43 41))))) ((cI (uI C42 r51 (Int32.toNatClampNeg (((320 : Int32) * (cI C42 u43 41)) + (cI C42 r46 (Int32.toNatClampNeg (cI C42 u43 41))))) (((460 : Int32) * (cI C42 u43 41)) + u44)) r57 (Int32.toNatClampNeg (cI (uI C42 r51 (Int32.toNatClampNeg (((320 : Int32) * (cI C42 u43 41)) + (cI C42 r46 (Int32.toNatClampNeg (cI C42 u43 41))))) (((460 : Int32) * (cI C42 u43 41)) + u44)) u43 41))) - u44)) u43 27).bind (fun r63 => if isK r63 12 = true then if amIn (cI (uI (uI C42 r51 (Int32.toNatClampNeg (((320 : Int32) * (cI C42 u43 41)) + (cI C42 r46 (Int32.toNatClampNeg (cI C42 u43 41))))) (((460 : Int32) * (cI C42 u43 41)) + u44)) r55 (Int32.toNatClampNeg (((320 : Int32) * (cI (uI C42 r51 (Int32.toNatClampNeg (((320 : Int32) * (cI C42 u43 41)) + (cI C42 r46 (Int32.toNatClampNeg (cI C42 u43 41))))) (((460 : Int32) * (cI C42 u43 41)) + u44)) u43 41)) + (cI C42 r46 (Int32.toNatClampNeg (cI C42 u43 41))))) ((cI (uI C42 r51 (Int32.toNatClampNeg (((320 : Int32) * (cI C42 u43 41)) + (cI C42 r46 (Int32.toNatClampNeg (cI C42 u43 41))))) (((460 : Int32) * (cI C42 u43 41)) + u44)) r57 (Int32.toNatClampNeg (cI (uI C42 r51 (Int32.toNatClampNeg (((320 : Int32) * (cI C42 u43 41)) + (cI C42 r46 (Int32.toNatClampNeg (cI C42 u43 41))))) (((460 : Int32) * (cI C42 u43 41)) + u44)) u43 41))) - u44)) u43 41) (aLen r63) = true then if amIn (cI (uI (uI C42 r51 (Int32.toNatClampNeg (((320 : Int32) * (cI C42 u43 41)) + (cI C42 r46 (Int32.toNatClampNeg (cI C42 u43 41))))) (((460 : Int32) * (cI C42 u43 41)) + u44)) r55 (Int32.toNatClampNeg (((320 : Int32) * (cI (uI C42 r51 (Int32.toNatClampNeg (((320 : Int32) * (cI C42 u43 41)) + (cI C42 r46 (Int32.toNatClampNeg (cI C42 u43 41))))) (((460 : Int32) * (cI C42 u43 41)) + u44)) u43 41)) + (cI C42 r46 (Int32.toNatClampNeg (cI C42 u43 41))))) ((cI (uI C42 r51 (Int32.toNatClampNeg (((320 : Int32) * (cI C42 u43 41)) + (cI C42 r46 (Int32.toNatClampNeg (cI C42 u43 41))))) (((460 : Int32) * (cI C42 u43 41)) + u44)) r57 (Int32.toNatClampNeg (cI (uI C42 r51 (Int32.toNatClampNeg (((320 : Int32) * (cI C42 u43 41)) + (cI C42 r46 (Int32.toNatClampNeg (cI C42 u43 41))))) (((460 : Int32) * (cI C42 u43 41)) + u44)) u43 41))) - u44)) u43 41) (aLen r63) = true then some ((((320 : Int32) * (cI (uI (uI (uI C42 r51 (Int32.toNatClampNeg (((320 : Int32) * (cI C42 u43 41)) + (cI C42 r46 (Int32.toNatClampNeg (cI C42 u43 41))))) (((460 : Int32) * (cI C42 u43 41)) + u44)) r55 (Int32.toNatClampNeg (((320 : Int32) * (cI (uI C42 r51 (Int32.toNatClampNeg (((320 : Int32) * (cI C42 u43 41)) + (cI C42 r46 (Int32.toNatClampNeg (cI C42 u43 41))))) (((460 : Int32) * (cI C42 u43 41)) + u44)) u43 41)) + (cI C42 r46 (Int32.toNatClampNeg (cI C42 u43 41))))) ((cI (uI C42 r51 (Int32.toNatClampNeg (((320 : Int32) * (cI C42 u43 41)) + (cI C42 r46 (Int32.toNatClampNeg (cI C42 u43 41))))) (((460 : Int32) * (cI C42 u43 41)) + u44)) r57 (Int32.toNatClampNeg (cI (uI C42 r51 (Int32.toNatClampNeg (((320 : Int32) * (cI C42 u43 41)) + (cI C42 r46 (Int32.toNatClampNeg (cI C42 u43 41))))) (((460 : Int32) * (cI C42 u43 41)) + u44)) u43 41))) - u44)) r63 (Int32.toNatClampNeg (cI (uI (uI C42 r51 (Int32.toNatClampNeg (((320 : Int32) * (cI C42 u43 41)) + (cI C42 r46 (Int32.toNatClampNeg (cI C42 u43 41))))) (((460 : Int32) * (cI C42 u43 41)) + u44)) r55 (Int32.toNatClampNeg (((320 : Int32) * (cI (uI C42 r51 (Int32.toNatClampNeg (((320 : Int32) * (cI C42 u43 41)) + (cI C42 r46 (Int32.toNatClampNeg (cI C42 u43 41))))) (((460 : Int32) * (cI C42 u43 41)) + u44)) u43 41)) + (cI C42 r46 (Int32.toNatClampNeg (cI C42 u43 41))))) ((cI (uI C42 r51 (Int32.toNatClampNeg (((320 : Int32) * (cI C42 u43 41)) + (cI C42 r46 (Int32.toNatClampNeg (cI C42 u43 41))))) (((460 : Int32) * (cI C42 u43 41)) + u44)) r57 (Int32.toNatClampNeg (cI (uI C42 r51 (Int32.toNatClampNeg (((320 : Int32) * (cI C42 u43 41)) + (cI C42 r46 (Int32.toNatClampNeg (cI C42 u43 41))))) (((460 : Int32) * (cI C42 u43 41)) + u44)) u43 41))) - u44)) u43 41)) ((cI (uI (uI C42 r51 (Int32.toNatClampNeg (((320 : Int32) * (cI C42 u43 41)) + (cI C42 r46 (Int32.toNatClampNeg (cI C42 u43 41))))) (((460 : Int32) * (cI C42 u43 41)) + u44)) r55 (Int32.toNatClampNeg (((320 : Int32) * (cI (uI C42 r51 (Int32.toNatClampNeg (((320 : Int32) * (cI C42 u43 41)) + (cI C42 r46 (Int32.toNatClampNeg (cI C42 u43 41))))) (((460 : Int32) * (cI C42 u43 41)) + u44)) u43 41)) + (cI C42 r46 (Int32.toNatClampNeg (cI C42 u43 41))))) ((cI (uI C42 r51 (Int32.toNatClampNeg (((320 : Int32) * (cI C42 u43 41)) + (cI C42 r46 (Int32.toNatClampNeg (cI C42 u43 41))))) (((460 : Int32) * (cI C42 u43 41)) + u44)) r57 (Int32.toNatClampNeg (cI (uI C42 r51 (Int32.toNatClampNeg (((320 : Int32) * (cI C42 u43 41)) + (cI C42 r46 (Int32.toNatClampNeg (cI C42 u43 41))))) (((460 : Int32) * (cI C42 u43 41)) + u44)) u43 41))) - u44)) r63 (Int32.toNatClampNeg (cI (uI (uI C42 r51 (Int32.toNatClampNeg (((320 : Int32) * (cI C42 u43 41)) + (cI C42 r46 (Int32.toNatClampNeg (cI C42 u43 41))))) (((460 : Int32) * (cI C42 u43 41)) + u44)) r55 (Int32.toNatClampNeg (((320 : Int32) * (cI (uI C42 r51 (Int32.toNatClampNeg (((320 : Int32) * (cI C42 u43 41)) + (cI C42 r46 (Int32.toNatClampNeg (cI C42 u43 41))))) (((460 : Int32) * (cI C42 u43 41)) + u44)) u43 41)) + (cI C42 r46 (Int32.toNatClampNeg (cI C42 u43 41))))) ((cI (uI C42 r51 (Int32.toNatClampNeg (((320 : Int32) * (cI C42 u43 41)) + (cI C42 r46 (Int32.toNatClampNeg (cI C42 u43 41))))) (((460 : Int32) * (cI C42 u43 41)) + u44)) r57 (Int32.toNatClampNeg (cI (uI C42 r51 (Int32.toNatClampNeg (((320 : Int32) * (cI C42 u43 41)) + (cI C42 r46 (Int32.toNatClampNeg (cI C42 u43 41))))) (((460 : Int32) * (cI C42 u43 41)) + u44)) u43 41))) - u44)) u43 41))) + (1 : Int32))) u43 41)) + (cI C42 r46 (Int32.toNatClampNeg (cI C42 u43 41)))), uI (uI (uI C42 r51 (Int32.toNatClampNeg (((320 : Int32) * (cI C42 u43 41)) + (cI C42 r46 (Int32.toNatClampNeg (cI C42 u43 41))))) (((460 : Int32) * (cI C42 u43 41)) + u44)) r55 (Int32.toNatClampNeg (((320 : Int32) * (cI (uI C42 r51 (Int32.toNatClampNeg (((320 : Int32) * (cI C42 u43 41)) + (cI C42 r46 (Int32.toNatClampNeg (cI C42 u43 41))))) (((460 : Int32) * (cI C42 u43 41)) + u44)) u43 41)) + (cI C42 r46 (Int32.toNatClampNeg (cI C42 u43 41))))) ((cI (uI C42 r51 (Int32.toNatClampNeg (((320 : Int32) * (cI C42 u43 41)) + (cI C42 r46 (Int32.toNatClampNeg (cI C42 u43 41))))) (((460 : Int32) * (cI C42 u43 41)) + u44)) r57 (Int32.toNatClampNeg (cI (uI C42 r51 (Int32.toNatClampNeg (((320 : Int32) * (cI C42 u43 41)) + (cI C42 r46 (Int32.toNatClampNeg (cI C42 u43 41))))) (((460 : Int32) * (cI C42 u43 41)) + u44)) u43 41))) - u44)) r63 (Int32.toNatClampNeg (cI (uI (uI C42 r51 (Int32.toNatClampNeg (((320 : Int32) * (cI C42 u43 41)) + (cI C42 r46 (Int32.toNatClampNeg (cI C42 u43 41))))) (((460 : Int32) * (cI C42 u43 41)) + u44)) r55 (Int32.toNatClampNeg (((320 : Int32) * (cI (uI C42 r51 (Int32.toNatClampNeg (((320 : Int32) * (cI C42 u43 41)) + (cI C42 r46 (Int32.toNatClampNeg (cI C42 u43 41))))) (((460 : Int32) * (cI C42 u43 41)) + u44)) u43 41)) + (cI C42 r46 (Int32.toNatClampNeg (cI C42 u43 41))))) ((cI (uI C42 r51 (Int32.toNatClampNeg (((320 : Int32) * (cI C42 u43 41)) + (cI C42 r46 (Int32.toNatClampNeg (cI C42 u43 41))))) (((460 : Int32) * (cI C42 u43 41)) + u44)) r57 (Int32.toNatClampNeg (cI (uI C42 r51 (Int32.toNatClampNeg (((320 : Int32) * (cI C42 u43 41)) + (cI C42 r46 (Int32.toNatClampNeg (cI C42 u43 41))))) (((460 : Int32) * (cI C42 u43 41)) + u44)) u43 41))) - u44)) u43 41)) ((cI (uI (uI C42 r51 (Int32.toNatClampNeg (((320 : Int32) * (cI C42 u43 41)) + (cI C42 r46 (Int32.toNatClampNeg (cI C42 u43 41))))) (((460 : Int32) * (cI C42 u43 41)) + u44)) r55 (Int32.toNatClampNeg (((320 : Int32) * (cI (uI C42 r51 (Int32.toNatClampNeg (((320 : Int32) * (cI C42 u43 41)) + (cI C42 r46 (Int32.toNatClampNeg (cI C42 u43 41))))) (((460 : Int32) * (cI C42 u43 41)) + u44)) u43 41)) + (cI C42 r46 (Int32.toNatClampNeg (cI C42 u43 41))))) ((cI (uI C42 r51 (Int32.toNatClampNeg (((320 : Int32) * (cI C42 u43 41)) + (cI C42 r46 (Int32.toNatClampNeg (cI C42 u43 41))))) (((460 : Int32) * (cI C42 u43 41)) + u44)) r57 (Int32.toNatClampNeg (cI (uI C42 r51 (Int32.toNatClampNeg (((320 : Int32) * (cI C42 u43 41)) + (cI C42 r46 (Int32.toNatClampNeg (cI C42 u43 41))))) (((460 : Int32) * (cI C42 u43 41)) + u44)) u43 41))) - u44)) r63 (Int32.toNatClampNeg (cI (uI (uI C42 r51 (Int32.toNatClampNeg (((320 : Int32) * (cI C42 u43 41)) + (cI C42 r46 (Int32.toNatClampNeg (cI C42 u43 41))))) (((460 : Int32) * (cI C42 u43 41)) + u44)) r55 (Int32.toNatClampNeg (((320 : Int32) * (cI (uI C42 r51 (Int32.toNatClampNeg (((320 : Int32) * (cI C42 u43 41)) + (cI C42 r46 (Int32.toNatClampNeg (cI C42 u43 41))))) (((460 : Int32) * (cI C42 u43 41)) + u44)) u43 41)) + (cI C42 r46 (Int32.toNatClampNeg (cI C42 u43 41))))) ((cI (uI C42 r51 (Int32.toNatClampNeg (((320 : Int32) * (cI C42 u43 41)) + (cI C42 r46 (Int32.toNatClampNeg (cI C42 u43 41))))) (((460 : Int32) * (cI C42 u43 41)) + u44)) r57 (Int32.toNatClampNeg (cI (uI C42 r51 (Int32.toNatClampNeg (((320 : Int32) * (cI C42 u43 41)) + (cI C42 r46 (Int32.toNatClampNeg (cI C42 u43 41))))) (((460 : Int32) * (cI C42 u43 41)) + u44)) u43 41))) - u44)) u43 41))) + (1 : Int32))) else none else none else none) else none else none else none else none)) else none else none) else some ((0 : Int32), C42)) else none else none) else none)) else none else none) else none
set_option maxRecDepth 20000 in
set_option maxHeartbeats 4000000 in
theorem t_179 {n : Nat} {a0 : Nat} {a1 : Int32} {a2 : Int32} {C : AmC} {r : Int32} {C' : AmC} (h : f_179 n a0 a1 a2 C = some (r, C')) : En false 179 0 [(0, .ref a0), (1, .int a1), (2, .int a2)] [] (mkM C) (.inl (some (.int r))) (mkM C') := by
  unfold f_179 at h
  refine en_aload rfl rfl ?_
  obtain ⟨g1, h⟩ := gd h
  obtain ⟨r2, e3, h⟩ := gb h
  refine ec_getP (ci := 10) (j := 26) ⟨rfl, rfl, rfl⟩ g1 e3 rfl ?_
  refine en_aload rfl rfl ?_
  refine ec_getI (ci := 10) (j := 41) ⟨rfl, rfl, rfl⟩ g1 rfl ?_
  obtain ⟨g4, h⟩ := gd h
  obtain ⟨g5, h⟩ := gd h
  refine ec_iaload g4 g5 rfl ?_
  refine en_istore (l' := [(3, .int (cI C r2 (Int32.toNatClampNeg (cI C a0 41)))), (0, .ref a0), (1, .int a1), (2, .int a2)]) rfl rfl ?_
  refine en_aload rfl rfl ?_
  refine ec_iconst cst_43 rfl ?_
  refine en_iload rfl rfl ?_
  refine en_iload rfl rfl ?_
  obtain ⟨⟨q6, C7⟩, e8, h⟩ := gb h
  dsimp only at h
  refine ec_callV0 (k' := 178) (n := 4) (rc := 10) (a := a0) (as := [.int (43 : Int32), .int a1, .int a2]) ⟨rfl, rfl⟩ rfl rfl (Nat.le_of_ble_eq_true rfl) (Nat.le_of_ble_eq_true rfl) (Nat.le_of_ble_eq_true rfl) g1 rfl (t_178 e8) ?_
  obtain ⟨⟨q40, C42⟩, e41, h⟩ := gb h
  refine en_sub [1, 2, 3, 0] rfl rfl (lt_179_11 n _ _ _ _ _ _ e41 _ _ ?_)
  obtain ⟨u43, u44⟩ := q40
  dsimp only at h ⊢
  refine en_aload rfl rfl ?_
  obtain ⟨g45, h⟩ := gd h
  obtain ⟨r46, e47, h⟩ := gb h
  refine ec_getP (ci := 10) (j := 27) ⟨rfl, rfl, rfl⟩ g45 e47 rfl ?_
  refine en_aload rfl rfl ?_
  refine ec_getI (ci := 10) (j := 41) ⟨rfl, rfl, rfl⟩ g45 rfl ?_
  obtain ⟨g48, h⟩ := gd h
  obtain ⟨g49, h⟩ := gd h
  refine ec_iaload g48 g49 rfl ?_
  refine en_istore (l' := [(4, .int (cI C42 r46 (Int32.toNatClampNeg (cI C42 u43 41)))), (0, .ref u43), (3, .int u44)]) rfl rfl ?_
  refine en_aload rfl rfl ?_
  refine ec_getI (ci := 10) (j := 51) ⟨rfl, rfl, rfl⟩ g45 rfl ?_
  rcases gi h with ⟨c50, h⟩ | ⟨c50, h⟩
  · refine en_if_eq_t c50 rfl ?_
    refine en_aload rfl rfl ?_
    obtain ⟨r51, e52, h⟩ := gb h
    refine ec_getP (ci := 10) (j := 16) ⟨rfl, rfl, rfl⟩ g45 e52 rfl ?_
    refine ec_iconst cst_320 rfl ?_
    refine en_aload rfl rfl ?_
    refine ec_getI (ci := 10) (j := 41) ⟨rfl, rfl, rfl⟩ g45 rfl ?_
    refine en_imul rfl ?_
    refine en_iload rfl rfl ?_
    refine en_iadd rfl ?_
    refine ec_iconst cst_460 rfl ?_
    refine en_aload rfl rfl ?_
    refine ec_getI (ci := 10) (j := 41) ⟨rfl, rfl, rfl⟩ g45 rfl ?_
    refine en_imul rfl ?_
    refine en_iload rfl rfl ?_
    refine en_iadd rfl ?_
    obtain ⟨g53, h⟩ := gd h
    obtain ⟨g54, h⟩ := gd h
    refine ec_iastore g53 g54 rfl ?_
    refine en_aload rfl rfl ?_
    obtain ⟨r55, e56, h⟩ := gb h
    refine ec_getP (ci := 10) (j := 17) ⟨rfl, rfl, rfl⟩ g45 e56 rfl ?_
    refine ec_iconst cst_320 rfl ?_
    refine en_aload rfl rfl ?_
    refine ec_getI (ci := 10) (j := 41) ⟨rfl, rfl, rfl⟩ g45 rfl ?_
    refine en_imul rfl ?_
    refine en_iload rfl rfl ?_
    refine en_iadd rfl ?_
    refine en_aload rfl rfl ?_
    obtain ⟨r57, e58, h⟩ := gb h
    refine ec_getP (ci := 10) (j := 26) ⟨rfl, rfl, rfl⟩ g45 e58 rfl ?_
    refine en_aload rfl rfl ?_
    refine ec_getI (ci := 10) (j := 41) ⟨rfl, rfl, rfl⟩ g45 rfl ?_
    obtain ⟨g59, h⟩ := gd h
    obtain ⟨g60, h⟩ := gd h
    refine ec_iaload g59 g60 rfl ?_
    refine en_iload rfl rfl ?_
    refine en_isub rfl ?_
    obtain ⟨g61, h⟩ := gd h
    obtain ⟨g62, h⟩ := gd h
    refine ec_iastore g61 g62 rfl ?_
    refine en_aload rfl rfl ?_
    obtain ⟨r63, e64, h⟩ := gb h
    refine ec_getP (ci := 10) (j := 27) ⟨rfl, rfl, rfl⟩ g45 e64 rfl ?_
    refine en_aload rfl rfl ?_
    refine ec_getI (ci := 10) (j := 41) ⟨rfl, rfl, rfl⟩ g45 rfl ?_
    refine en_dup2 ⟨rfl, rfl⟩ rfl ?_
    obtain ⟨g65, h⟩ := gd h
    obtain ⟨g66, h⟩ := gd h
    refine ec_iaload g65 g66 rfl ?_
    refine ec_iconst cst_1 rfl ?_
    refine en_iadd rfl ?_
    obtain ⟨g67, h⟩ := gd h
    refine ec_iastore g65 g67 rfl ?_
    refine ec_iconst cst_320 rfl ?_
    refine en_aload rfl rfl ?_
    refine ec_getI (ci := 10) (j := 41) ⟨rfl, rfl, rfl⟩ g45 rfl ?_
    refine en_imul rfl ?_
    refine en_iload rfl rfl ?_
    refine en_iadd rfl ?_
    cases h
    exact en_iret rfl
  · refine en_if_eq_f c50 rfl ?_
    refine ec_iconst cst_0 rfl ?_
    cases h
    exact en_iret rfl
def lp_180_2 : Nat → Nat → Int32 → Int32 → Int32 → AmC → Option (((Unit) ⊕ (Unit)) × AmC)
  | 0, _, _, _, _, _ => none
  | n + 1, p0, p1, p2, p3, C => (if p3 = 0 then some ((.inr ()), C) else if isK p0 10 = true then (if ¬ (cI C p0 51) = 0 then some ((.inr ()), C) else (f_175 n p0 C).bind (fun z => match z with | (q4, C5) => (f_170 n p0 q4 (1 : Int32) C5).bind (fun z => match z with | (q7, C8) => (if q7 = 0 then some ((.inl ()), C8) else (cP C8 p0 21).bind (fun r11 => if isK r11 12 = true then if amIn (cI C8 p0 41) (aLen r11) = true then (if (cI C8 r11 (Int32.toNatClampNeg (cI C8 p0 41))) ≤ ((cI C8 p0 50) - (17 : Int32)) then (f_170 n p0 (0 : Int32) (3 : Int32) C8).bind (fun z => match z with | (q16, C17) => (if ¬ q16 = 0 then (f_169 n p0 C17).bind (fun z => match z with | (_, C21) => (f_173 n p0 (61 : Int32) C21).bind (fun z => match z with | (_, C24) => (if ¬ (cI C24 p0 51) = 0 then (f_172 n p0 (44 : Int32) C24).bind (fun z => match z with | (q27, C28) => (if q27 = 0 then lp_180_2 n p0 p1 p2 q27 C28 else (f_169 n p0 C28).bind (fun z => match z with | (_, C32) => lp_180_2 n p0 p1 p2 q27 C32))) else (cP C24 p0 38).bind (fun r34 => (f_179 n p0 p2 (1 : Int32) C24).bind (fun z => match z with | (q36, C37) => if isK r34 12 = true then if amIn (((4 : Int32) * p1) + ((cI C17 p0 50) - (17 : Int32))) (aLen r34) = true then (f_172 n p0 (44 : Int32) (uI C37 r34 (Int32.toNatClampNeg (((4 : Int32) * p1) + ((cI C17 p0 50) - (17 : Int32)))) q36)).bind (fun z => match z with | (q41, C42) => (if q41 = 0 then lp_180_2 n p0 p1 p2 q41 C42 else (f_169 n p0 C42).bind (fun z => match z with | (_, C46) => lp_180_2 n p0 p1 p2 q41 C46))) else none else none))))) else some ((.inl ()), C17))) else (cP C8 p0 38).bind (fun r48 => if isK r48 12 = true then if amIn ((((4 : Int32) * p1) + (cI C8 p0 50)) - (17 : Int32)) (aLen r48) = true then (if ¬ (cI C8 r48 (Int32.toNatClampNeg ((((4 : Int32) * p1) + (cI C8 p0 50)) - (17 : Int32)))) = (-1 : Int32) then (f_170 n p0 (0 : Int32) (3 : Int32) C8).bind (fun z => match z with | (q53, C54) => (if ¬ q53 = 0 then (f_169 n p0 C54).bind (fun z => match z with | (_, C58) => (f_173 n p0 (61 : Int32) C58).bind (fun z => match z with | (_, C61) => (if ¬ (cI C61 p0 51) = 0 then (f_172 n p0 (44 : Int32) C61).bind (fun z => match z with | (q64, C65) => (if q64 = 0 then lp_180_2 n p0 p1 p2 q64 C65 else (f_169 n p0 C65).bind (fun z => match z with | (_, C69) => lp_180_2 n p0 p1 p2 q64 C69))) else (cP C61 p0 38).bind (fun r71 => (f_179 n p0 p2 (1 : Int32) C61).bind (fun z => match z with | (q73, C74) => if isK r71 12 = true then if amIn (((4 : Int32) * p1) + ((cI C54 p0 50) - (17 : Int32))) (aLen r71) = true then (f_172 n p0 (44 : Int32) (uI C74 r71 (Int32.toNatClampNeg (((4 : Int32) * p1) + ((cI C54 p0 50) - (17 : Int32)))) q73)).bind (fun z => match z with | (q78, C79) => (if q78 = 0 then lp_180_2 n p0 p1 p2 q78 C79 else (f_169 n p0 C79).bind (fun z => match z with | (_, C83) => lp_180_2 n p0 p1 p2 q78 C83))) else none else none))))) else some ((.inl ()), C54))) else (f_170 n p0 (1 : Int32) (3 : Int32) C8).bind (fun z => match z with | (q85, C86) => (if ¬ q85 = 0 then (f_169 n p0 C86).bind (fun z => match z with | (_, C90) => (f_173 n p0 (61 : Int32) C90).bind (fun z => match z with | (_, C93) => (if ¬ (cI C93 p0 51) = 0 then (f_172 n p0 (44 : Int32) C93).bind (fun z => match z with | (q96, C97) => (if q96 = 0 then lp_180_2 n p0 p1 p2 q96 C97 else (f_169 n p0 C97).bind (fun z => match z with | (_, C101) => lp_180_2 n p0 p1 p2 q96 C101))) else (cP C93 p0 38).bind (fun r103 => (f_179 n p0 p2 (1 : Int32) C93).bind (fun z => match z with | (q105, C106) => if isK r103 12 = true then if amIn (((4 : Int32) * p1) + ((cI C86 p0 50) - (17 : Int32))) (aLen r103) = true then (f_172 n p0 (44 : Int32) (uI C106 r103 (Int32.toNatClampNeg (((4 : Int32) * p1) + ((cI C86 p0 50) - (17 : Int32)))) q105)).bind (fun z => match z with | (q110, C111) => (if q110 = 0 then lp_180_2 n p0 p1 p2 q110 C111 else (f_169 n p0 C111).bind (fun z => match z with | (_, C115) => lp_180_2 n p0 p1 p2 q110 C115))) else none else none))))) else some ((.inl ()), C86)))) else none else none)) else none else none))))) else none)
set_option maxRecDepth 20000 in
set_option maxHeartbeats 4000000 in
theorem lt_180_2 : ∀ (n : Nat) (p0 : Nat) (p1 : Int32) (p2 : Int32) (p3 : Int32) (C : AmC) (r : ((Unit) ⊕ (Unit)) × AmC), lp_180_2 n p0 p1 p2 p3 C = some r → ∀ (o : AmO) (M' : AmM), (match r with
        | ((.inl _), C') => En false 180 43 [] [] (mkM C') o M'
        | ((.inr _), C') => En false 180 78 [] [] (mkM C') o M') → En false 180 2 [(0, .ref p0), (1, .int p1), (2, .int p2), (3, .int p3)] [] (mkM C) o M' := by
  intro n
  induction n with
  | zero => intro p0 p1 p2 p3 C r h; cases h
  | succ n ih =>
    intro p0 p1 p2 p3 C r h o M' hk
    unfold lp_180_2 at h
    refine en_iload rfl rfl ?_
    rcases gi h with ⟨c1, h⟩ | ⟨c1, h⟩
    · refine en_if_eq_t c1 rfl ?_
      cases h
      exact en_sub [] rfl rfl hk
    · refine en_if_eq_f c1 rfl ?_
      refine en_aload rfl rfl ?_
      obtain ⟨g2, h⟩ := gd h
      refine ec_getI (ci := 10) (j := 51) ⟨rfl, rfl, rfl⟩ g2 rfl ?_
      rcases gi h with ⟨c3, h⟩ | ⟨c3, h⟩
      · refine en_if_ne_t c3 rfl ?_
        cases h
        exact en_sub [] rfl rfl hk
      · refine en_if_ne_f c3 rfl ?_
        refine en_aload rfl rfl ?_
        refine en_aload rfl rfl ?_
        obtain ⟨⟨q4, C5⟩, e6, h⟩ := gb h
        dsimp only at h
        refine ec_callV1 (k' := 175) (n := 1) (rc := 10) (a := p0) (as := []) ⟨rfl, rfl⟩ rfl rfl (Nat.le_of_ble_eq_true rfl) (Nat.le_of_ble_eq_true rfl) (Nat.le_of_ble_eq_true rfl) g2 rfl (t_175 e6) ?_
        refine ec_iconst cst_1 rfl ?_
        obtain ⟨⟨q7, C8⟩, e9, h⟩ := gb h
        dsimp only at h
        refine ec_callV1 (k' := 170) (n := 3) (rc := 10) (a := p0) (as := [.int q4, .int (1 : Int32)]) ⟨rfl, rfl⟩ rfl rfl (Nat.le_of_ble_eq_true rfl) (Nat.le_of_ble_eq_true rfl) (Nat.le_of_ble_eq_true rfl) g2 rfl (t_170 e9) ?_
        rcases gi h with ⟨c10, h⟩ | ⟨c10, h⟩
        · refine en_if_eq_t c10 rfl ?_
          cases h
          exact en_sub [] rfl rfl hk
        · refine en_if_eq_f c10 rfl ?_
          refine en_aload rfl rfl ?_
          refine en_aload rfl rfl ?_
          refine ec_getI (ci := 10) (j := 50) ⟨rfl, rfl, rfl⟩ g2 rfl ?_
          refine ec_iconst cst_17 rfl ?_
          refine en_isub rfl ?_
          refine en_aload rfl rfl ?_
          obtain ⟨r11, e12, h⟩ := gb h
          refine ec_getP (ci := 10) (j := 21) ⟨rfl, rfl, rfl⟩ g2 e12 rfl ?_
          refine en_aload rfl rfl ?_
          refine ec_getI (ci := 10) (j := 41) ⟨rfl, rfl, rfl⟩ g2 rfl ?_
          obtain ⟨g13, h⟩ := gd h
          obtain ⟨g14, h⟩ := gd h
          refine ec_iaload g13 g14 rfl ?_
          rcases gi h with ⟨c15, h⟩ | ⟨c15, h⟩
          · refine en_icmp_ge_t c15 rfl ?_
            refine ec_iconst cst_0 rfl ?_
            refine ec_iconst cst_3 rfl ?_
            obtain ⟨⟨q16, C17⟩, e18, h⟩ := gb h
            dsimp only at h
            refine ec_callV1 (k' := 170) (n := 3) (rc := 10) (a := p0) (as := [.int (0 : Int32), .int (3 : Int32)]) ⟨rfl, rfl⟩ rfl rfl (Nat.le_of_ble_eq_true rfl) (Nat.le_of_ble_eq_true rfl) (Nat.le_of_ble_eq_true rfl) g2 rfl (t_170 e18) ?_
            rcases gi h with ⟨c19, h⟩ | ⟨c19, h⟩
            · refine en_if_ne_t c19 rfl ?_
              refine en_aload rfl rfl ?_
              refine ec_getI (ci := 10) (j := 50) ⟨rfl, rfl, rfl⟩ g2 rfl ?_
              refine ec_iconst cst_17 rfl ?_
              refine en_isub rfl ?_
              refine en_istore (l' := [(4, .int ((cI C17 p0 50) - (17 : Int32))), (0, .ref p0), (1, .int p1), (2, .int p2), (3, .int p3)]) rfl rfl ?_
              refine en_aload rfl rfl ?_
              obtain ⟨⟨q20, C21⟩, e22, h⟩ := gb h
              dsimp only at h
              refine ec_callV0 (k' := 169) (n := 1) (rc := 10) (a := p0) (as := []) ⟨rfl, rfl⟩ rfl rfl (Nat.le_of_ble_eq_true rfl) (Nat.le_of_ble_eq_true rfl) (Nat.le_of_ble_eq_true rfl) g2 rfl (t_169 e22) ?_
              refine en_aload rfl rfl ?_
              refine ec_iconst cst_61 rfl ?_
              obtain ⟨⟨q23, C24⟩, e25, h⟩ := gb h
              dsimp only at h
              refine ec_callV0 (k' := 173) (n := 2) (rc := 10) (a := p0) (as := [.int (61 : Int32)]) ⟨rfl, rfl⟩ rfl rfl (Nat.le_of_ble_eq_true rfl) (Nat.le_of_ble_eq_true rfl) (Nat.le_of_ble_eq_true rfl) g2 rfl (t_173 e25) ?_
              refine en_aload rfl rfl ?_
              refine ec_getI (ci := 10) (j := 51) ⟨rfl, rfl, rfl⟩ g2 rfl ?_
              rcases gi h with ⟨c26, h⟩ | ⟨c26, h⟩
              · refine en_if_ne_t c26 rfl ?_
                refine en_aload rfl rfl ?_
                refine ec_iconst cst_44 rfl ?_
                obtain ⟨⟨q27, C28⟩, e29, h⟩ := gb h
                dsimp only at h
                refine ec_callV1 (k' := 172) (n := 2) (rc := 10) (a := p0) (as := [.int (44 : Int32)]) ⟨rfl, rfl⟩ rfl rfl (Nat.le_of_ble_eq_true rfl) (Nat.le_of_ble_eq_true rfl) (Nat.le_of_ble_eq_true rfl) g2 rfl (t_172 e29) ?_
                refine en_istore (l' := [(3, .int q27), (4, .int ((cI C17 p0 50) - (17 : Int32))), (0, .ref p0), (1, .int p1), (2, .int p2)]) rfl rfl ?_
                refine en_iload rfl rfl ?_
                rcases gi h with ⟨c30, h⟩ | ⟨c30, h⟩
                · refine en_if_eq_t c30 rfl ?_
                  refine en_goto rfl ?_
                  refine en_sub [2, 3, 4, 0] rfl rfl ?_
                  exact ih _ _ _ _ _ _ h o M' hk
                · refine en_if_eq_f c30 rfl ?_
                  refine en_aload rfl rfl ?_
                  obtain ⟨⟨q31, C32⟩, e33, h⟩ := gb h
                  dsimp only at h
                  refine ec_callV0 (k' := 169) (n := 1) (rc := 10) (a := p0) (as := []) ⟨rfl, rfl⟩ rfl rfl (Nat.le_of_ble_eq_true rfl) (Nat.le_of_ble_eq_true rfl) (Nat.le_of_ble_eq_true rfl) g2 rfl (t_169 e33) ?_
                  refine en_goto rfl ?_
                  refine en_sub [2, 3, 4, 0] rfl rfl ?_
                  exact ih _ _ _ _ _ _ h o M' hk
              · refine en_if_ne_f c26 rfl ?_
                refine en_aload rfl rfl ?_
                obtain ⟨r34, e35, h⟩ := gb h
                refine ec_getP (ci := 10) (j := 38) ⟨rfl, rfl, rfl⟩ g2 e35 rfl ?_
                refine ec_iconst cst_4 rfl ?_
                refine en_iload rfl rfl ?_
                refine en_imul rfl ?_
                refine en_iload rfl rfl ?_
                refine en_iadd rfl ?_
                refine en_aload rfl rfl ?_
                refine en_iload rfl rfl ?_
                refine ec_iconst cst_1 rfl ?_
                obtain ⟨⟨q36, C37⟩, e38, h⟩ := gb h
                dsimp only at h
                refine ec_callV1 (k' := 179) (n := 3) (rc := 10) (a := p0) (as := [.int p2, .int (1 : Int32)]) ⟨rfl, rfl⟩ rfl rfl (Nat.le_of_ble_eq_true rfl) (Nat.le_of_ble_eq_true rfl) (Nat.le_of_ble_eq_true rfl) g2 rfl (t_179 e38) ?_
                obtain ⟨g39, h⟩ := gd h
                obtain ⟨g40, h⟩ := gd h
                refine ec_iastore g39 g40 rfl ?_
                refine en_aload rfl rfl ?_
                refine ec_iconst cst_44 rfl ?_
                obtain ⟨⟨q41, C42⟩, e43, h⟩ := gb h
                dsimp only at h
                refine ec_callV1 (k' := 172) (n := 2) (rc := 10) (a := p0) (as := [.int (44 : Int32)]) ⟨rfl, rfl⟩ rfl rfl (Nat.le_of_ble_eq_true rfl) (Nat.le_of_ble_eq_true rfl) (Nat.le_of_ble_eq_true rfl) g2 rfl (t_172 e43) ?_
                refine en_istore (l' := [(3, .int q41), (4, .int ((cI C17 p0 50) - (17 : Int32))), (0, .ref p0), (1, .int p1), (2, .int p2)]) rfl rfl ?_
                refine en_iload rfl rfl ?_
                rcases gi h with ⟨c44, h⟩ | ⟨c44, h⟩
                · refine en_if_eq_t c44 rfl ?_
                  refine en_goto rfl ?_
                  refine en_sub [2, 3, 4, 0] rfl rfl ?_
                  exact ih _ _ _ _ _ _ h o M' hk
                · refine en_if_eq_f c44 rfl ?_
                  refine en_aload rfl rfl ?_
                  obtain ⟨⟨q45, C46⟩, e47, h⟩ := gb h
                  dsimp only at h
                  refine ec_callV0 (k' := 169) (n := 1) (rc := 10) (a := p0) (as := []) ⟨rfl, rfl⟩ rfl rfl (Nat.le_of_ble_eq_true rfl) (Nat.le_of_ble_eq_true rfl) (Nat.le_of_ble_eq_true rfl) g2 rfl (t_169 e47) ?_
                  refine en_goto rfl ?_
                  refine en_sub [2, 3, 4, 0] rfl rfl ?_
                  exact ih _ _ _ _ _ _ h o M' hk
            · refine en_if_ne_f c19 rfl ?_
              cases h
              exact en_sub [] rfl rfl hk
          · refine en_icmp_ge_f c15 rfl ?_
            refine en_aload rfl rfl ?_
            obtain ⟨r48, e49, h⟩ := gb h
            refine ec_getP (ci := 10) (j := 38) ⟨rfl, rfl, rfl⟩ g2 e49 rfl ?_
            refine ec_iconst cst_4 rfl ?_
            refine en_iload rfl rfl ?_
            refine en_imul rfl ?_
            refine en_aload rfl rfl ?_
            refine ec_getI (ci := 10) (j := 50) ⟨rfl, rfl, rfl⟩ g2 rfl ?_
            refine en_iadd rfl ?_
            refine ec_iconst cst_17 rfl ?_
            refine en_isub rfl ?_
            obtain ⟨g50, h⟩ := gd h
            obtain ⟨g51, h⟩ := gd h
            refine ec_iaload g50 g51 rfl ?_
            refine ec_iconst cst_m1 rfl ?_
            rcases gi h with ⟨c52, h⟩ | ⟨c52, h⟩
            · refine en_icmp_ne_t c52 rfl ?_
              refine ec_iconst cst_0 rfl ?_
              refine ec_iconst cst_3 rfl ?_
              obtain ⟨⟨q53, C54⟩, e55, h⟩ := gb h
              dsimp only at h
              refine ec_callV1 (k' := 170) (n := 3) (rc := 10) (a := p0) (as := [.int (0 : Int32), .int (3 : Int32)]) ⟨rfl, rfl⟩ rfl rfl (Nat.le_of_ble_eq_true rfl) (Nat.le_of_ble_eq_true rfl) (Nat.le_of_ble_eq_true rfl) g2 rfl (t_170 e55) ?_
              rcases gi h with ⟨c56, h⟩ | ⟨c56, h⟩
              · refine en_if_ne_t c56 rfl ?_
                refine en_aload rfl rfl ?_
                refine ec_getI (ci := 10) (j := 50) ⟨rfl, rfl, rfl⟩ g2 rfl ?_
                refine ec_iconst cst_17 rfl ?_
                refine en_isub rfl ?_
                refine en_istore (l' := [(4, .int ((cI C54 p0 50) - (17 : Int32))), (0, .ref p0), (1, .int p1), (2, .int p2), (3, .int p3)]) rfl rfl ?_
                refine en_aload rfl rfl ?_
                obtain ⟨⟨q57, C58⟩, e59, h⟩ := gb h
                dsimp only at h
                refine ec_callV0 (k' := 169) (n := 1) (rc := 10) (a := p0) (as := []) ⟨rfl, rfl⟩ rfl rfl (Nat.le_of_ble_eq_true rfl) (Nat.le_of_ble_eq_true rfl) (Nat.le_of_ble_eq_true rfl) g2 rfl (t_169 e59) ?_
                refine en_aload rfl rfl ?_
                refine ec_iconst cst_61 rfl ?_
                obtain ⟨⟨q60, C61⟩, e62, h⟩ := gb h
                dsimp only at h
                refine ec_callV0 (k' := 173) (n := 2) (rc := 10) (a := p0) (as := [.int (61 : Int32)]) ⟨rfl, rfl⟩ rfl rfl (Nat.le_of_ble_eq_true rfl) (Nat.le_of_ble_eq_true rfl) (Nat.le_of_ble_eq_true rfl) g2 rfl (t_173 e62) ?_
                refine en_aload rfl rfl ?_
                refine ec_getI (ci := 10) (j := 51) ⟨rfl, rfl, rfl⟩ g2 rfl ?_
                rcases gi h with ⟨c63, h⟩ | ⟨c63, h⟩
                · refine en_if_ne_t c63 rfl ?_
                  refine en_aload rfl rfl ?_
                  refine ec_iconst cst_44 rfl ?_
                  obtain ⟨⟨q64, C65⟩, e66, h⟩ := gb h
                  dsimp only at h
                  refine ec_callV1 (k' := 172) (n := 2) (rc := 10) (a := p0) (as := [.int (44 : Int32)]) ⟨rfl, rfl⟩ rfl rfl (Nat.le_of_ble_eq_true rfl) (Nat.le_of_ble_eq_true rfl) (Nat.le_of_ble_eq_true rfl) g2 rfl (t_172 e66) ?_
                  refine en_istore (l' := [(3, .int q64), (4, .int ((cI C54 p0 50) - (17 : Int32))), (0, .ref p0), (1, .int p1), (2, .int p2)]) rfl rfl ?_
                  refine en_iload rfl rfl ?_
                  rcases gi h with ⟨c67, h⟩ | ⟨c67, h⟩
                  · refine en_if_eq_t c67 rfl ?_
                    refine en_goto rfl ?_
                    refine en_sub [2, 3, 4, 0] rfl rfl ?_
                    exact ih _ _ _ _ _ _ h o M' hk
                  · refine en_if_eq_f c67 rfl ?_
                    refine en_aload rfl rfl ?_
                    obtain ⟨⟨q68, C69⟩, e70, h⟩ := gb h
                    dsimp only at h
                    refine ec_callV0 (k' := 169) (n := 1) (rc := 10) (a := p0) (as := []) ⟨rfl, rfl⟩ rfl rfl (Nat.le_of_ble_eq_true rfl) (Nat.le_of_ble_eq_true rfl) (Nat.le_of_ble_eq_true rfl) g2 rfl (t_169 e70) ?_
                    refine en_goto rfl ?_
                    refine en_sub [2, 3, 4, 0] rfl rfl ?_
                    exact ih _ _ _ _ _ _ h o M' hk
                · refine en_if_ne_f c63 rfl ?_
                  refine en_aload rfl rfl ?_
                  obtain ⟨r71, e72, h⟩ := gb h
                  refine ec_getP (ci := 10) (j := 38) ⟨rfl, rfl, rfl⟩ g2 e72 rfl ?_
                  refine ec_iconst cst_4 rfl ?_
                  refine en_iload rfl rfl ?_
                  refine en_imul rfl ?_
                  refine en_iload rfl rfl ?_
                  refine en_iadd rfl ?_
                  refine en_aload rfl rfl ?_
                  refine en_iload rfl rfl ?_
                  refine ec_iconst cst_1 rfl ?_
                  obtain ⟨⟨q73, C74⟩, e75, h⟩ := gb h
                  dsimp only at h
                  refine ec_callV1 (k' := 179) (n := 3) (rc := 10) (a := p0) (as := [.int p2, .int (1 : Int32)]) ⟨rfl, rfl⟩ rfl rfl (Nat.le_of_ble_eq_true rfl) (Nat.le_of_ble_eq_true rfl) (Nat.le_of_ble_eq_true rfl) g2 rfl (t_179 e75) ?_
                  obtain ⟨g76, h⟩ := gd h
                  obtain ⟨g77, h⟩ := gd h
                  refine ec_iastore g76 g77 rfl ?_
                  refine en_aload rfl rfl ?_
                  refine ec_iconst cst_44 rfl ?_
                  obtain ⟨⟨q78, C79⟩, e80, h⟩ := gb h
                  dsimp only at h
                  refine ec_callV1 (k' := 172) (n := 2) (rc := 10) (a := p0) (as := [.int (44 : Int32)]) ⟨rfl, rfl⟩ rfl rfl (Nat.le_of_ble_eq_true rfl) (Nat.le_of_ble_eq_true rfl) (Nat.le_of_ble_eq_true rfl) g2 rfl (t_172 e80) ?_
                  refine en_istore (l' := [(3, .int q78), (4, .int ((cI C54 p0 50) - (17 : Int32))), (0, .ref p0), (1, .int p1), (2, .int p2)]) rfl rfl ?_
                  refine en_iload rfl rfl ?_
                  rcases gi h with ⟨c81, h⟩ | ⟨c81, h⟩
                  · refine en_if_eq_t c81 rfl ?_
                    refine en_goto rfl ?_
                    refine en_sub [2, 3, 4, 0] rfl rfl ?_
                    exact ih _ _ _ _ _ _ h o M' hk
                  · refine en_if_eq_f c81 rfl ?_
                    refine en_aload rfl rfl ?_
                    obtain ⟨⟨q82, C83⟩, e84, h⟩ := gb h
                    dsimp only at h
                    refine ec_callV0 (k' := 169) (n := 1) (rc := 10) (a := p0) (as := []) ⟨rfl, rfl⟩ rfl rfl (Nat.le_of_ble_eq_true rfl) (Nat.le_of_ble_eq_true rfl) (Nat.le_of_ble_eq_true rfl) g2 rfl (t_169 e84) ?_
                    refine en_goto rfl ?_
                    refine en_sub [2, 3, 4, 0] rfl rfl ?_
                    exact ih _ _ _ _ _ _ h o M' hk
              · refine en_if_ne_f c56 rfl ?_
                cases h
                exact en_sub [] rfl rfl hk
            · refine en_icmp_ne_f c52 rfl ?_
              refine ec_iconst cst_1 rfl ?_
              refine en_goto rfl ?_
              refine ec_iconst cst_3 rfl ?_
              obtain ⟨⟨q85, C86⟩, e87, h⟩ := gb h
              dsimp only at h
              refine ec_callV1 (k' := 170) (n := 3) (rc := 10) (a := p0) (as := [.int (1 : Int32), .int (3 : Int32)]) ⟨rfl, rfl⟩ rfl rfl (Nat.le_of_ble_eq_true rfl) (Nat.le_of_ble_eq_true rfl) (Nat.le_of_ble_eq_true rfl) g2 rfl (t_170 e87) ?_
              rcases gi h with ⟨c88, h⟩ | ⟨c88, h⟩
              · refine en_if_ne_t c88 rfl ?_
                refine en_aload rfl rfl ?_
                refine ec_getI (ci := 10) (j := 50) ⟨rfl, rfl, rfl⟩ g2 rfl ?_
                refine ec_iconst cst_17 rfl ?_
                refine en_isub rfl ?_
                refine en_istore (l' := [(4, .int ((cI C86 p0 50) - (17 : Int32))), (0, .ref p0), (1, .int p1), (2, .int p2), (3, .int p3)]) rfl rfl ?_
                refine en_aload rfl rfl ?_
                obtain ⟨⟨q89, C90⟩, e91, h⟩ := gb h
                dsimp only at h
                refine ec_callV0 (k' := 169) (n := 1) (rc := 10) (a := p0) (as := []) ⟨rfl, rfl⟩ rfl rfl (Nat.le_of_ble_eq_true rfl) (Nat.le_of_ble_eq_true rfl) (Nat.le_of_ble_eq_true rfl) g2 rfl (t_169 e91) ?_
                refine en_aload rfl rfl ?_
                refine ec_iconst cst_61 rfl ?_
                obtain ⟨⟨q92, C93⟩, e94, h⟩ := gb h
                dsimp only at h
                refine ec_callV0 (k' := 173) (n := 2) (rc := 10) (a := p0) (as := [.int (61 : Int32)]) ⟨rfl, rfl⟩ rfl rfl (Nat.le_of_ble_eq_true rfl) (Nat.le_of_ble_eq_true rfl) (Nat.le_of_ble_eq_true rfl) g2 rfl (t_173 e94) ?_
                refine en_aload rfl rfl ?_
                refine ec_getI (ci := 10) (j := 51) ⟨rfl, rfl, rfl⟩ g2 rfl ?_
                rcases gi h with ⟨c95, h⟩ | ⟨c95, h⟩
                · refine en_if_ne_t c95 rfl ?_
                  refine en_aload rfl rfl ?_
                  refine ec_iconst cst_44 rfl ?_
                  obtain ⟨⟨q96, C97⟩, e98, h⟩ := gb h
                  dsimp only at h
                  refine ec_callV1 (k' := 172) (n := 2) (rc := 10) (a := p0) (as := [.int (44 : Int32)]) ⟨rfl, rfl⟩ rfl rfl (Nat.le_of_ble_eq_true rfl) (Nat.le_of_ble_eq_true rfl) (Nat.le_of_ble_eq_true rfl) g2 rfl (t_172 e98) ?_
                  refine en_istore (l' := [(3, .int q96), (4, .int ((cI C86 p0 50) - (17 : Int32))), (0, .ref p0), (1, .int p1), (2, .int p2)]) rfl rfl ?_
                  refine en_iload rfl rfl ?_
                  rcases gi h with ⟨c99, h⟩ | ⟨c99, h⟩
                  · refine en_if_eq_t c99 rfl ?_
                    refine en_goto rfl ?_
                    refine en_sub [2, 3, 4, 0] rfl rfl ?_
                    exact ih _ _ _ _ _ _ h o M' hk
                  · refine en_if_eq_f c99 rfl ?_
                    refine en_aload rfl rfl ?_
                    obtain ⟨⟨q100, C101⟩, e102, h⟩ := gb h
                    dsimp only at h
                    refine ec_callV0 (k' := 169) (n := 1) (rc := 10) (a := p0) (as := []) ⟨rfl, rfl⟩ rfl rfl (Nat.le_of_ble_eq_true rfl) (Nat.le_of_ble_eq_true rfl) (Nat.le_of_ble_eq_true rfl) g2 rfl (t_169 e102) ?_
                    refine en_goto rfl ?_
                    refine en_sub [2, 3, 4, 0] rfl rfl ?_
                    exact ih _ _ _ _ _ _ h o M' hk
                · refine en_if_ne_f c95 rfl ?_
                  refine en_aload rfl rfl ?_
                  obtain ⟨r103, e104, h⟩ := gb h
                  refine ec_getP (ci := 10) (j := 38) ⟨rfl, rfl, rfl⟩ g2 e104 rfl ?_
                  refine ec_iconst cst_4 rfl ?_
                  refine en_iload rfl rfl ?_
                  refine en_imul rfl ?_
                  refine en_iload rfl rfl ?_
                  refine en_iadd rfl ?_
                  refine en_aload rfl rfl ?_
                  refine en_iload rfl rfl ?_
                  refine ec_iconst cst_1 rfl ?_
                  obtain ⟨⟨q105, C106⟩, e107, h⟩ := gb h
                  dsimp only at h
                  refine ec_callV1 (k' := 179) (n := 3) (rc := 10) (a := p0) (as := [.int p2, .int (1 : Int32)]) ⟨rfl, rfl⟩ rfl rfl (Nat.le_of_ble_eq_true rfl) (Nat.le_of_ble_eq_true rfl) (Nat.le_of_ble_eq_true rfl) g2 rfl (t_179 e107) ?_
                  obtain ⟨g108, h⟩ := gd h
                  obtain ⟨g109, h⟩ := gd h
                  refine ec_iastore g108 g109 rfl ?_
                  refine en_aload rfl rfl ?_
                  refine ec_iconst cst_44 rfl ?_
                  obtain ⟨⟨q110, C111⟩, e112, h⟩ := gb h
                  dsimp only at h
                  refine ec_callV1 (k' := 172) (n := 2) (rc := 10) (a := p0) (as := [.int (44 : Int32)]) ⟨rfl, rfl⟩ rfl rfl (Nat.le_of_ble_eq_true rfl) (Nat.le_of_ble_eq_true rfl) (Nat.le_of_ble_eq_true rfl) g2 rfl (t_172 e112) ?_
                  refine en_istore (l' := [(3, .int q110), (4, .int ((cI C86 p0 50) - (17 : Int32))), (0, .ref p0), (1, .int p1), (2, .int p2)]) rfl rfl ?_
                  refine en_iload rfl rfl ?_
                  rcases gi h with ⟨c113, h⟩ | ⟨c113, h⟩
                  · refine en_if_eq_t c113 rfl ?_
                    refine en_goto rfl ?_
                    refine en_sub [2, 3, 4, 0] rfl rfl ?_
                    exact ih _ _ _ _ _ _ h o M' hk
                  · refine en_if_eq_f c113 rfl ?_
                    refine en_aload rfl rfl ?_
                    obtain ⟨⟨q114, C115⟩, e116, h⟩ := gb h
                    dsimp only at h
                    refine ec_callV0 (k' := 169) (n := 1) (rc := 10) (a := p0) (as := []) ⟨rfl, rfl⟩ rfl rfl (Nat.le_of_ble_eq_true rfl) (Nat.le_of_ble_eq_true rfl) (Nat.le_of_ble_eq_true rfl) g2 rfl (t_169 e116) ?_
                    refine en_goto rfl ?_
                    refine en_sub [2, 3, 4, 0] rfl rfl ?_
                    exact ih _ _ _ _ _ _ h o M' hk
              · refine en_if_ne_f c88 rfl ?_
                cases h
                exact en_sub [] rfl rfl hk
/-- BulkWriterModel.sets(IZ)V -/
def f_180 (n : Nat) (a0 : Nat) (a1 : Int32) (a2 : Int32) (C : AmC) : Option (Unit × AmC) := (lp_180_2 n a0 a1 a2 (1 : Int32) C).bind (fun q => match q with | ((.inl _), C119) => some ((), C119) | ((.inr _), C119) => some ((), C119))
set_option maxRecDepth 20000 in
set_option maxHeartbeats 4000000 in
theorem t_180 {n : Nat} {a0 : Nat} {a1 : Int32} {a2 : Int32} {C : AmC} {r : Unit} {C' : AmC} (h : f_180 n a0 a1 a2 C = some (r, C')) : En false 180 0 [(0, .ref a0), (1, .int a1), (2, .int a2)] [] (mkM C) (.inl none) (mkM C') := by
  unfold f_180 at h
  refine ec_iconst cst_1 rfl ?_
  refine en_istore (l' := [(3, .int (1 : Int32)), (0, .ref a0), (1, .int a1), (2, .int a2)]) rfl rfl ?_
  obtain ⟨⟨q117, C119⟩, e118, h⟩ := gb h
  refine en_sub [1, 2, 3, 0] rfl rfl (lt_180_2 n _ _ _ _ _ _ e118 _ _ ?_)
  rcases q117 with ⟨⟩ | ⟨⟩
  · dsimp only at h ⊢
    cases h
    exact en_vret rfl
  · dsimp only at h ⊢
    cases h
    exact en_vret rfl
def lp_181_2 : Nat → Nat → Int32 → Int32 → Int32 → AmC → Option (((Unit)) × AmC)
  | 0, _, _, _, _, _ => none
  | n + 1, p0, p1, p2, p3, C => if isK p0 10 = true then (cP C p0 21).bind (fun r2 => if isK r2 12 = true then if amIn (cI C p0 41) (aLen r2) = true then (if (cI C r2 (Int32.toNatClampNeg (cI C p0 41))) ≤ p3 then some ((), C) else (if ¬ (cI C p0 51) = 0 then some ((), C) else (if p3 ≤ 0 then (if ¬ (cI C p0 51) = 0 then lp_181_2 n p0 p1 p2 (p3 + (1 : Int32)) C else (cP C p0 39).bind (fun r10 => (if ¬ p2 = 0 then (f_179 n p0 p2 (0 : Int32) C).bind (fun z => match z with | (q13, C14) => if isK r10 12 = true then if amIn (((4 : Int32) * p1) + p3) (aLen r10) = true then lp_181_2 n p0 p1 p2 (p3 + (1 : Int32)) (uI C14 r10 (Int32.toNatClampNeg (((4 : Int32) * p1) + p3)) q13) else none else none) else (f_179 n p0 p2 (1 : Int32) C).bind (fun z => match z with | (q18, C19) => if isK r10 12 = true then if amIn (((4 : Int32) * p1) + p3) (aLen r10) = true then lp_181_2 n p0 p1 p2 (p3 + (1 : Int32)) (uI C19 r10 (Int32.toNatClampNeg (((4 : Int32) * p1) + p3)) q18) else none else none)))) else (f_173 n p0 (44 : Int32) C).bind (fun z => match z with | (_, C24) => (if ¬ (cI C24 p0 51) = 0 then lp_181_2 n p0 p1 p2 (p3 + (1 : Int32)) C24 else (cP C24 p0 39).bind (fun r27 => (if ¬ p2 = 0 then (f_179 n p0 p2 (0 : Int32) C24).bind (fun z => match z with | (q30, C31) => if isK r27 12 = true then if amIn (((4 : Int32) * p1) + p3) (aLen r27) = true then lp_181_2 n p0 p1 p2 (p3 + (1 : Int32)) (uI C31 r27 (Int32.toNatClampNeg (((4 : Int32) * p1) + p3)) q30) else none else none) else (f_179 n p0 p2 (1 : Int32) C24).bind (fun z => match z with | (q35, C36) => if isK r27 12 = true then if amIn (((4 : Int32) * p1) + p3) (aLen r27) = true then lp_181_2 n p0 p1 p2 (p3 + (1 : Int32)) (uI C36 r27 (Int32.toNatClampNeg (((4 : Int32) * p1) + p3)) q35) else none else none)))))))) else none else none) else none
set_option maxRecDepth 20000 in
set_option maxHeartbeats 4000000 in
theorem lt_181_2 : ∀ (n : Nat) (p0 : Nat) (p1 : Int32) (p2 : Int32) (p3 : Int32) (C : AmC) (r : ((Unit)) × AmC), lp_181_2 n p0 p1 p2 p3 C = some r → ∀ (o : AmO) (M' : AmM), (match r with
        | (_, C') => En false 181 38 [] [] (mkM C') o M') → En false 181 2 [(0, .ref p0), (1, .int p1), (2, .int p2), (3, .int p3)] [] (mkM C) o M' := by
  intro n
  induction n with
  | zero => intro p0 p1 p2 p3 C r h; cases h
  | succ n ih =>
    intro p0 p1 p2 p3 C r h o M' hk
    unfold lp_181_2 at h
    refine en_iload rfl rfl ?_
    refine en_aload rfl rfl ?_
    obtain ⟨g1, h⟩ := gd h
    obtain ⟨r2, e3, h⟩ := gb h
    refine ec_getP (ci := 10) (j := 21) ⟨rfl, rfl, rfl⟩ g1 e3 rfl ?_
    refine en_aload rfl rfl ?_
    refine ec_getI (ci := 10) (j := 41) ⟨rfl, rfl, rfl⟩ g1 rfl ?_
    obtain ⟨g4, h⟩ := gd h
    obtain ⟨g5, h⟩ := gd h
    refine ec_iaload g4 g5 rfl ?_
    rcases gi h with ⟨c6, h⟩ | ⟨c6, h⟩
    · refine en_icmp_ge_t c6 rfl ?_
      cases h
      exact en_sub [] rfl rfl hk
    · refine en_icmp_ge_f c6 rfl ?_
      refine en_aload rfl rfl ?_
      refine ec_getI (ci := 10) (j := 51) ⟨rfl, rfl, rfl⟩ g1 rfl ?_
      rcases gi h with ⟨c7, h⟩ | ⟨c7, h⟩
      · refine en_if_ne_t c7 rfl ?_
        cases h
        exact en_sub [] rfl rfl hk
      · refine en_if_ne_f c7 rfl ?_
        refine en_iload rfl rfl ?_
        rcases gi h with ⟨c8, h⟩ | ⟨c8, h⟩
        · refine en_if_le_t c8 rfl ?_
          refine en_aload rfl rfl ?_
          refine ec_getI (ci := 10) (j := 51) ⟨rfl, rfl, rfl⟩ g1 rfl ?_
          rcases gi h with ⟨c9, h⟩ | ⟨c9, h⟩
          · refine en_if_ne_t c9 rfl ?_
            refine ec_iinc (l' := [(3, .int (p3 + (1 : Int32))), (0, .ref p0), (1, .int p1), (2, .int p2)]) rfl cst_1 rfl rfl ?_
            refine en_goto rfl ?_
            refine en_sub [1, 2, 3, 0] rfl rfl ?_
            exact ih _ _ _ _ _ _ h o M' hk
          · refine en_if_ne_f c9 rfl ?_
            refine en_aload rfl rfl ?_
            obtain ⟨r10, e11, h⟩ := gb h
            refine ec_getP (ci := 10) (j := 39) ⟨rfl, rfl, rfl⟩ g1 e11 rfl ?_
            refine ec_iconst cst_4 rfl ?_
            refine en_iload rfl rfl ?_
            refine en_imul rfl ?_
            refine en_iload rfl rfl ?_
            refine en_iadd rfl ?_
            refine en_aload rfl rfl ?_
            refine en_iload rfl rfl ?_
            refine en_iload rfl rfl ?_
            rcases gi h with ⟨c12, h⟩ | ⟨c12, h⟩
            · refine en_if_ne_t c12 rfl ?_
              refine ec_iconst cst_0 rfl ?_
              obtain ⟨⟨q13, C14⟩, e15, h⟩ := gb h
              dsimp only at h
              refine ec_callV1 (k' := 179) (n := 3) (rc := 10) (a := p0) (as := [.int p2, .int (0 : Int32)]) ⟨rfl, rfl⟩ rfl rfl (Nat.le_of_ble_eq_true rfl) (Nat.le_of_ble_eq_true rfl) (Nat.le_of_ble_eq_true rfl) g1 rfl (t_179 e15) ?_
              obtain ⟨g16, h⟩ := gd h
              obtain ⟨g17, h⟩ := gd h
              refine ec_iastore g16 g17 rfl ?_
              refine ec_iinc (l' := [(3, .int (p3 + (1 : Int32))), (0, .ref p0), (1, .int p1), (2, .int p2)]) rfl cst_1 rfl rfl ?_
              refine en_goto rfl ?_
              refine en_sub [1, 2, 3, 0] rfl rfl ?_
              exact ih _ _ _ _ _ _ h o M' hk
            · refine en_if_ne_f c12 rfl ?_
              refine ec_iconst cst_1 rfl ?_
              refine en_goto rfl ?_
              obtain ⟨⟨q18, C19⟩, e20, h⟩ := gb h
              dsimp only at h
              refine ec_callV1 (k' := 179) (n := 3) (rc := 10) (a := p0) (as := [.int p2, .int (1 : Int32)]) ⟨rfl, rfl⟩ rfl rfl (Nat.le_of_ble_eq_true rfl) (Nat.le_of_ble_eq_true rfl) (Nat.le_of_ble_eq_true rfl) g1 rfl (t_179 e20) ?_
              obtain ⟨g21, h⟩ := gd h
              obtain ⟨g22, h⟩ := gd h
              refine ec_iastore g21 g22 rfl ?_
              refine ec_iinc (l' := [(3, .int (p3 + (1 : Int32))), (0, .ref p0), (1, .int p1), (2, .int p2)]) rfl cst_1 rfl rfl ?_
              refine en_goto rfl ?_
              refine en_sub [1, 2, 3, 0] rfl rfl ?_
              exact ih _ _ _ _ _ _ h o M' hk
        · refine en_if_le_f c8 rfl ?_
          refine en_aload rfl rfl ?_
          refine ec_iconst cst_44 rfl ?_
          obtain ⟨⟨q23, C24⟩, e25, h⟩ := gb h
          dsimp only at h
          refine ec_callV0 (k' := 173) (n := 2) (rc := 10) (a := p0) (as := [.int (44 : Int32)]) ⟨rfl, rfl⟩ rfl rfl (Nat.le_of_ble_eq_true rfl) (Nat.le_of_ble_eq_true rfl) (Nat.le_of_ble_eq_true rfl) g1 rfl (t_173 e25) ?_
          refine en_aload rfl rfl ?_
          refine ec_getI (ci := 10) (j := 51) ⟨rfl, rfl, rfl⟩ g1 rfl ?_
          rcases gi h with ⟨c26, h⟩ | ⟨c26, h⟩
          · refine en_if_ne_t c26 rfl ?_
            refine ec_iinc (l' := [(3, .int (p3 + (1 : Int32))), (0, .ref p0), (1, .int p1), (2, .int p2)]) rfl cst_1 rfl rfl ?_
            refine en_goto rfl ?_
            refine en_sub [1, 2, 3, 0] rfl rfl ?_
            exact ih _ _ _ _ _ _ h o M' hk
          · refine en_if_ne_f c26 rfl ?_
            refine en_aload rfl rfl ?_
            obtain ⟨r27, e28, h⟩ := gb h
            refine ec_getP (ci := 10) (j := 39) ⟨rfl, rfl, rfl⟩ g1 e28 rfl ?_
            refine ec_iconst cst_4 rfl ?_
            refine en_iload rfl rfl ?_
            refine en_imul rfl ?_
            refine en_iload rfl rfl ?_
            refine en_iadd rfl ?_
            refine en_aload rfl rfl ?_
            refine en_iload rfl rfl ?_
            refine en_iload rfl rfl ?_
            rcases gi h with ⟨c29, h⟩ | ⟨c29, h⟩
            · refine en_if_ne_t c29 rfl ?_
              refine ec_iconst cst_0 rfl ?_
              obtain ⟨⟨q30, C31⟩, e32, h⟩ := gb h
              dsimp only at h
              refine ec_callV1 (k' := 179) (n := 3) (rc := 10) (a := p0) (as := [.int p2, .int (0 : Int32)]) ⟨rfl, rfl⟩ rfl rfl (Nat.le_of_ble_eq_true rfl) (Nat.le_of_ble_eq_true rfl) (Nat.le_of_ble_eq_true rfl) g1 rfl (t_179 e32) ?_
              obtain ⟨g33, h⟩ := gd h
              obtain ⟨g34, h⟩ := gd h
              refine ec_iastore g33 g34 rfl ?_
              refine ec_iinc (l' := [(3, .int (p3 + (1 : Int32))), (0, .ref p0), (1, .int p1), (2, .int p2)]) rfl cst_1 rfl rfl ?_
              refine en_goto rfl ?_
              refine en_sub [1, 2, 3, 0] rfl rfl ?_
              exact ih _ _ _ _ _ _ h o M' hk
            · refine en_if_ne_f c29 rfl ?_
              refine ec_iconst cst_1 rfl ?_
              refine en_goto rfl ?_
              obtain ⟨⟨q35, C36⟩, e37, h⟩ := gb h
              dsimp only at h
              refine ec_callV1 (k' := 179) (n := 3) (rc := 10) (a := p0) (as := [.int p2, .int (1 : Int32)]) ⟨rfl, rfl⟩ rfl rfl (Nat.le_of_ble_eq_true rfl) (Nat.le_of_ble_eq_true rfl) (Nat.le_of_ble_eq_true rfl) g1 rfl (t_179 e37) ?_
              obtain ⟨g38, h⟩ := gd h
              obtain ⟨g39, h⟩ := gd h
              refine ec_iastore g38 g39 rfl ?_
              refine ec_iinc (l' := [(3, .int (p3 + (1 : Int32))), (0, .ref p0), (1, .int p1), (2, .int p2)]) rfl cst_1 rfl rfl ?_
              refine en_goto rfl ?_
              refine en_sub [1, 2, 3, 0] rfl rfl ?_
              exact ih _ _ _ _ _ _ h o M' hk
/-- BulkWriterModel.freshOnes(IZ)V -/
def f_181 (n : Nat) (a0 : Nat) (a1 : Int32) (a2 : Int32) (C : AmC) : Option (Unit × AmC) := (lp_181_2 n a0 a1 a2 (0 : Int32) C).bind (fun q => match q with | (_, C42) => some ((), C42))
set_option maxRecDepth 20000 in
set_option maxHeartbeats 4000000 in
theorem t_181 {n : Nat} {a0 : Nat} {a1 : Int32} {a2 : Int32} {C : AmC} {r : Unit} {C' : AmC} (h : f_181 n a0 a1 a2 C = some (r, C')) : En false 181 0 [(0, .ref a0), (1, .int a1), (2, .int a2)] [] (mkM C) (.inl none) (mkM C') := by
  unfold f_181 at h
  refine ec_iconst cst_0 rfl ?_
  refine en_istore (l' := [(3, .int (0 : Int32)), (0, .ref a0), (1, .int a1), (2, .int a2)]) rfl rfl ?_
  obtain ⟨⟨q40, C42⟩, e41, h⟩ := gb h
  refine en_sub [1, 2, 3, 0] rfl rfl (lt_181_2 n _ _ _ _ _ _ e41 _ _ ?_)
  dsimp only at h ⊢
  cases h
  exact en_vret rfl
def lp_182_7 : Nat → Nat → Int32 → Int32 → AmC → Option (((Unit) ⊕ (Unit)) × AmC)
  | 0, _, _, _, _ => none
  | n + 1, p0, p1, p2, C => (if p2 = 0 then some ((.inr ()), C) else if isK p0 10 = true then (if ¬ (cI C p0 51) = 0 then some ((.inr ()), C) else (f_169 n p0 C).bind (fun z => match z with | (_, C10) => (cP C10 p0 28).bind (fun r12 => if isK r12 12 = true then if amIn (cI C10 p0 41) (aLen r12) = true then (cP C10 p0 18).bind (fun r16 => (f_179 n p0 (0 : Int32) (1 : Int32) C10).bind (fun z => match z with | (q18, C19) => if isK r16 12 = true then if amIn (((160 : Int32) * (cI C10 p0 41)) + (cI C10 r12 (Int32.toNatClampNeg (cI C10 p0 41)))) (aLen r16) = true then (f_172 n p0 (60 : Int32) (uI C19 r16 (Int32.toNatClampNeg (((160 : Int32) * (cI C10 p0 41)) + (cI C10 r12 (Int32.toNatClampNeg (cI C10 p0 41))))) q18)).bind (fun z => match z with | (q23, C24) => (if ¬ q23 = 0 then (f_170 n p0 (1 : Int32) (1 : Int32) C24).bind (fun z => match z with | (q27, C28) => (if ¬ q27 = 0 then (cP C28 p0 19).bind (fun r31 => if isK r31 12 = true then if amIn (((160 : Int32) * (cI C10 p0 41)) + (cI C10 r12 (Int32.toNatClampNeg (cI C10 p0 41)))) (aLen r31) = true then (f_169 n p0 (uI C28 r31 (Int32.toNatClampNeg (((160 : Int32) * (cI C10 p0 41)) + (cI C10 r12 (Int32.toNatClampNeg (cI C10 p0 41))))) (cI C28 p0 49))).bind (fun z => match z with | (_, C36) => (cP C36 p0 20).bind (fun r38 => (f_179 n p0 (0 : Int32) (1 : Int32) C36).bind (fun z => match z with | (q40, C41) => if isK r38 12 = true then if amIn (((160 : Int32) * (cI C10 p0 41)) + (cI C10 r12 (Int32.toNatClampNeg (cI C10 p0 41)))) (aLen r38) = true then (cP (uI C41 r38 (Int32.toNatClampNeg (((160 : Int32) * (cI C10 p0 41)) + (cI C10 r12 (Int32.toNatClampNeg (cI C10 p0 41))))) q40) p0 28).bind (fun r45 => if isK r45 12 = true then if amIn (cI (uI C41 r38 (Int32.toNatClampNeg (((160 : Int32) * (cI C10 p0 41)) + (cI C10 r12 (Int32.toNatClampNeg (cI C10 p0 41))))) q40) p0 41) (aLen r45) = true then if amIn (cI (uI C41 r38 (Int32.toNatClampNeg (((160 : Int32) * (cI C10 p0 41)) + (cI C10 r12 (Int32.toNatClampNeg (cI C10 p0 41))))) q40) p0 41) (aLen r45) = true then (cP (uI (uI C41 r38 (Int32.toNatClampNeg (((160 : Int32) * (cI C10 p0 41)) + (cI C10 r12 (Int32.toNatClampNeg (cI C10 p0 41))))) q40) r45 (Int32.toNatClampNeg (cI (uI C41 r38 (Int32.toNatClampNeg (((160 : Int32) * (cI C10 p0 41)) + (cI C10 r12 (Int32.toNatClampNeg (cI C10 p0 41))))) q40) p0 41)) ((cI (uI C41 r38 (Int32.toNatClampNeg (((160 : Int32) * (cI C10 p0 41)) + (cI C10 r12 (Int32.toNatClampNeg (cI C10 p0 41))))) q40) r45 (Int32.toNatClampNeg (cI (uI C41 r38 (Int32.toNatClampNeg (((160 : Int32) * (cI C10 p0 41)) + (cI C10 r12 (Int32.toNatClampNeg (cI C10 p0 41))))) q40) p0 41))) + (1 : Int32))) p0 37).bind (fun r50 => if isK r50 12 = true then if amIn p1 (aLen r50) = true then if amIn p1 (aLen r50) = true then (f_171 n p0 (12 : Int32) (uI (uI (uI C41 r38 (Int32.toNatClampNeg (((160 : Int32) * (cI C10 p0 41)) + (cI C10 r12 (Int32.toNatClampNeg (cI C10 p0 41))))) q40) r45 (Int32.toNatClampNeg (cI (uI C41 r38 (Int32.toNatClampNeg (((160 : Int32) * (cI C10 p0 41)) + (cI C10 r12 (Int32.toNatClampNeg (cI C10 p0 41))))) q40) p0 41)) ((cI (uI C41 r38 (Int32.toNatClampNeg (((160 : Int32) * (cI C10 p0 41)) + (cI C10 r12 (Int32.toNatClampNeg (cI C10 p0 41))))) q40) r45 (Int32.toNatClampNeg (cI (uI C41 r38 (Int32.toNatClampNeg (((160 : Int32) * (cI C10 p0 41)) + (cI C10 r12 (Int32.toNatClampNeg (cI C10 p0 41))))) q40) p0 41))) + (1 : Int32))) r50 (Int32.toNatClampNeg p1) ((cI (uI (uI C41 r38 (Int32.toNatClampNeg (((160 : Int32) * (cI C10 p0 41)) + (cI C10 r12 (Int32.toNatClampNeg (cI C10 p0 41))))) q40) r45 (Int32.toNatClampNeg (cI (uI C41 r38 (Int32.toNatClampNeg (((160 : Int32) * (cI C10 p0 41)) + (cI C10 r12 (Int32.toNatClampNeg (cI C10 p0 41))))) q40) p0 41)) ((cI (uI C41 r38 (Int32.toNatClampNeg (((160 : Int32) * (cI C10 p0 41)) + (cI C10 r12 (Int32.toNatClampNeg (cI C10 p0 41))))) q40) r45 (Int32.toNatClampNeg (cI (uI C41 r38 (Int32.toNatClampNeg (((160 : Int32) * (cI C10 p0 41)) + (cI C10 r12 (Int32.toNatClampNeg (cI C10 p0 41))))) q40) p0 41))) + (1 : Int32))) r50 (Int32.toNatClampNeg p1)) + (1 : Int32)))).bind (fun z => match z with | (q55, C56) => lp_182_7 n p0 p1 q55 C56) else none else none else none) else none else none else none) else none else none))) else none else none) else some ((.inl ()), C28))) else (f_172 n p0 (61 : Int32) C24).bind (fun z => match z with | (q58, C59) => (if ¬ q58 = 0 then (f_170 n p0 (1 : Int32) (1 : Int32) C59).bind (fun z => match z with | (q62, C63) => (if ¬ q62 = 0 then (cP C63 p0 19).bind (fun r66 => if isK r66 12 = true then if amIn (((160 : Int32) * (cI C10 p0 41)) + (cI C10 r12 (Int32.toNatClampNeg (cI C10 p0 41)))) (aLen r66) = true then (f_169 n p0 (uI C63 r66 (Int32.toNatClampNeg (((160 : Int32) * (cI C10 p0 41)) + (cI C10 r12 (Int32.toNatClampNeg (cI C10 p0 41))))) (cI C63 p0 49))).bind (fun z => match z with | (_, C71) => (cP C71 p0 20).bind (fun r73 => (f_179 n p0 (0 : Int32) (1 : Int32) C71).bind (fun z => match z with | (q75, C76) => if isK r73 12 = true then if amIn (((160 : Int32) * (cI C10 p0 41)) + (cI C10 r12 (Int32.toNatClampNeg (cI C10 p0 41)))) (aLen r73) = true then (cP (uI C76 r73 (Int32.toNatClampNeg (((160 : Int32) * (cI C10 p0 41)) + (cI C10 r12 (Int32.toNatClampNeg (cI C10 p0 41))))) q75) p0 28).bind (fun r80 => if isK r80 12 = true then if amIn (cI (uI C76 r73 (Int32.toNatClampNeg (((160 : Int32) * (cI C10 p0 41)) + (cI C10 r12 (Int32.toNatClampNeg (cI C10 p0 41))))) q75) p0 41) (aLen r80) = true then if amIn (cI (uI C76 r73 (Int32.toNatClampNeg (((160 : Int32) * (cI C10 p0 41)) + (cI C10 r12 (Int32.toNatClampNeg (cI C10 p0 41))))) q75) p0 41) (aLen r80) = true then (cP (uI (uI C76 r73 (Int32.toNatClampNeg (((160 : Int32) * (cI C10 p0 41)) + (cI C10 r12 (Int32.toNatClampNeg (cI C10 p0 41))))) q75) r80 (Int32.toNatClampNeg (cI (uI C76 r73 (Int32.toNatClampNeg (((160 : Int32) * (cI C10 p0 41)) + (cI C10 r12 (Int32.toNatClampNeg (cI C10 p0 41))))) q75) p0 41)) ((cI (uI C76 r73 (Int32.toNatClampNeg (((160 : Int32) * (cI C10 p0 41)) + (cI C10 r12 (Int32.toNatClampNeg (cI C10 p0 41))))) q75) r80 (Int32.toNatClampNeg (cI (uI C76 r73 (Int32.toNatClampNeg (((160 : Int32) * (cI C10 p0 41)) + (cI C10 r12 (Int32.toNatClampNeg (cI C10 p0 41))))) q75) p0 41))) + (1 : Int32))) p0 37).bind (fun r85 => if isK r85 12 = true then if amIn p1 (aLen r85) = true then if amIn p1 (aLen r85) = true then (f_171 n p0 (12 : Int32) (uI (uI (uI C76 r73 (Int32.toNatClampNeg (((160 : Int32) * (cI C10 p0 41)) + (cI C10 r12 (Int32.toNatClampNeg (cI C10 p0 41))))) q75) r80 (Int32.toNatClampNeg (cI (uI C76 r73 (Int32.toNatClampNeg (((160 : Int32) * (cI C10 p0 41)) + (cI C10 r12 (Int32.toNatClampNeg (cI C10 p0 41))))) q75) p0 41)) ((cI (uI C76 r73 (Int32.toNatClampNeg (((160 : Int32) * (cI C10 p0 41)) + (cI C10 r12 (Int32.toNatClampNeg (cI C10 p0 41))))) q75) r80 (Int32.toNatClampNeg (cI (uI C76 r73 (Int32.toNatClampNeg (((160 : Int32) * (cI C10 p0 41)) + (cI C10 r12 (Int32.toNatClampNeg (cI C10 p0 41))))) q75) p0 41))) + (1 : Int32))) r85 (Int32.toNatClampNeg p1) ((cI (uI (uI C76 r73 (Int32.toNatClampNeg (((160 : Int32) * (cI C10 p0 41)) + (cI C10 r12 (Int32.toNatClampNeg (cI C10 p0 41))))) q75) r80 (Int32.toNatClampNeg (cI (uI C76 r73 (Int32.toNatClampNeg (((160 : Int32) * (cI C10 p0 41)) + (cI C10 r12 (Int32.toNatClampNeg (cI C10 p0 41))))) q75) p0 41)) ((cI (uI C76 r73 (Int32.toNatClampNeg (((160 : Int32) * (cI C10 p0 41)) + (cI C10 r12 (Int32.toNatClampNeg (cI C10 p0 41))))) q75) r80 (Int32.toNatClampNeg (cI (uI C76 r73 (Int32.toNatClampNeg (((160 : Int32) * (cI C10 p0 41)) + (cI C10 r12 (Int32.toNatClampNeg (cI C10 p0 41))))) q75) p0 41))) + (1 : Int32))) r85 (Int32.toNatClampNeg p1)) + (1 : Int32)))).bind (fun z => match z with | (q90, C91) => lp_182_7 n p0 p1 q90 C91) else none else none else none) else none else none else none) else none else none))) else none else none) else some ((.inl ()), C63))) else (f_172 n p0 (62 : Int32) C59).bind (fun z => match z with | (q93, C94) => (if q93 = 0 then (f_170 n p0 (0 : Int32) (1 : Int32) C94).bind (fun z => match z with | (q97, C98) => (if ¬ q97 = 0 then (cP C98 p0 19).bind (fun r101 => if isK r101 12 = true then if amIn (((160 : Int32) * (cI C10 p0 41)) + (cI C10 r12 (Int32.toNatClampNeg (cI C10 p0 41)))) (aLen r101) = true then (f_169 n p0 (uI C98 r101 (Int32.toNatClampNeg (((160 : Int32) * (cI C10 p0 41)) + (cI C10 r12 (Int32.toNatClampNeg (cI C10 p0 41))))) (cI C98 p0 49))).bind (fun z => match z with | (_, C106) => (cP C106 p0 20).bind (fun r108 => (f_179 n p0 (0 : Int32) (1 : Int32) C106).bind (fun z => match z with | (q110, C111) => if isK r108 12 = true then if amIn (((160 : Int32) * (cI C10 p0 41)) + (cI C10 r12 (Int32.toNatClampNeg (cI C10 p0 41)))) (aLen r108) = true then (cP (uI C111 r108 (Int32.toNatClampNeg (((160 : Int32) * (cI C10 p0 41)) + (cI C10 r12 (Int32.toNatClampNeg (cI C10 p0 41))))) q110) p0 28).bind (fun r115 => if isK r115 12 = true then if amIn (cI (uI C111 r108 (Int32.toNatClampNeg (((160 : Int32) * (cI C10 p0 41)) + (cI C10 r12 (Int32.toNatClampNeg (cI C10 p0 41))))) q110) p0 41) (aLen r115) = true then if amIn (cI (uI C111 r108 (Int32.toNatClampNeg (((160 : Int32) * (cI C10 p0 41)) + (cI C10 r12 (Int32.toNatClampNeg (cI C10 p0 41))))) q110) p0 41) (aLen r115) = true then (cP (uI (uI C111 r108 (Int32.toNatClampNeg (((160 : Int32) * (cI C10 p0 41)) + (cI C10 r12 (Int32.toNatClampNeg (cI C10 p0 41))))) q110) r115 (Int32.toNatClampNeg (cI (uI C111 r108 (Int32.toNatClampNeg (((160 : Int32) * (cI C10 p0 41)) + (cI C10 r12 (Int32.toNatClampNeg (cI C10 p0 41))))) q110) p0 41)) ((cI (uI C111 r108 (Int32.toNatClampNeg (((160 : Int32) * (cI C10 p0 41)) + (cI C10 r12 (Int32.toNatClampNeg (cI C10 p0 41))))) q110) r115 (Int32.toNatClampNeg (cI (uI C111 r108 (Int32.toNatClampNeg (((160 : Int32) * (cI C10 p0 41)) + (cI C10 r12 (Int32.toNatClampNeg (cI C10 p0 41))))) q110) p0 41))) + (1 : Int32))) p0 37).bind (fun r120 => if isK r120 12 = true then if amIn p1 (aLen r120) = true then if amIn p1 (aLen r120) = true then (f_171 n p0 (12 : Int32) (uI (uI (uI C111 r108 (Int32.toNatClampNeg (((160 : Int32) * (cI C10 p0 41)) + (cI C10 r12 (Int32.toNatClampNeg (cI C10 p0 41))))) q110) r115 (Int32.toNatClampNeg (cI (uI C111 r108 (Int32.toNatClampNeg (((160 : Int32) * (cI C10 p0 41)) + (cI C10 r12 (Int32.toNatClampNeg (cI C10 p0 41))))) q110) p0 41)) ((cI (uI C111 r108 (Int32.toNatClampNeg (((160 : Int32) * (cI C10 p0 41)) + (cI C10 r12 (Int32.toNatClampNeg (cI C10 p0 41))))) q110) r115 (Int32.toNatClampNeg (cI (uI C111 r108 (Int32.toNatClampNeg (((160 : Int32) * (cI C10 p0 41)) + (cI C10 r12 (Int32.toNatClampNeg (cI C10 p0 41))))) q110) p0 41))) + (1 : Int32))) r120 (Int32.toNatClampNeg p1) ((cI (uI (uI C111 r108 (Int32.toNatClampNeg (((160 : Int32) * (cI C10 p0 41)) + (cI C10 r12 (Int32.toNatClampNeg (cI C10 p0 41))))) q110) r115 (Int32.toNatClampNeg (cI (uI C111 r108 (Int32.toNatClampNeg (((160 : Int32) * (cI C10 p0 41)) + (cI C10 r12 (Int32.toNatClampNeg (cI C10 p0 41))))) q110) p0 41)) ((cI (uI C111 r108 (Int32.toNatClampNeg (((160 : Int32) * (cI C10 p0 41)) + (cI C10 r12 (Int32.toNatClampNeg (cI C10 p0 41))))) q110) r115 (Int32.toNatClampNeg (cI (uI C111 r108 (Int32.toNatClampNeg (((160 : Int32) * (cI C10 p0 41)) + (cI C10 r12 (Int32.toNatClampNeg (cI C10 p0 41))))) q110) p0 41))) + (1 : Int32))) r120 (Int32.toNatClampNeg p1)) + (1 : Int32)))).bind (fun z => match z with | (q125, C126) => lp_182_7 n p0 p1 q125 C126) else none else none else none) else none else none else none) else none else none))) else none else none) else some ((.inl ()), C98))) else (f_170 n p0 (1 : Int32) (1 : Int32) C94).bind (fun z => match z with | (q128, C129) => (if ¬ q128 = 0 then (cP C129 p0 19).bind (fun r132 => if isK r132 12 = true then if amIn (((160 : Int32) * (cI C10 p0 41)) + (cI C10 r12 (Int32.toNatClampNeg (cI C10 p0 41)))) (aLen r132) = true then (f_169 n p0 (uI C129 r132 (Int32.toNatClampNeg (((160 : Int32) * (cI C10 p0 41)) + (cI C10 r12 (Int32.toNatClampNeg (cI C10 p0 41))))) (cI C129 p0 49))).bind (fun z => match z with | (_, C137) => (cP C137 p0 20).bind (fun r139 => (f_179 n p0 (0 : Int32) (1 : Int32) C137).bind (fun z => match z with | (q141, C142) => if isK r139 12 = true then if amIn (((160 : Int32) * (cI C10 p0 41)) + (cI C10 r12 (Int32.toNatClampNeg (cI C10 p0 41)))) (aLen r139) = true then (cP (uI C142 r139 (Int32.toNatClampNeg (((160 : Int32) * (cI C10 p0 41)) + (cI C10 r12 (Int32.toNatClampNeg (cI C10 p0 41))))) q141) p0 28).bind (fun r146 => if isK r146 12 = true then if amIn (cI (uI C142 r139 (Int32.toNatClampNeg (((160 : Int32) * (cI C10 p0 41)) + (cI C10 r12 (Int32.toNatClampNeg (cI C10 p0 41))))) q141) p0 41) (aLen r146) = true then if amIn (cI (uI C142 r139 (Int32.toNatClampNeg (((160 : Int32) * (cI C10 p0 41)) + (cI C10 r12 (Int32.toNatClampNeg (cI C10 p0 41))))) q141) p0 41) (aLen r146) = true then (cP (uI (uI C142 r139 (Int32.toNatClampNeg (((160 : Int32) * (cI C10 p0 41)) + (cI C10 r12 (Int32.toNatClampNeg (cI C10 p0 41))))) q141) r146 (Int32.toNatClampNeg (cI (uI C142 r139 (Int32.toNatClampNeg (((160 : Int32) * (cI C10 p0 41)) + (cI C10 r12 (Int32.toNatClampNeg (cI C10 p0 41))))) q141) p0 41)) ((cI (uI C142 r139 (Int32.toNatClampNeg (((160 : Int32) * (cI C10 p0 41)) + (cI C10 r12 (Int32.toNatClampNeg (cI C10 p0 41))))) q141) r146 (Int32.toNatClampNeg (cI (uI C142 r139 (Int32.toNatClampNeg (((160 : Int32) * (cI C10 p0 41)) + (cI C10 r12 (Int32.toNatClampNeg (cI C10 p0 41))))) q141) p0 41))) + (1 : Int32))) p0 37).bind (fun r151 => if isK r151 12 = true then if amIn p1 (aLen r151) = true then if amIn p1 (aLen r151) = true then (f_171 n p0 (12 : Int32) (uI (uI (uI C142 r139 (Int32.toNatClampNeg (((160 : Int32) * (cI C10 p0 41)) + (cI C10 r12 (Int32.toNatClampNeg (cI C10 p0 41))))) q141) r146 (Int32.toNatClampNeg (cI (uI C142 r139 (Int32.toNatClampNeg (((160 : Int32) * (cI C10 p0 41)) + (cI C10 r12 (Int32.toNatClampNeg (cI C10 p0 41))))) q141) p0 41)) ((cI (uI C142 r139 (Int32.toNatClampNeg (((160 : Int32) * (cI C10 p0 41)) + (cI C10 r12 (Int32.toNatClampNeg (cI C10 p0 41))))) q141) r146 (Int32.toNatClampNeg (cI (uI C142 r139 (Int32.toNatClampNeg (((160 : Int32) * (cI C10 p0 41)) + (cI C10 r12 (Int32.toNatClampNeg (cI C10 p0 41))))) q141) p0 41))) + (1 : Int32))) r151 (Int32.toNatClampNeg p1) ((cI (uI (uI C142 r139 (Int32.toNatClampNeg (((160 : Int32) * (cI C10 p0 41)) + (cI C10 r12 (Int32.toNatClampNeg (cI C10 p0 41))))) q141) r146 (Int32.toNatClampNeg (cI (uI C142 r139 (Int32.toNatClampNeg (((160 : Int32) * (cI C10 p0 41)) + (cI C10 r12 (Int32.toNatClampNeg (cI C10 p0 41))))) q141) p0 41)) ((cI (uI C142 r139 (Int32.toNatClampNeg (((160 : Int32) * (cI C10 p0 41)) + (cI C10 r12 (Int32.toNatClampNeg (cI C10 p0 41))))) q141) r146 (Int32.toNatClampNeg (cI (uI C142 r139 (Int32.toNatClampNeg (((160 : Int32) * (cI C10 p0 41)) + (cI C10 r12 (Int32.toNatClampNeg (cI C10 p0 41))))) q141) p0 41))) + (1 : Int32))) r151 (Int32.toNatClampNeg p1)) + (1 : Int32)))).bind (fun z => match z with | (q156, C157) => lp_182_7 n p0 p1 q156 C157) else none else none else none) else none else none else none) else none else none))) else none else none) else some ((.inl ()), C129))))))))) else none else none)) else none else none))) else none)
set_option maxRecDepth 20000 in
set_option maxHeartbeats 4000000 in
theorem lt_182_7 : ∀ (n : Nat) (p0 : Nat) (p1 : Int32) (p2 : Int32) (C : AmC) (r : ((Unit) ⊕ (Unit)) × AmC), lp_182_7 n p0 p1 p2 C = some r → ∀ (o : AmO) (M' : AmM), (match r with
        | ((.inl _), C') => En false 182 52 [] [] (mkM C') o M'
        | ((.inr _), C') => En false 182 91 [] [] (mkM C') o M') → En false 182 7 [(0, .ref p0), (1, .int p1), (2, .int p2)] [] (mkM C) o M' := by
  intro n
  induction n with
  | zero => intro p0 p1 p2 C r h; cases h
  | succ n ih =>
    intro p0 p1 p2 C r h o M' hk
    unfold lp_182_7 at h
    refine en_iload rfl rfl ?_
    rcases gi h with ⟨c6, h⟩ | ⟨c6, h⟩
    · refine en_if_eq_t c6 rfl ?_
      cases h
      exact en_sub [] rfl rfl hk
    · refine en_if_eq_f c6 rfl ?_
      refine en_aload rfl rfl ?_
      obtain ⟨g7, h⟩ := gd h
      refine ec_getI (ci := 10) (j := 51) ⟨rfl, rfl, rfl⟩ g7 rfl ?_
      rcases gi h with ⟨c8, h⟩ | ⟨c8, h⟩
      · refine en_if_ne_t c8 rfl ?_
        cases h
        exact en_sub [] rfl rfl hk
      · refine en_if_ne_f c8 rfl ?_
        refine en_aload rfl rfl ?_
        obtain ⟨⟨q9, C10⟩, e11, h⟩ := gb h
        dsimp only at h
        refine ec_callV0 (k' := 169) (n := 1) (rc := 10) (a := p0) (as := []) ⟨rfl, rfl⟩ rfl rfl (Nat.le_of_ble_eq_true rfl) (Nat.le_of_ble_eq_true rfl) (Nat.le_of_ble_eq_true rfl) g7 rfl (t_169 e11) ?_
        refine ec_iconst cst_160 rfl ?_
        refine en_aload rfl rfl ?_
        refine ec_getI (ci := 10) (j := 41) ⟨rfl, rfl, rfl⟩ g7 rfl ?_
        refine en_imul rfl ?_
        refine en_aload rfl rfl ?_
        obtain ⟨r12, e13, h⟩ := gb h
        refine ec_getP (ci := 10) (j := 28) ⟨rfl, rfl, rfl⟩ g7 e13 rfl ?_
        refine en_aload rfl rfl ?_
        refine ec_getI (ci := 10) (j := 41) ⟨rfl, rfl, rfl⟩ g7 rfl ?_
        obtain ⟨g14, h⟩ := gd h
        obtain ⟨g15, h⟩ := gd h
        refine ec_iaload g14 g15 rfl ?_
        refine en_iadd rfl ?_
        refine en_istore (l' := [(3, .int (((160 : Int32) * (cI C10 p0 41)) + (cI C10 r12 (Int32.toNatClampNeg (cI C10 p0 41))))), (0, .ref p0), (1, .int p1), (2, .int p2)]) rfl rfl ?_
        refine en_aload rfl rfl ?_
        obtain ⟨r16, e17, h⟩ := gb h
        refine ec_getP (ci := 10) (j := 18) ⟨rfl, rfl, rfl⟩ g7 e17 rfl ?_
        refine en_iload rfl rfl ?_
        refine en_aload rfl rfl ?_
        refine ec_iconst cst_0 rfl ?_
        refine ec_iconst cst_1 rfl ?_
        obtain ⟨⟨q18, C19⟩, e20, h⟩ := gb h
        dsimp only at h
        refine ec_callV1 (k' := 179) (n := 3) (rc := 10) (a := p0) (as := [.int (0 : Int32), .int (1 : Int32)]) ⟨rfl, rfl⟩ rfl rfl (Nat.le_of_ble_eq_true rfl) (Nat.le_of_ble_eq_true rfl) (Nat.le_of_ble_eq_true rfl) g7 rfl (t_179 e20) ?_
        obtain ⟨g21, h⟩ := gd h
        obtain ⟨g22, h⟩ := gd h
        refine ec_iastore g21 g22 rfl ?_
        refine en_aload rfl rfl ?_
        refine en_aload rfl rfl ?_
        refine ec_iconst cst_60 rfl ?_
        obtain ⟨⟨q23, C24⟩, e25, h⟩ := gb h
        dsimp only at h
        refine ec_callV1 (k' := 172) (n := 2) (rc := 10) (a := p0) (as := [.int (60 : Int32)]) ⟨rfl, rfl⟩ rfl rfl (Nat.le_of_ble_eq_true rfl) (Nat.le_of_ble_eq_true rfl) (Nat.le_of_ble_eq_true rfl) g7 rfl (t_172 e25) ?_
        rcases gi h with ⟨c26, h⟩ | ⟨c26, h⟩
        · refine en_if_ne_t c26 rfl ?_
          refine ec_iconst cst_1 rfl ?_
          refine en_goto rfl ?_
          refine ec_iconst cst_1 rfl ?_
          obtain ⟨⟨q27, C28⟩, e29, h⟩ := gb h
          dsimp only at h
          refine ec_callV1 (k' := 170) (n := 3) (rc := 10) (a := p0) (as := [.int (1 : Int32), .int (1 : Int32)]) ⟨rfl, rfl⟩ rfl rfl (Nat.le_of_ble_eq_true rfl) (Nat.le_of_ble_eq_true rfl) (Nat.le_of_ble_eq_true rfl) g7 rfl (t_170 e29) ?_
          rcases gi h with ⟨c30, h⟩ | ⟨c30, h⟩
          · refine en_if_ne_t c30 rfl ?_
            refine en_aload rfl rfl ?_
            obtain ⟨r31, e32, h⟩ := gb h
            refine ec_getP (ci := 10) (j := 19) ⟨rfl, rfl, rfl⟩ g7 e32 rfl ?_
            refine en_iload rfl rfl ?_
            refine en_aload rfl rfl ?_
            refine ec_getI (ci := 10) (j := 49) ⟨rfl, rfl, rfl⟩ g7 rfl ?_
            obtain ⟨g33, h⟩ := gd h
            obtain ⟨g34, h⟩ := gd h
            refine ec_iastore g33 g34 rfl ?_
            refine en_aload rfl rfl ?_
            obtain ⟨⟨q35, C36⟩, e37, h⟩ := gb h
            dsimp only at h
            refine ec_callV0 (k' := 169) (n := 1) (rc := 10) (a := p0) (as := []) ⟨rfl, rfl⟩ rfl rfl (Nat.le_of_ble_eq_true rfl) (Nat.le_of_ble_eq_true rfl) (Nat.le_of_ble_eq_true rfl) g7 rfl (t_169 e37) ?_
            refine en_aload rfl rfl ?_
            obtain ⟨r38, e39, h⟩ := gb h
            refine ec_getP (ci := 10) (j := 20) ⟨rfl, rfl, rfl⟩ g7 e39 rfl ?_
            refine en_iload rfl rfl ?_
            refine en_aload rfl rfl ?_
            refine ec_iconst cst_0 rfl ?_
            refine ec_iconst cst_1 rfl ?_
            obtain ⟨⟨q40, C41⟩, e42, h⟩ := gb h
            dsimp only at h
            refine ec_callV1 (k' := 179) (n := 3) (rc := 10) (a := p0) (as := [.int (0 : Int32), .int (1 : Int32)]) ⟨rfl, rfl⟩ rfl rfl (Nat.le_of_ble_eq_true rfl) (Nat.le_of_ble_eq_true rfl) (Nat.le_of_ble_eq_true rfl) g7 rfl (t_179 e42) ?_
            obtain ⟨g43, h⟩ := gd h
            obtain ⟨g44, h⟩ := gd h
            refine ec_iastore g43 g44 rfl ?_
            refine en_aload rfl rfl ?_
            obtain ⟨r45, e46, h⟩ := gb h
            refine ec_getP (ci := 10) (j := 28) ⟨rfl, rfl, rfl⟩ g7 e46 rfl ?_
            refine en_aload rfl rfl ?_
            refine ec_getI (ci := 10) (j := 41) ⟨rfl, rfl, rfl⟩ g7 rfl ?_
            refine en_dup2 ⟨rfl, rfl⟩ rfl ?_
            obtain ⟨g47, h⟩ := gd h
            obtain ⟨g48, h⟩ := gd h
            refine ec_iaload g47 g48 rfl ?_
            refine ec_iconst cst_1 rfl ?_
            refine en_iadd rfl ?_
            obtain ⟨g49, h⟩ := gd h
            refine ec_iastore g47 g49 rfl ?_
            refine en_aload rfl rfl ?_
            obtain ⟨r50, e51, h⟩ := gb h
            refine ec_getP (ci := 10) (j := 37) ⟨rfl, rfl, rfl⟩ g7 e51 rfl ?_
            refine en_iload rfl rfl ?_
            refine en_dup2 ⟨rfl, rfl⟩ rfl ?_
            obtain ⟨g52, h⟩ := gd h
            obtain ⟨g53, h⟩ := gd h
            refine ec_iaload g52 g53 rfl ?_
            refine ec_iconst cst_1 rfl ?_
            refine en_iadd rfl ?_
            obtain ⟨g54, h⟩ := gd h
            refine ec_iastore g52 g54 rfl ?_
            refine en_aload rfl rfl ?_
            refine ec_iconst cst_12 rfl ?_
            obtain ⟨⟨q55, C56⟩, e57, h⟩ := gb h
            dsimp only at h
            refine ec_callV1 (k' := 171) (n := 2) (rc := 10) (a := p0) (as := [.int (12 : Int32)]) ⟨rfl, rfl⟩ rfl rfl (Nat.le_of_ble_eq_true rfl) (Nat.le_of_ble_eq_true rfl) (Nat.le_of_ble_eq_true rfl) g7 rfl (t_171 e57) ?_
            refine en_istore (l' := [(2, .int q55), (3, .int (((160 : Int32) * (cI C10 p0 41)) + (cI C10 r12 (Int32.toNatClampNeg (cI C10 p0 41))))), (0, .ref p0), (1, .int p1)]) rfl rfl ?_
            refine en_goto rfl ?_
            refine en_sub [2, 3, 0] rfl rfl ?_
            exact ih _ _ _ _ _ h o M' hk
          · refine en_if_ne_f c30 rfl ?_
            cases h
            exact en_sub [] rfl rfl hk
        · refine en_if_ne_f c26 rfl ?_
          refine en_aload rfl rfl ?_
          refine ec_iconst cst_61 rfl ?_
          obtain ⟨⟨q58, C59⟩, e60, h⟩ := gb h
          dsimp only at h
          refine ec_callV1 (k' := 172) (n := 2) (rc := 10) (a := p0) (as := [.int (61 : Int32)]) ⟨rfl, rfl⟩ rfl rfl (Nat.le_of_ble_eq_true rfl) (Nat.le_of_ble_eq_true rfl) (Nat.le_of_ble_eq_true rfl) g7 rfl (t_172 e60) ?_
          rcases gi h with ⟨c61, h⟩ | ⟨c61, h⟩
          · refine en_if_ne_t c61 rfl ?_
            refine ec_iconst cst_1 rfl ?_
            refine en_goto rfl ?_
            refine ec_iconst cst_1 rfl ?_
            obtain ⟨⟨q62, C63⟩, e64, h⟩ := gb h
            dsimp only at h
            refine ec_callV1 (k' := 170) (n := 3) (rc := 10) (a := p0) (as := [.int (1 : Int32), .int (1 : Int32)]) ⟨rfl, rfl⟩ rfl rfl (Nat.le_of_ble_eq_true rfl) (Nat.le_of_ble_eq_true rfl) (Nat.le_of_ble_eq_true rfl) g7 rfl (t_170 e64) ?_
            rcases gi h with ⟨c65, h⟩ | ⟨c65, h⟩
            · refine en_if_ne_t c65 rfl ?_
              refine en_aload rfl rfl ?_
              obtain ⟨r66, e67, h⟩ := gb h
              refine ec_getP (ci := 10) (j := 19) ⟨rfl, rfl, rfl⟩ g7 e67 rfl ?_
              refine en_iload rfl rfl ?_
              refine en_aload rfl rfl ?_
              refine ec_getI (ci := 10) (j := 49) ⟨rfl, rfl, rfl⟩ g7 rfl ?_
              obtain ⟨g68, h⟩ := gd h
              obtain ⟨g69, h⟩ := gd h
              refine ec_iastore g68 g69 rfl ?_
              refine en_aload rfl rfl ?_
              obtain ⟨⟨q70, C71⟩, e72, h⟩ := gb h
              dsimp only at h
              refine ec_callV0 (k' := 169) (n := 1) (rc := 10) (a := p0) (as := []) ⟨rfl, rfl⟩ rfl rfl (Nat.le_of_ble_eq_true rfl) (Nat.le_of_ble_eq_true rfl) (Nat.le_of_ble_eq_true rfl) g7 rfl (t_169 e72) ?_
              refine en_aload rfl rfl ?_
              obtain ⟨r73, e74, h⟩ := gb h
              refine ec_getP (ci := 10) (j := 20) ⟨rfl, rfl, rfl⟩ g7 e74 rfl ?_
              refine en_iload rfl rfl ?_
              refine en_aload rfl rfl ?_
              refine ec_iconst cst_0 rfl ?_
              refine ec_iconst cst_1 rfl ?_
              obtain ⟨⟨q75, C76⟩, e77, h⟩ := gb h
              dsimp only at h
              refine ec_callV1 (k' := 179) (n := 3) (rc := 10) (a := p0) (as := [.int (0 : Int32), .int (1 : Int32)]) ⟨rfl, rfl⟩ rfl rfl (Nat.le_of_ble_eq_true rfl) (Nat.le_of_ble_eq_true rfl) (Nat.le_of_ble_eq_true rfl) g7 rfl (t_179 e77) ?_
              obtain ⟨g78, h⟩ := gd h
              obtain ⟨g79, h⟩ := gd h
              refine ec_iastore g78 g79 rfl ?_
              refine en_aload rfl rfl ?_
              obtain ⟨r80, e81, h⟩ := gb h
              refine ec_getP (ci := 10) (j := 28) ⟨rfl, rfl, rfl⟩ g7 e81 rfl ?_
              refine en_aload rfl rfl ?_
              refine ec_getI (ci := 10) (j := 41) ⟨rfl, rfl, rfl⟩ g7 rfl ?_
              refine en_dup2 ⟨rfl, rfl⟩ rfl ?_
              obtain ⟨g82, h⟩ := gd h
              obtain ⟨g83, h⟩ := gd h
              refine ec_iaload g82 g83 rfl ?_
              refine ec_iconst cst_1 rfl ?_
              refine en_iadd rfl ?_
              obtain ⟨g84, h⟩ := gd h
              refine ec_iastore g82 g84 rfl ?_
              refine en_aload rfl rfl ?_
              obtain ⟨r85, e86, h⟩ := gb h
              refine ec_getP (ci := 10) (j := 37) ⟨rfl, rfl, rfl⟩ g7 e86 rfl ?_
              refine en_iload rfl rfl ?_
              refine en_dup2 ⟨rfl, rfl⟩ rfl ?_
              obtain ⟨g87, h⟩ := gd h
              obtain ⟨g88, h⟩ := gd h
              refine ec_iaload g87 g88 rfl ?_
              refine ec_iconst cst_1 rfl ?_
              refine en_iadd rfl ?_
              obtain ⟨g89, h⟩ := gd h
              refine ec_iastore g87 g89 rfl ?_
              refine en_aload rfl rfl ?_
              refine ec_iconst cst_12 rfl ?_
              obtain ⟨⟨q90, C91⟩, e92, h⟩ := gb h
              dsimp only at h
              refine ec_callV1 (k' := 171) (n := 2) (rc := 10) (a := p0) (as := [.int (12 : Int32)]) ⟨rfl, rfl⟩ rfl rfl (Nat.le_of_ble_eq_true rfl) (Nat.le_of_ble_eq_true rfl) (Nat.le_of_ble_eq_true rfl) g7 rfl (t_171 e92) ?_
              refine en_istore (l' := [(2, .int q90), (3, .int (((160 : Int32) * (cI C10 p0 41)) + (cI C10 r12 (Int32.toNatClampNeg (cI C10 p0 41))))), (0, .ref p0), (1, .int p1)]) rfl rfl ?_
              refine en_goto rfl ?_
              refine en_sub [2, 3, 0] rfl rfl ?_
              exact ih _ _ _ _ _ h o M' hk
            · refine en_if_ne_f c65 rfl ?_
              cases h
              exact en_sub [] rfl rfl hk
          · refine en_if_ne_f c61 rfl ?_
            refine en_aload rfl rfl ?_
            refine ec_iconst cst_62 rfl ?_
            obtain ⟨⟨q93, C94⟩, e95, h⟩ := gb h
            dsimp only at h
            refine ec_callV1 (k' := 172) (n := 2) (rc := 10) (a := p0) (as := [.int (62 : Int32)]) ⟨rfl, rfl⟩ rfl rfl (Nat.le_of_ble_eq_true rfl) (Nat.le_of_ble_eq_true rfl) (Nat.le_of_ble_eq_true rfl) g7 rfl (t_172 e95) ?_
            rcases gi h with ⟨c96, h⟩ | ⟨c96, h⟩
            · refine en_if_eq_t c96 rfl ?_
              refine ec_iconst cst_0 rfl ?_
              refine ec_iconst cst_1 rfl ?_
              obtain ⟨⟨q97, C98⟩, e99, h⟩ := gb h
              dsimp only at h
              refine ec_callV1 (k' := 170) (n := 3) (rc := 10) (a := p0) (as := [.int (0 : Int32), .int (1 : Int32)]) ⟨rfl, rfl⟩ rfl rfl (Nat.le_of_ble_eq_true rfl) (Nat.le_of_ble_eq_true rfl) (Nat.le_of_ble_eq_true rfl) g7 rfl (t_170 e99) ?_
              rcases gi h with ⟨c100, h⟩ | ⟨c100, h⟩
              · refine en_if_ne_t c100 rfl ?_
                refine en_aload rfl rfl ?_
                obtain ⟨r101, e102, h⟩ := gb h
                refine ec_getP (ci := 10) (j := 19) ⟨rfl, rfl, rfl⟩ g7 e102 rfl ?_
                refine en_iload rfl rfl ?_
                refine en_aload rfl rfl ?_
                refine ec_getI (ci := 10) (j := 49) ⟨rfl, rfl, rfl⟩ g7 rfl ?_
                obtain ⟨g103, h⟩ := gd h
                obtain ⟨g104, h⟩ := gd h
                refine ec_iastore g103 g104 rfl ?_
                refine en_aload rfl rfl ?_
                obtain ⟨⟨q105, C106⟩, e107, h⟩ := gb h
                dsimp only at h
                refine ec_callV0 (k' := 169) (n := 1) (rc := 10) (a := p0) (as := []) ⟨rfl, rfl⟩ rfl rfl (Nat.le_of_ble_eq_true rfl) (Nat.le_of_ble_eq_true rfl) (Nat.le_of_ble_eq_true rfl) g7 rfl (t_169 e107) ?_
                refine en_aload rfl rfl ?_
                obtain ⟨r108, e109, h⟩ := gb h
                refine ec_getP (ci := 10) (j := 20) ⟨rfl, rfl, rfl⟩ g7 e109 rfl ?_
                refine en_iload rfl rfl ?_
                refine en_aload rfl rfl ?_
                refine ec_iconst cst_0 rfl ?_
                refine ec_iconst cst_1 rfl ?_
                obtain ⟨⟨q110, C111⟩, e112, h⟩ := gb h
                dsimp only at h
                refine ec_callV1 (k' := 179) (n := 3) (rc := 10) (a := p0) (as := [.int (0 : Int32), .int (1 : Int32)]) ⟨rfl, rfl⟩ rfl rfl (Nat.le_of_ble_eq_true rfl) (Nat.le_of_ble_eq_true rfl) (Nat.le_of_ble_eq_true rfl) g7 rfl (t_179 e112) ?_
                obtain ⟨g113, h⟩ := gd h
                obtain ⟨g114, h⟩ := gd h
                refine ec_iastore g113 g114 rfl ?_
                refine en_aload rfl rfl ?_
                obtain ⟨r115, e116, h⟩ := gb h
                refine ec_getP (ci := 10) (j := 28) ⟨rfl, rfl, rfl⟩ g7 e116 rfl ?_
                refine en_aload rfl rfl ?_
                refine ec_getI (ci := 10) (j := 41) ⟨rfl, rfl, rfl⟩ g7 rfl ?_
                refine en_dup2 ⟨rfl, rfl⟩ rfl ?_
                obtain ⟨g117, h⟩ := gd h
                obtain ⟨g118, h⟩ := gd h
                refine ec_iaload g117 g118 rfl ?_
                refine ec_iconst cst_1 rfl ?_
                refine en_iadd rfl ?_
                obtain ⟨g119, h⟩ := gd h
                refine ec_iastore g117 g119 rfl ?_
                refine en_aload rfl rfl ?_
                obtain ⟨r120, e121, h⟩ := gb h
                refine ec_getP (ci := 10) (j := 37) ⟨rfl, rfl, rfl⟩ g7 e121 rfl ?_
                refine en_iload rfl rfl ?_
                refine en_dup2 ⟨rfl, rfl⟩ rfl ?_
                obtain ⟨g122, h⟩ := gd h
                obtain ⟨g123, h⟩ := gd h
                refine ec_iaload g122 g123 rfl ?_
                refine ec_iconst cst_1 rfl ?_
                refine en_iadd rfl ?_
                obtain ⟨g124, h⟩ := gd h
                refine ec_iastore g122 g124 rfl ?_
                refine en_aload rfl rfl ?_
                refine ec_iconst cst_12 rfl ?_
                obtain ⟨⟨q125, C126⟩, e127, h⟩ := gb h
                dsimp only at h
                refine ec_callV1 (k' := 171) (n := 2) (rc := 10) (a := p0) (as := [.int (12 : Int32)]) ⟨rfl, rfl⟩ rfl rfl (Nat.le_of_ble_eq_true rfl) (Nat.le_of_ble_eq_true rfl) (Nat.le_of_ble_eq_true rfl) g7 rfl (t_171 e127) ?_
                refine en_istore (l' := [(2, .int q125), (3, .int (((160 : Int32) * (cI C10 p0 41)) + (cI C10 r12 (Int32.toNatClampNeg (cI C10 p0 41))))), (0, .ref p0), (1, .int p1)]) rfl rfl ?_
                refine en_goto rfl ?_
                refine en_sub [2, 3, 0] rfl rfl ?_
                exact ih _ _ _ _ _ h o M' hk
              · refine en_if_ne_f c100 rfl ?_
                cases h
                exact en_sub [] rfl rfl hk
            · refine en_if_eq_f c96 rfl ?_
              refine ec_iconst cst_1 rfl ?_
              refine en_goto rfl ?_
              refine ec_iconst cst_1 rfl ?_
              obtain ⟨⟨q128, C129⟩, e130, h⟩ := gb h
              dsimp only at h
              refine ec_callV1 (k' := 170) (n := 3) (rc := 10) (a := p0) (as := [.int (1 : Int32), .int (1 : Int32)]) ⟨rfl, rfl⟩ rfl rfl (Nat.le_of_ble_eq_true rfl) (Nat.le_of_ble_eq_true rfl) (Nat.le_of_ble_eq_true rfl) g7 rfl (t_170 e130) ?_
              rcases gi h with ⟨c131, h⟩ | ⟨c131, h⟩
              · refine en_if_ne_t c131 rfl ?_
                refine en_aload rfl rfl ?_
                obtain ⟨r132, e133, h⟩ := gb h
                refine ec_getP (ci := 10) (j := 19) ⟨rfl, rfl, rfl⟩ g7 e133 rfl ?_
                refine en_iload rfl rfl ?_
                refine en_aload rfl rfl ?_
                refine ec_getI (ci := 10) (j := 49) ⟨rfl, rfl, rfl⟩ g7 rfl ?_
                obtain ⟨g134, h⟩ := gd h
                obtain ⟨g135, h⟩ := gd h
                refine ec_iastore g134 g135 rfl ?_
                refine en_aload rfl rfl ?_
                obtain ⟨⟨q136, C137⟩, e138, h⟩ := gb h
                dsimp only at h
                refine ec_callV0 (k' := 169) (n := 1) (rc := 10) (a := p0) (as := []) ⟨rfl, rfl⟩ rfl rfl (Nat.le_of_ble_eq_true rfl) (Nat.le_of_ble_eq_true rfl) (Nat.le_of_ble_eq_true rfl) g7 rfl (t_169 e138) ?_
                refine en_aload rfl rfl ?_
                obtain ⟨r139, e140, h⟩ := gb h
                refine ec_getP (ci := 10) (j := 20) ⟨rfl, rfl, rfl⟩ g7 e140 rfl ?_
                refine en_iload rfl rfl ?_
                refine en_aload rfl rfl ?_
                refine ec_iconst cst_0 rfl ?_
                refine ec_iconst cst_1 rfl ?_
                obtain ⟨⟨q141, C142⟩, e143, h⟩ := gb h
                dsimp only at h
                refine ec_callV1 (k' := 179) (n := 3) (rc := 10) (a := p0) (as := [.int (0 : Int32), .int (1 : Int32)]) ⟨rfl, rfl⟩ rfl rfl (Nat.le_of_ble_eq_true rfl) (Nat.le_of_ble_eq_true rfl) (Nat.le_of_ble_eq_true rfl) g7 rfl (t_179 e143) ?_
                obtain ⟨g144, h⟩ := gd h
                obtain ⟨g145, h⟩ := gd h
                refine ec_iastore g144 g145 rfl ?_
                refine en_aload rfl rfl ?_
                obtain ⟨r146, e147, h⟩ := gb h
                refine ec_getP (ci := 10) (j := 28) ⟨rfl, rfl, rfl⟩ g7 e147 rfl ?_
                refine en_aload rfl rfl ?_
                refine ec_getI (ci := 10) (j := 41) ⟨rfl, rfl, rfl⟩ g7 rfl ?_
                refine en_dup2 ⟨rfl, rfl⟩ rfl ?_
                obtain ⟨g148, h⟩ := gd h
                obtain ⟨g149, h⟩ := gd h
                refine ec_iaload g148 g149 rfl ?_
                refine ec_iconst cst_1 rfl ?_
                refine en_iadd rfl ?_
                obtain ⟨g150, h⟩ := gd h
                refine ec_iastore g148 g150 rfl ?_
                refine en_aload rfl rfl ?_
                obtain ⟨r151, e152, h⟩ := gb h
                refine ec_getP (ci := 10) (j := 37) ⟨rfl, rfl, rfl⟩ g7 e152 rfl ?_
                refine en_iload rfl rfl ?_
                refine en_dup2 ⟨rfl, rfl⟩ rfl ?_
                obtain ⟨g153, h⟩ := gd h
                obtain ⟨g154, h⟩ := gd h
                refine ec_iaload g153 g154 rfl ?_
                refine ec_iconst cst_1 rfl ?_
                refine en_iadd rfl ?_
                obtain ⟨g155, h⟩ := gd h
                refine ec_iastore g153 g155 rfl ?_
                refine en_aload rfl rfl ?_
                refine ec_iconst cst_12 rfl ?_
                obtain ⟨⟨q156, C157⟩, e158, h⟩ := gb h
                dsimp only at h
                refine ec_callV1 (k' := 171) (n := 2) (rc := 10) (a := p0) (as := [.int (12 : Int32)]) ⟨rfl, rfl⟩ rfl rfl (Nat.le_of_ble_eq_true rfl) (Nat.le_of_ble_eq_true rfl) (Nat.le_of_ble_eq_true rfl) g7 rfl (t_171 e158) ?_
                refine en_istore (l' := [(2, .int q156), (3, .int (((160 : Int32) * (cI C10 p0 41)) + (cI C10 r12 (Int32.toNatClampNeg (cI C10 p0 41))))), (0, .ref p0), (1, .int p1)]) rfl rfl ?_
                refine en_goto rfl ?_
                refine en_sub [2, 3, 0] rfl rfl ?_
                exact ih _ _ _ _ _ h o M' hk
              · refine en_if_ne_f c131 rfl ?_
                cases h
                exact en_sub [] rfl rfl hk
/-- BulkWriterModel.where(I)V -/
def f_182 (n : Nat) (a0 : Nat) (a1 : Int32) (C : AmC) : Option (Unit × AmC) := if isK a0 10 = true then (f_171 n a0 (11 : Int32) C).bind (fun z => match z with | (q2, C3) => (if ¬ q2 = 0 then (lp_182_7 n a0 a1 (1 : Int32) C3).bind (fun q => match q with | ((.inl _), C161) => some ((), C161) | ((.inr _), C161) => some ((), C161)) else some ((), C3))) else none
set_option maxRecDepth 20000 in
set_option maxHeartbeats 4000000 in
theorem t_182 {n : Nat} {a0 : Nat} {a1 : Int32} {C : AmC} {r : Unit} {C' : AmC} (h : f_182 n a0 a1 C = some (r, C')) : En false 182 0 [(0, .ref a0), (1, .int a1)] [] (mkM C) (.inl none) (mkM C') := by
  unfold f_182 at h
  refine en_aload rfl rfl ?_
  refine ec_iconst cst_11 rfl ?_
  obtain ⟨g1, h⟩ := gd h
  obtain ⟨⟨q2, C3⟩, e4, h⟩ := gb h
  dsimp only at h
  refine ec_callV1 (k' := 171) (n := 2) (rc := 10) (a := a0) (as := [.int (11 : Int32)]) ⟨rfl, rfl⟩ rfl rfl (Nat.le_of_ble_eq_true rfl) (Nat.le_of_ble_eq_true rfl) (Nat.le_of_ble_eq_true rfl) g1 rfl (t_171 e4) ?_
  rcases gi h with ⟨c5, h⟩ | ⟨c5, h⟩
  · refine en_if_ne_t c5 rfl ?_
    refine ec_iconst cst_1 rfl ?_
    refine en_istore (l' := [(2, .int (1 : Int32)), (0, .ref a0), (1, .int a1)]) rfl rfl ?_
    obtain ⟨⟨q159, C161⟩, e160, h⟩ := gb h
    refine en_sub [1, 2, 0] rfl rfl (lt_182_7 n _ _ _ _ _ e160 _ _ ?_)
    rcases q159 with ⟨⟩ | ⟨⟩
    · dsimp only at h ⊢
      cases h
      exact en_vret rfl
    · dsimp only at h ⊢
      cases h
      exact en_vret rfl
  · refine en_if_ne_f c5 rfl ?_
    cases h
    exact en_vret rfl
