/-- BulkWriterModel.mayMeet(II)Z -/
def f_233 (n : Nat) (a0 : Nat) (a1 : Int32) (a2 : Int32) (C : AmC) : Option (Int32 × AmC) := if isK a0 10 = true then (cP C a0 32).bind (fun r2 => if isK r2 12 = true then if amIn a1 (aLen r2) = true then (if ¬ (cI C r2 (Int32.toNatClampNeg a1)) = (1 : Int32) then (cP C a0 32).bind (fun r7 => if isK r7 12 = true then if amIn a1 (aLen r7) = true then (if ¬ (cI C r7 (Int32.toNatClampNeg a1)) = (3 : Int32) then (cP C a0 32).bind (fun r12 => if isK r12 12 = true then if amIn a1 (aLen r12) = true then (if ¬ (cI C r12 (Int32.toNatClampNeg a1)) = (2 : Int32) then (if ¬ a2 = 0 then (f_232 n a0 a1 a2 (0 : Int32) C).bind (fun z => match z with | (q18, C19) => (if ¬ q18 = (-1 : Int32) then (f_231 n a0 a1 q18 (0 : Int32) a2 C19).bind (fun z => match z with | (q22, C23) => (if ¬ q22 = 0 then some ((0 : Int32), C23) else some ((1 : Int32), C23))) else some ((0 : Int32), C19))) else some ((0 : Int32), C)) else (if ¬ a2 = 0 then (f_232 n a0 a1 a2 (1 : Int32) C).bind (fun z => match z with | (q27, C28) => (if ¬ q27 = (-1 : Int32) then (f_231 n a0 a1 q27 (1 : Int32) a2 C28).bind (fun z => match z with | (q31, C32) => (if ¬ q31 = 0 then some ((0 : Int32), C32) else some ((1 : Int32), C32))) else some ((1 : Int32), C28))) else some ((1 : Int32), C))) else none else none) else (cP C a0 39).bind (fun r35 => if isK r35 12 = true then if amIn ((4 : Int32) * a1) (aLen r35) = true then (if ¬ (cI C r35 (Int32.toNatClampNeg ((4 : Int32) * a1))) = (-1 : Int32) then some ((1 : Int32), C) else (cP C a0 34).bind (fun r40 => if isK r40 12 = true then if amIn a1 (aLen r40) = true then (f_227 n a0 a1 (cI C r40 (Int32.toNatClampNeg a1)) C).bind (fun z => match z with | (q44, C45) => (if q44 = 0 then (f_194 n a0 a2 C45).bind (fun z => match z with | (q48, C49) => (if a2 ≤ 0 then some ((0 : Int32), C49) else (cP C49 a0 29).bind (fun r52 => if isK r52 12 = true then if amIn q48 (aLen r52) = true then (f_227 n a0 a1 (cI C49 r52 (Int32.toNatClampNeg q48)) C49).bind (fun z => match z with | (q56, C57) => (if ¬ q56 = 0 then some ((1 : Int32), C57) else (cP C57 a0 30).bind (fun r60 => if isK r60 12 = true then if amIn q48 (aLen r60) = true then (if (cI C57 r60 (Int32.toNatClampNeg q48)) = (-1 : Int32) then some ((0 : Int32), C57) else (cP C57 a0 30).bind (fun r65 => if isK r65 12 = true then if amIn q48 (aLen r65) = true then (f_227 n a0 a1 (cI C57 r65 (Int32.toNatClampNeg q48)) C57).bind (fun z => match z with | (q69, C70) => (if q69 = 0 then some ((0 : Int32), C70) else some ((1 : Int32), C70))) else none else none)) else none else none))) else none else none))) else some ((1 : Int32), C45))) else none else none)) else none else none)) else none else none) else some ((0 : Int32), C)) else none else none) else none
set_option maxRecDepth 20000 in
set_option maxHeartbeats 4000000 in
theorem t_233 {n : Nat} {a0 : Nat} {a1 : Int32} {a2 : Int32} {C : AmC} {r : Int32} {C' : AmC} (h : f_233 n a0 a1 a2 C = some (r, C')) : En false 233 0 [(0, .ref a0), (1, .int a1), (2, .int a2)] [] (mkM C) (.inl (some (.int r))) (mkM C') := by
  unfold f_233 at h
  refine en_aload rfl rfl ?_
  obtain ⟨g1, h⟩ := gd h
  obtain ⟨r2, e3, h⟩ := gb h
  refine ec_getP (ci := 10) (j := 32) ⟨rfl, rfl, rfl⟩ g1 e3 rfl ?_
  refine en_iload rfl rfl ?_
  obtain ⟨g4, h⟩ := gd h
  obtain ⟨g5, h⟩ := gd h
  refine ec_iaload g4 g5 rfl ?_
  refine ec_iconst cst_1 rfl ?_
  rcases gi h with ⟨c6, h⟩ | ⟨c6, h⟩
  · refine en_icmp_ne_t c6 rfl ?_
    refine en_aload rfl rfl ?_
    obtain ⟨r7, e8, h⟩ := gb h
    refine ec_getP (ci := 10) (j := 32) ⟨rfl, rfl, rfl⟩ g1 e8 rfl ?_
    refine en_iload rfl rfl ?_
    obtain ⟨g9, h⟩ := gd h
    obtain ⟨g10, h⟩ := gd h
    refine ec_iaload g9 g10 rfl ?_
    refine ec_iconst cst_3 rfl ?_
    rcases gi h with ⟨c11, h⟩ | ⟨c11, h⟩
    · refine en_icmp_ne_t c11 rfl ?_
      refine en_aload rfl rfl ?_
      obtain ⟨r12, e13, h⟩ := gb h
      refine ec_getP (ci := 10) (j := 32) ⟨rfl, rfl, rfl⟩ g1 e13 rfl ?_
      refine en_iload rfl rfl ?_
      obtain ⟨g14, h⟩ := gd h
      obtain ⟨g15, h⟩ := gd h
      refine ec_iaload g14 g15 rfl ?_
      refine ec_iconst cst_2 rfl ?_
      rcases gi h with ⟨c16, h⟩ | ⟨c16, h⟩
      · refine en_icmp_ne_t c16 rfl ?_
        refine ec_iconst cst_0 rfl ?_
        refine en_istore (l' := [(3, .int (0 : Int32)), (0, .ref a0), (1, .int a1), (2, .int a2)]) rfl rfl ?_
        refine en_iload rfl rfl ?_
        rcases gi h with ⟨c17, h⟩ | ⟨c17, h⟩
        · refine en_if_ne_t c17 rfl ?_
          refine en_aload rfl rfl ?_
          refine en_iload rfl rfl ?_
          refine en_iload rfl rfl ?_
          refine en_iload rfl rfl ?_
          obtain ⟨⟨q18, C19⟩, e20, h⟩ := gb h
          dsimp only at h
          refine ec_callV1 (k' := 232) (n := 4) (rc := 10) (a := a0) (as := [.int a1, .int a2, .int (0 : Int32)]) ⟨rfl, rfl⟩ rfl rfl (Nat.le_of_ble_eq_true rfl) (Nat.le_of_ble_eq_true rfl) (Nat.le_of_ble_eq_true rfl) g1 rfl (t_232 e20) ?_
          refine en_istore (l' := [(4, .int q18), (3, .int (0 : Int32)), (0, .ref a0), (1, .int a1), (2, .int a2)]) rfl rfl ?_
          refine en_iload rfl rfl ?_
          refine ec_iconst cst_m1 rfl ?_
          rcases gi h with ⟨c21, h⟩ | ⟨c21, h⟩
          · refine en_icmp_ne_t c21 rfl ?_
            refine en_aload rfl rfl ?_
            refine en_iload rfl rfl ?_
            refine en_iload rfl rfl ?_
            refine en_iload rfl rfl ?_
            refine en_iload rfl rfl ?_
            obtain ⟨⟨q22, C23⟩, e24, h⟩ := gb h
            dsimp only at h
            refine ec_callV1 (k' := 231) (n := 5) (rc := 10) (a := a0) (as := [.int a1, .int q18, .int (0 : Int32), .int a2]) ⟨rfl, rfl⟩ rfl rfl (Nat.le_of_ble_eq_true rfl) (Nat.le_of_ble_eq_true rfl) (Nat.le_of_ble_eq_true rfl) g1 rfl (t_231 e24) ?_
            rcases gi h with ⟨c25, h⟩ | ⟨c25, h⟩
            · refine en_if_ne_t c25 rfl ?_
              refine ec_iconst cst_0 rfl ?_
              cases h
              exact en_zret (Or.inl rfl) rfl
            · refine en_if_ne_f c25 rfl ?_
              refine ec_iconst cst_1 rfl ?_
              refine en_goto rfl ?_
              cases h
              exact en_zret (Or.inr rfl) rfl
          · refine en_icmp_ne_f c21 rfl ?_
            refine en_iload rfl rfl ?_
            refine en_goto rfl ?_
            cases h
            exact en_zret (Or.inl rfl) rfl
        · refine en_if_ne_f c17 rfl ?_
          refine en_iload rfl rfl ?_
          cases h
          exact en_zret (Or.inl rfl) rfl
      · refine en_icmp_ne_f c16 rfl ?_
        refine ec_iconst cst_1 rfl ?_
        refine en_goto rfl ?_
        refine en_istore (l' := [(3, .int (1 : Int32)), (0, .ref a0), (1, .int a1), (2, .int a2)]) rfl rfl ?_
        refine en_iload rfl rfl ?_
        rcases gi h with ⟨c26, h⟩ | ⟨c26, h⟩
        · refine en_if_ne_t c26 rfl ?_
          refine en_aload rfl rfl ?_
          refine en_iload rfl rfl ?_
          refine en_iload rfl rfl ?_
          refine en_iload rfl rfl ?_
          obtain ⟨⟨q27, C28⟩, e29, h⟩ := gb h
          dsimp only at h
          refine ec_callV1 (k' := 232) (n := 4) (rc := 10) (a := a0) (as := [.int a1, .int a2, .int (1 : Int32)]) ⟨rfl, rfl⟩ rfl rfl (Nat.le_of_ble_eq_true rfl) (Nat.le_of_ble_eq_true rfl) (Nat.le_of_ble_eq_true rfl) g1 rfl (t_232 e29) ?_
          refine en_istore (l' := [(4, .int q27), (3, .int (1 : Int32)), (0, .ref a0), (1, .int a1), (2, .int a2)]) rfl rfl ?_
          refine en_iload rfl rfl ?_
          refine ec_iconst cst_m1 rfl ?_
          rcases gi h with ⟨c30, h⟩ | ⟨c30, h⟩
          · refine en_icmp_ne_t c30 rfl ?_
            refine en_aload rfl rfl ?_
            refine en_iload rfl rfl ?_
            refine en_iload rfl rfl ?_
            refine en_iload rfl rfl ?_
            refine en_iload rfl rfl ?_
            obtain ⟨⟨q31, C32⟩, e33, h⟩ := gb h
            dsimp only at h
            refine ec_callV1 (k' := 231) (n := 5) (rc := 10) (a := a0) (as := [.int a1, .int q27, .int (1 : Int32), .int a2]) ⟨rfl, rfl⟩ rfl rfl (Nat.le_of_ble_eq_true rfl) (Nat.le_of_ble_eq_true rfl) (Nat.le_of_ble_eq_true rfl) g1 rfl (t_231 e33) ?_
            rcases gi h with ⟨c34, h⟩ | ⟨c34, h⟩
            · refine en_if_ne_t c34 rfl ?_
              refine ec_iconst cst_0 rfl ?_
              cases h
              exact en_zret (Or.inl rfl) rfl
            · refine en_if_ne_f c34 rfl ?_
              refine ec_iconst cst_1 rfl ?_
              refine en_goto rfl ?_
              cases h
              exact en_zret (Or.inr rfl) rfl
          · refine en_icmp_ne_f c30 rfl ?_
            refine en_iload rfl rfl ?_
            refine en_goto rfl ?_
            cases h
            exact en_zret (Or.inr rfl) rfl
        · refine en_if_ne_f c26 rfl ?_
          refine en_iload rfl rfl ?_
          cases h
          exact en_zret (Or.inr rfl) rfl
    · refine en_icmp_ne_f c11 rfl ?_
      refine en_aload rfl rfl ?_
      obtain ⟨r35, e36, h⟩ := gb h
      refine ec_getP (ci := 10) (j := 39) ⟨rfl, rfl, rfl⟩ g1 e36 rfl ?_
      refine ec_iconst cst_4 rfl ?_
      refine en_iload rfl rfl ?_
      refine en_imul rfl ?_
      obtain ⟨g37, h⟩ := gd h
      obtain ⟨g38, h⟩ := gd h
      refine ec_iaload g37 g38 rfl ?_
      refine ec_iconst cst_m1 rfl ?_
      rcases gi h with ⟨c39, h⟩ | ⟨c39, h⟩
      · refine en_icmp_ne_t c39 rfl ?_
        refine ec_iconst cst_1 rfl ?_
        cases h
        exact en_zret (Or.inr rfl) rfl
      · refine en_icmp_ne_f c39 rfl ?_
        refine en_aload rfl rfl ?_
        refine en_iload rfl rfl ?_
        refine en_aload rfl rfl ?_
        obtain ⟨r40, e41, h⟩ := gb h
        refine ec_getP (ci := 10) (j := 34) ⟨rfl, rfl, rfl⟩ g1 e41 rfl ?_
        refine en_iload rfl rfl ?_
        obtain ⟨g42, h⟩ := gd h
        obtain ⟨g43, h⟩ := gd h
        refine ec_iaload g42 g43 rfl ?_
        obtain ⟨⟨q44, C45⟩, e46, h⟩ := gb h
        dsimp only at h
        refine ec_callV1 (k' := 227) (n := 3) (rc := 10) (a := a0) (as := [.int a1, .int (cI C r40 (Int32.toNatClampNeg a1))]) ⟨rfl, rfl⟩ rfl rfl (Nat.le_of_ble_eq_true rfl) (Nat.le_of_ble_eq_true rfl) (Nat.le_of_ble_eq_true rfl) g1 rfl (t_227 e46) ?_
        rcases gi h with ⟨c47, h⟩ | ⟨c47, h⟩
        · refine en_if_eq_t c47 rfl ?_
          refine en_aload rfl rfl ?_
          refine en_iload rfl rfl ?_
          obtain ⟨⟨q48, C49⟩, e50, h⟩ := gb h
          dsimp only at h
          refine ec_callV1 (k' := 194) (n := 2) (rc := 10) (a := a0) (as := [.int a2]) ⟨rfl, rfl⟩ rfl rfl (Nat.le_of_ble_eq_true rfl) (Nat.le_of_ble_eq_true rfl) (Nat.le_of_ble_eq_true rfl) g1 rfl (t_194 e50) ?_
          refine en_istore (l' := [(3, .int q48), (0, .ref a0), (1, .int a1), (2, .int a2)]) rfl rfl ?_
          refine en_iload rfl rfl ?_
          rcases gi h with ⟨c51, h⟩ | ⟨c51, h⟩
          · refine en_if_le_t c51 rfl ?_
            refine ec_iconst cst_0 rfl ?_
            cases h
            exact en_zret (Or.inl rfl) rfl
          · refine en_if_le_f c51 rfl ?_
            refine en_aload rfl rfl ?_
            refine en_iload rfl rfl ?_
            refine en_aload rfl rfl ?_
            obtain ⟨r52, e53, h⟩ := gb h
            refine ec_getP (ci := 10) (j := 29) ⟨rfl, rfl, rfl⟩ g1 e53 rfl ?_
            refine en_iload rfl rfl ?_
            obtain ⟨g54, h⟩ := gd h
            obtain ⟨g55, h⟩ := gd h
            refine ec_iaload g54 g55 rfl ?_
            obtain ⟨⟨q56, C57⟩, e58, h⟩ := gb h
            dsimp only at h
            refine ec_callV1 (k' := 227) (n := 3) (rc := 10) (a := a0) (as := [.int a1, .int (cI C49 r52 (Int32.toNatClampNeg q48))]) ⟨rfl, rfl⟩ rfl rfl (Nat.le_of_ble_eq_true rfl) (Nat.le_of_ble_eq_true rfl) (Nat.le_of_ble_eq_true rfl) g1 rfl (t_227 e58) ?_
            rcases gi h with ⟨c59, h⟩ | ⟨c59, h⟩
            · refine en_if_ne_t c59 rfl ?_
              refine ec_iconst cst_1 rfl ?_
              refine en_goto rfl ?_
              cases h
              exact en_zret (Or.inr rfl) rfl
            · refine en_if_ne_f c59 rfl ?_
              refine en_aload rfl rfl ?_
              obtain ⟨r60, e61, h⟩ := gb h
              refine ec_getP (ci := 10) (j := 30) ⟨rfl, rfl, rfl⟩ g1 e61 rfl ?_
              refine en_iload rfl rfl ?_
              obtain ⟨g62, h⟩ := gd h
              obtain ⟨g63, h⟩ := gd h
              refine ec_iaload g62 g63 rfl ?_
              refine ec_iconst cst_m1 rfl ?_
              rcases gi h with ⟨c64, h⟩ | ⟨c64, h⟩
              · refine en_icmp_eq_t c64 rfl ?_
                refine ec_iconst cst_0 rfl ?_
                cases h
                exact en_zret (Or.inl rfl) rfl
              · refine en_icmp_eq_f c64 rfl ?_
                refine en_aload rfl rfl ?_
                refine en_iload rfl rfl ?_
                refine en_aload rfl rfl ?_
                obtain ⟨r65, e66, h⟩ := gb h
                refine ec_getP (ci := 10) (j := 30) ⟨rfl, rfl, rfl⟩ g1 e66 rfl ?_
                refine en_iload rfl rfl ?_
                obtain ⟨g67, h⟩ := gd h
                obtain ⟨g68, h⟩ := gd h
                refine ec_iaload g67 g68 rfl ?_
                obtain ⟨⟨q69, C70⟩, e71, h⟩ := gb h
                dsimp only at h
                refine ec_callV1 (k' := 227) (n := 3) (rc := 10) (a := a0) (as := [.int a1, .int (cI C57 r65 (Int32.toNatClampNeg q48))]) ⟨rfl, rfl⟩ rfl rfl (Nat.le_of_ble_eq_true rfl) (Nat.le_of_ble_eq_true rfl) (Nat.le_of_ble_eq_true rfl) g1 rfl (t_227 e71) ?_
                rcases gi h with ⟨c72, h⟩ | ⟨c72, h⟩
                · refine en_if_eq_t c72 rfl ?_
                  refine ec_iconst cst_0 rfl ?_
                  cases h
                  exact en_zret (Or.inl rfl) rfl
                · refine en_if_eq_f c72 rfl ?_
                  refine ec_iconst cst_1 rfl ?_
                  refine en_goto rfl ?_
                  cases h
                  exact en_zret (Or.inr rfl) rfl
        · refine en_if_eq_f c47 rfl ?_
          refine ec_iconst cst_1 rfl ?_
          cases h
          exact en_zret (Or.inr rfl) rfl
  · refine en_icmp_ne_f c6 rfl ?_
    refine ec_iconst cst_0 rfl ?_
    cases h
    exact en_zret (Or.inl rfl) rfl
def lp_234_5 : Nat → Nat → Int32 → Int32 → Int32 → Int32 → AmC → Option (((Unit) ⊕ (Unit)) × AmC)
  | 0, _, _, _, _, _, _ => none
  | n + 1, p0, p1, p2, p3, p4, C => if isK p0 10 = true then (cP C p0 16).bind (fun r7 => if isK r7 12 = true then if amIn p2 (aLen r7) = true then (cP C p0 17).bind (fun r11 => if isK r11 12 = true then if amIn p2 (aLen r11) = true then (if ((cI C r7 (Int32.toNatClampNeg p2)) + (cI C r11 (Int32.toNatClampNeg p2))) ≤ p4 then some ((.inr ()), C) else (cP C p0 14).bind (fun r16 => if isK r16 12 = true then if amIn p4 (aLen r16) = true then (if (3 : Int32) ≤ (cI C r16 (Int32.toNatClampNeg p4)) then (if ¬ p3 = 0 then some ((.inl ()), C) else (cP C p0 14).bind (fun r22 => if isK r22 12 = true then if amIn p4 (aLen r22) = true then (if (cI C r22 (Int32.toNatClampNeg p4)) = (6 : Int32) then lp_234_5 n p0 p1 p2 p3 (p4 + (1 : Int32)) C else (cP C p0 15).bind (fun r27 => if isK r27 12 = true then if amIn p4 (aLen r27) = true then (f_227 n p0 p1 (cI C r27 (Int32.toNatClampNeg p4)) C).bind (fun z => match z with | (q31, C32) => (if q31 = 0 then lp_234_5 n p0 p1 p2 p3 (p4 + (1 : Int32)) C32 else some ((.inl ()), C32))) else none else none)) else none else none)) else lp_234_5 n p0 p1 p2 p3 (p4 + (1 : Int32)) C) else none else none)) else none else none) else none else none) else none
set_option maxRecDepth 20000 in
set_option maxHeartbeats 4000000 in
theorem lt_234_5 : ∀ (n : Nat) (p0 : Nat) (p1 : Int32) (p2 : Int32) (p3 : Int32) (p4 : Int32) (C : AmC) (r : ((Unit) ⊕ (Unit)) × AmC), lp_234_5 n p0 p1 p2 p3 p4 C = some r → ∀ (o : AmO) (M' : AmM), (match r with
        | ((.inl _), C') => En false 234 39 [] [] (mkM C') o M'
        | ((.inr _), C') => En false 234 43 [] [] (mkM C') o M') → En false 234 5 [(0, .ref p0), (1, .int p1), (2, .int p2), (3, .int p3), (4, .int p4)] [] (mkM C) o M' := by
  intro n
  induction n with
  | zero => intro p0 p1 p2 p3 p4 C r h; cases h
  | succ n ih =>
    intro p0 p1 p2 p3 p4 C r h o M' hk
    unfold lp_234_5 at h
    refine en_iload rfl rfl ?_
    refine en_aload rfl rfl ?_
    obtain ⟨g6, h⟩ := gd h
    obtain ⟨r7, e8, h⟩ := gb h
    refine ec_getP (ci := 10) (j := 16) ⟨rfl, rfl, rfl⟩ g6 e8 rfl ?_
    refine en_iload rfl rfl ?_
    obtain ⟨g9, h⟩ := gd h
    obtain ⟨g10, h⟩ := gd h
    refine ec_iaload g9 g10 rfl ?_
    refine en_aload rfl rfl ?_
    obtain ⟨r11, e12, h⟩ := gb h
    refine ec_getP (ci := 10) (j := 17) ⟨rfl, rfl, rfl⟩ g6 e12 rfl ?_
    refine en_iload rfl rfl ?_
    obtain ⟨g13, h⟩ := gd h
    obtain ⟨g14, h⟩ := gd h
    refine ec_iaload g13 g14 rfl ?_
    refine en_iadd rfl ?_
    rcases gi h with ⟨c15, h⟩ | ⟨c15, h⟩
    · refine en_icmp_ge_t c15 rfl ?_
      cases h
      exact en_sub [] rfl rfl hk
    · refine en_icmp_ge_f c15 rfl ?_
      refine en_aload rfl rfl ?_
      obtain ⟨r16, e17, h⟩ := gb h
      refine ec_getP (ci := 10) (j := 14) ⟨rfl, rfl, rfl⟩ g6 e17 rfl ?_
      refine en_iload rfl rfl ?_
      obtain ⟨g18, h⟩ := gd h
      obtain ⟨g19, h⟩ := gd h
      refine ec_iaload g18 g19 rfl ?_
      refine ec_iconst cst_3 rfl ?_
      rcases gi h with ⟨c20, h⟩ | ⟨c20, h⟩
      · refine en_icmp_ge_t c20 rfl ?_
        refine en_iload rfl rfl ?_
        rcases gi h with ⟨c21, h⟩ | ⟨c21, h⟩
        · refine en_if_ne_t c21 rfl ?_
          cases h
          exact en_sub [] rfl rfl hk
        · refine en_if_ne_f c21 rfl ?_
          refine en_aload rfl rfl ?_
          obtain ⟨r22, e23, h⟩ := gb h
          refine ec_getP (ci := 10) (j := 14) ⟨rfl, rfl, rfl⟩ g6 e23 rfl ?_
          refine en_iload rfl rfl ?_
          obtain ⟨g24, h⟩ := gd h
          obtain ⟨g25, h⟩ := gd h
          refine ec_iaload g24 g25 rfl ?_
          refine ec_iconst cst_6 rfl ?_
          rcases gi h with ⟨c26, h⟩ | ⟨c26, h⟩
          · refine en_icmp_eq_t c26 rfl ?_
            refine ec_iinc (l' := [(4, .int (p4 + (1 : Int32))), (0, .ref p0), (1, .int p1), (2, .int p2), (3, .int p3)]) rfl cst_1 rfl rfl ?_
            refine en_goto rfl ?_
            refine en_sub [1, 2, 3, 4, 0] rfl rfl ?_
            exact ih _ _ _ _ _ _ _ h o M' hk
          · refine en_icmp_eq_f c26 rfl ?_
            refine en_aload rfl rfl ?_
            refine en_iload rfl rfl ?_
            refine en_aload rfl rfl ?_
            obtain ⟨r27, e28, h⟩ := gb h
            refine ec_getP (ci := 10) (j := 15) ⟨rfl, rfl, rfl⟩ g6 e28 rfl ?_
            refine en_iload rfl rfl ?_
            obtain ⟨g29, h⟩ := gd h
            obtain ⟨g30, h⟩ := gd h
            refine ec_iaload g29 g30 rfl ?_
            obtain ⟨⟨q31, C32⟩, e33, h⟩ := gb h
            dsimp only at h
            refine ec_callV1 (k' := 227) (n := 3) (rc := 10) (a := p0) (as := [.int p1, .int (cI C r27 (Int32.toNatClampNeg p4))]) ⟨rfl, rfl⟩ rfl rfl (Nat.le_of_ble_eq_true rfl) (Nat.le_of_ble_eq_true rfl) (Nat.le_of_ble_eq_true rfl) g6 rfl (t_227 e33) ?_
            rcases gi h with ⟨c34, h⟩ | ⟨c34, h⟩
            · refine en_if_eq_t c34 rfl ?_
              refine ec_iinc (l' := [(4, .int (p4 + (1 : Int32))), (0, .ref p0), (1, .int p1), (2, .int p2), (3, .int p3)]) rfl cst_1 rfl rfl ?_
              refine en_goto rfl ?_
              refine en_sub [1, 2, 3, 4, 0] rfl rfl ?_
              exact ih _ _ _ _ _ _ _ h o M' hk
            · refine en_if_eq_f c34 rfl ?_
              cases h
              exact en_sub [] rfl rfl hk
      · refine en_icmp_ge_f c20 rfl ?_
        refine en_goto rfl ?_
        refine ec_iinc (l' := [(4, .int (p4 + (1 : Int32))), (0, .ref p0), (1, .int p1), (2, .int p2), (3, .int p3)]) rfl cst_1 rfl rfl ?_
        refine en_goto rfl ?_
        refine en_sub [1, 2, 3, 4, 0] rfl rfl ?_
        exact ih _ _ _ _ _ _ _ h o M' hk
/-- BulkWriterModel.asksAll(IIZ)Z -/
def f_234 (n : Nat) (a0 : Nat) (a1 : Int32) (a2 : Int32) (a3 : Int32) (C : AmC) : Option (Int32 × AmC) := if isK a0 10 = true then (cP C a0 16).bind (fun r2 => if isK r2 12 = true then if amIn a2 (aLen r2) = true then (lp_234_5 n a0 a1 a2 a3 (cI C r2 (Int32.toNatClampNeg a2)) C).bind (fun q => match q with | ((.inl _), C37) => some ((1 : Int32), C37) | ((.inr _), C37) => some ((0 : Int32), C37)) else none else none) else none
set_option maxRecDepth 20000 in
set_option maxHeartbeats 4000000 in
theorem t_234 {n : Nat} {a0 : Nat} {a1 : Int32} {a2 : Int32} {a3 : Int32} {C : AmC} {r : Int32} {C' : AmC} (h : f_234 n a0 a1 a2 a3 C = some (r, C')) : En false 234 0 [(0, .ref a0), (1, .int a1), (2, .int a2), (3, .int a3)] [] (mkM C) (.inl (some (.int r))) (mkM C') := by
  unfold f_234 at h
  refine en_aload rfl rfl ?_
  obtain ⟨g1, h⟩ := gd h
  obtain ⟨r2, e3, h⟩ := gb h
  refine ec_getP (ci := 10) (j := 16) ⟨rfl, rfl, rfl⟩ g1 e3 rfl ?_
  refine en_iload rfl rfl ?_
  obtain ⟨g4, h⟩ := gd h
  obtain ⟨g5, h⟩ := gd h
  refine ec_iaload g4 g5 rfl ?_
  refine en_istore (l' := [(4, .int (cI C r2 (Int32.toNatClampNeg a2))), (0, .ref a0), (1, .int a1), (2, .int a2), (3, .int a3)]) rfl rfl ?_
  obtain ⟨⟨q35, C37⟩, e36, h⟩ := gb h
  refine en_sub [1, 2, 3, 4, 0] rfl rfl (lt_234_5 n _ _ _ _ _ _ _ e36 _ _ ?_)
  rcases q35 with ⟨⟩ | ⟨⟩
  · dsimp only at h ⊢
    refine ec_iconst cst_1 rfl ?_
    cases h
    exact en_zret (Or.inr rfl) rfl
  · dsimp only at h ⊢
    refine ec_iconst cst_0 rfl ?_
    cases h
    exact en_zret (Or.inl rfl) rfl
/-- BulkWriterModel.isAnyChanged(I)Z -/
def f_235 (n : Nat) (a0 : Nat) (a1 : Int32) (C : AmC) : Option (Int32 × AmC) := if isK a0 10 = true then (cP C a0 32).bind (fun r2 => if isK r2 12 = true then if amIn a1 (aLen r2) = true then (if (cI C r2 (Int32.toNatClampNeg a1)) = (1 : Int32) then some ((1 : Int32), C) else (cP C a0 32).bind (fun r7 => if isK r7 12 = true then if amIn a1 (aLen r7) = true then (if (cI C r7 (Int32.toNatClampNeg a1)) = (2 : Int32) then some ((1 : Int32), C) else (cP C a0 32).bind (fun r12 => if isK r12 12 = true then if amIn a1 (aLen r12) = true then (if ¬ (cI C r12 (Int32.toNatClampNeg a1)) = (3 : Int32) then some ((0 : Int32), C) else (cP C a0 33).bind (fun r17 => if isK r17 12 = true then if amIn a1 (aLen r17) = true then (if (cI C r17 (Int32.toNatClampNeg a1)) = (1 : Int32) then some ((1 : Int32), C) else (cP C a0 39).bind (fun r22 => if isK r22 12 = true then if amIn ((4 : Int32) * a1) (aLen r22) = true then (if (cI C r22 (Int32.toNatClampNeg ((4 : Int32) * a1))) = (-1 : Int32) then some ((0 : Int32), C) else some ((1 : Int32), C)) else none else none)) else none else none)) else none else none)) else none else none)) else none else none) else none
set_option maxRecDepth 20000 in
set_option maxHeartbeats 4000000 in
theorem t_235 {n : Nat} {a0 : Nat} {a1 : Int32} {C : AmC} {r : Int32} {C' : AmC} (h : f_235 n a0 a1 C = some (r, C')) : En false 235 0 [(0, .ref a0), (1, .int a1)] [] (mkM C) (.inl (some (.int r))) (mkM C') := by
  unfold f_235 at h
  refine en_aload rfl rfl ?_
  obtain ⟨g1, h⟩ := gd h
  obtain ⟨r2, e3, h⟩ := gb h
  refine ec_getP (ci := 10) (j := 32) ⟨rfl, rfl, rfl⟩ g1 e3 rfl ?_
  refine en_iload rfl rfl ?_
  obtain ⟨g4, h⟩ := gd h
  obtain ⟨g5, h⟩ := gd h
  refine ec_iaload g4 g5 rfl ?_
  refine ec_iconst cst_1 rfl ?_
  rcases gi h with ⟨c6, h⟩ | ⟨c6, h⟩
  · refine en_icmp_eq_t c6 rfl ?_
    refine ec_iconst cst_1 rfl ?_
    refine en_goto rfl ?_
    cases h
    exact en_zret (Or.inr rfl) rfl
  · refine en_icmp_eq_f c6 rfl ?_
    refine en_aload rfl rfl ?_
    obtain ⟨r7, e8, h⟩ := gb h
    refine ec_getP (ci := 10) (j := 32) ⟨rfl, rfl, rfl⟩ g1 e8 rfl ?_
    refine en_iload rfl rfl ?_
    obtain ⟨g9, h⟩ := gd h
    obtain ⟨g10, h⟩ := gd h
    refine ec_iaload g9 g10 rfl ?_
    refine ec_iconst cst_2 rfl ?_
    rcases gi h with ⟨c11, h⟩ | ⟨c11, h⟩
    · refine en_icmp_eq_t c11 rfl ?_
      refine ec_iconst cst_1 rfl ?_
      refine en_goto rfl ?_
      cases h
      exact en_zret (Or.inr rfl) rfl
    · refine en_icmp_eq_f c11 rfl ?_
      refine en_aload rfl rfl ?_
      obtain ⟨r12, e13, h⟩ := gb h
      refine ec_getP (ci := 10) (j := 32) ⟨rfl, rfl, rfl⟩ g1 e13 rfl ?_
      refine en_iload rfl rfl ?_
      obtain ⟨g14, h⟩ := gd h
      obtain ⟨g15, h⟩ := gd h
      refine ec_iaload g14 g15 rfl ?_
      refine ec_iconst cst_3 rfl ?_
      rcases gi h with ⟨c16, h⟩ | ⟨c16, h⟩
      · refine en_icmp_ne_t c16 rfl ?_
        refine ec_iconst cst_0 rfl ?_
        cases h
        exact en_zret (Or.inl rfl) rfl
      · refine en_icmp_ne_f c16 rfl ?_
        refine en_aload rfl rfl ?_
        obtain ⟨r17, e18, h⟩ := gb h
        refine ec_getP (ci := 10) (j := 33) ⟨rfl, rfl, rfl⟩ g1 e18 rfl ?_
        refine en_iload rfl rfl ?_
        obtain ⟨g19, h⟩ := gd h
        obtain ⟨g20, h⟩ := gd h
        refine ec_iaload g19 g20 rfl ?_
        refine ec_iconst cst_1 rfl ?_
        rcases gi h with ⟨c21, h⟩ | ⟨c21, h⟩
        · refine en_icmp_eq_t c21 rfl ?_
          refine ec_iconst cst_1 rfl ?_
          refine en_goto rfl ?_
          cases h
          exact en_zret (Or.inr rfl) rfl
        · refine en_icmp_eq_f c21 rfl ?_
          refine en_aload rfl rfl ?_
          obtain ⟨r22, e23, h⟩ := gb h
          refine ec_getP (ci := 10) (j := 39) ⟨rfl, rfl, rfl⟩ g1 e23 rfl ?_
          refine ec_iconst cst_4 rfl ?_
          refine en_iload rfl rfl ?_
          refine en_imul rfl ?_
          obtain ⟨g24, h⟩ := gd h
          obtain ⟨g25, h⟩ := gd h
          refine ec_iaload g24 g25 rfl ?_
          refine ec_iconst cst_m1 rfl ?_
          rcases gi h with ⟨c26, h⟩ | ⟨c26, h⟩
          · refine en_icmp_eq_t c26 rfl ?_
            refine ec_iconst cst_0 rfl ?_
            cases h
            exact en_zret (Or.inl rfl) rfl
          · refine en_icmp_eq_f c26 rfl ?_
            refine ec_iconst cst_1 rfl ?_
            refine en_goto rfl ?_
            cases h
            exact en_zret (Or.inr rfl) rfl
def lp_236_5 : Nat → Nat → Int32 → Int32 → AmC → Option (((Unit) ⊕ (Unit)) × AmC)
  | 0, _, _, _, _ => none
  | n + 1, p0, p1, p2, C => if isK p0 10 = true then (cP C p0 36).bind (fun r7 => if isK r7 12 = true then if amIn p1 (aLen r7) = true then (cP C p0 37).bind (fun r11 => if isK r11 12 = true then if amIn p1 (aLen r11) = true then (if ((cI C r7 (Int32.toNatClampNeg p1)) + (cI C r11 (Int32.toNatClampNeg p1))) ≤ p2 then some ((.inr ()), C) else (cP C p0 18).bind (fun r16 => if isK r16 12 = true then if amIn p2 (aLen r16) = true then (f_235 n p0 p1 C).bind (fun z => match z with | (q20, C21) => (f_234 n p0 p1 (cI C r16 (Int32.toNatClampNeg p2)) q20 C21).bind (fun z => match z with | (q23, C24) => (if ¬ q23 = 0 then some ((.inl ()), C24) else (cP C24 p0 20).bind (fun r27 => if isK r27 12 = true then if amIn p2 (aLen r27) = true then (f_235 n p0 p1 C24).bind (fun z => match z with | (q31, C32) => (f_234 n p0 p1 (cI C24 r27 (Int32.toNatClampNeg p2)) q31 C32).bind (fun z => match z with | (q34, C35) => (if q34 = 0 then lp_236_5 n p0 p1 (p2 + (1 : Int32)) C35 else some ((.inl ()), C35)))) else none else none)))) else none else none)) else none else none) else none else none) else none
set_option maxRecDepth 20000 in
set_option maxHeartbeats 4000000 in
theorem lt_236_5 : ∀ (n : Nat) (p0 : Nat) (p1 : Int32) (p2 : Int32) (C : AmC) (r : ((Unit) ⊕ (Unit)) × AmC), lp_236_5 n p0 p1 p2 C = some r → ∀ (o : AmO) (M' : AmM), (match r with
        | ((.inl _), C') => En false 236 38 [] [] (mkM C') o M'
        | ((.inr _), C') => En false 236 42 [] [] (mkM C') o M') → En false 236 5 [(0, .ref p0), (1, .int p1), (2, .int p2)] [] (mkM C) o M' := by
  intro n
  induction n with
  | zero => intro p0 p1 p2 C r h; cases h
  | succ n ih =>
    intro p0 p1 p2 C r h o M' hk
    unfold lp_236_5 at h
    refine en_iload rfl rfl ?_
    refine en_aload rfl rfl ?_
    obtain ⟨g6, h⟩ := gd h
    obtain ⟨r7, e8, h⟩ := gb h
    refine ec_getP (ci := 10) (j := 36) ⟨rfl, rfl, rfl⟩ g6 e8 rfl ?_
    refine en_iload rfl rfl ?_
    obtain ⟨g9, h⟩ := gd h
    obtain ⟨g10, h⟩ := gd h
    refine ec_iaload g9 g10 rfl ?_
    refine en_aload rfl rfl ?_
    obtain ⟨r11, e12, h⟩ := gb h
    refine ec_getP (ci := 10) (j := 37) ⟨rfl, rfl, rfl⟩ g6 e12 rfl ?_
    refine en_iload rfl rfl ?_
    obtain ⟨g13, h⟩ := gd h
    obtain ⟨g14, h⟩ := gd h
    refine ec_iaload g13 g14 rfl ?_
    refine en_iadd rfl ?_
    rcases gi h with ⟨c15, h⟩ | ⟨c15, h⟩
    · refine en_icmp_ge_t c15 rfl ?_
      cases h
      exact en_sub [] rfl rfl hk
    · refine en_icmp_ge_f c15 rfl ?_
      refine en_aload rfl rfl ?_
      refine en_iload rfl rfl ?_
      refine en_aload rfl rfl ?_
      obtain ⟨r16, e17, h⟩ := gb h
      refine ec_getP (ci := 10) (j := 18) ⟨rfl, rfl, rfl⟩ g6 e17 rfl ?_
      refine en_iload rfl rfl ?_
      obtain ⟨g18, h⟩ := gd h
      obtain ⟨g19, h⟩ := gd h
      refine ec_iaload g18 g19 rfl ?_
      refine en_aload rfl rfl ?_
      refine en_iload rfl rfl ?_
      obtain ⟨⟨q20, C21⟩, e22, h⟩ := gb h
      dsimp only at h
      refine ec_callV1 (k' := 235) (n := 2) (rc := 10) (a := p0) (as := [.int p1]) ⟨rfl, rfl⟩ rfl rfl (Nat.le_of_ble_eq_true rfl) (Nat.le_of_ble_eq_true rfl) (Nat.le_of_ble_eq_true rfl) g6 rfl (t_235 e22) ?_
      obtain ⟨⟨q23, C24⟩, e25, h⟩ := gb h
      dsimp only at h
      refine ec_callV1 (k' := 234) (n := 4) (rc := 10) (a := p0) (as := [.int p1, .int (cI C r16 (Int32.toNatClampNeg p2)), .int q20]) ⟨rfl, rfl⟩ rfl rfl (Nat.le_of_ble_eq_true rfl) (Nat.le_of_ble_eq_true rfl) (Nat.le_of_ble_eq_true rfl) g6 rfl (t_234 e25) ?_
      rcases gi h with ⟨c26, h⟩ | ⟨c26, h⟩
      · refine en_if_ne_t c26 rfl ?_
        cases h
        exact en_sub [] rfl rfl hk
      · refine en_if_ne_f c26 rfl ?_
        refine en_aload rfl rfl ?_
        refine en_iload rfl rfl ?_
        refine en_aload rfl rfl ?_
        obtain ⟨r27, e28, h⟩ := gb h
        refine ec_getP (ci := 10) (j := 20) ⟨rfl, rfl, rfl⟩ g6 e28 rfl ?_
        refine en_iload rfl rfl ?_
        obtain ⟨g29, h⟩ := gd h
        obtain ⟨g30, h⟩ := gd h
        refine ec_iaload g29 g30 rfl ?_
        refine en_aload rfl rfl ?_
        refine en_iload rfl rfl ?_
        obtain ⟨⟨q31, C32⟩, e33, h⟩ := gb h
        dsimp only at h
        refine ec_callV1 (k' := 235) (n := 2) (rc := 10) (a := p0) (as := [.int p1]) ⟨rfl, rfl⟩ rfl rfl (Nat.le_of_ble_eq_true rfl) (Nat.le_of_ble_eq_true rfl) (Nat.le_of_ble_eq_true rfl) g6 rfl (t_235 e33) ?_
        obtain ⟨⟨q34, C35⟩, e36, h⟩ := gb h
        dsimp only at h
        refine ec_callV1 (k' := 234) (n := 4) (rc := 10) (a := p0) (as := [.int p1, .int (cI C24 r27 (Int32.toNatClampNeg p2)), .int q31]) ⟨rfl, rfl⟩ rfl rfl (Nat.le_of_ble_eq_true rfl) (Nat.le_of_ble_eq_true rfl) (Nat.le_of_ble_eq_true rfl) g6 rfl (t_234 e36) ?_
        rcases gi h with ⟨c37, h⟩ | ⟨c37, h⟩
        · refine en_if_eq_t c37 rfl ?_
          refine ec_iinc (l' := [(2, .int (p2 + (1 : Int32))), (0, .ref p0), (1, .int p1)]) rfl cst_1 rfl rfl ?_
          refine en_goto rfl ?_
          refine en_sub [1, 2, 0] rfl rfl ?_
          exact ih _ _ _ _ _ h o M' hk
        · refine en_if_eq_f c37 rfl ?_
          cases h
          exact en_sub [] rfl rfl hk
/-- BulkWriterModel.testsAsk(I)Z -/
def f_236 (n : Nat) (a0 : Nat) (a1 : Int32) (C : AmC) : Option (Int32 × AmC) := if isK a0 10 = true then (cP C a0 36).bind (fun r2 => if isK r2 12 = true then if amIn a1 (aLen r2) = true then (lp_236_5 n a0 a1 (cI C r2 (Int32.toNatClampNeg a1)) C).bind (fun q => match q with | ((.inl _), C40) => some ((1 : Int32), C40) | ((.inr _), C40) => some ((0 : Int32), C40)) else none else none) else none
set_option maxRecDepth 20000 in
set_option maxHeartbeats 4000000 in
theorem t_236 {n : Nat} {a0 : Nat} {a1 : Int32} {C : AmC} {r : Int32} {C' : AmC} (h : f_236 n a0 a1 C = some (r, C')) : En false 236 0 [(0, .ref a0), (1, .int a1)] [] (mkM C) (.inl (some (.int r))) (mkM C') := by
  unfold f_236 at h
  refine en_aload rfl rfl ?_
  obtain ⟨g1, h⟩ := gd h
  obtain ⟨r2, e3, h⟩ := gb h
  refine ec_getP (ci := 10) (j := 36) ⟨rfl, rfl, rfl⟩ g1 e3 rfl ?_
  refine en_iload rfl rfl ?_
  obtain ⟨g4, h⟩ := gd h
  obtain ⟨g5, h⟩ := gd h
  refine ec_iaload g4 g5 rfl ?_
  refine en_istore (l' := [(2, .int (cI C r2 (Int32.toNatClampNeg a1))), (0, .ref a0), (1, .int a1)]) rfl rfl ?_
  obtain ⟨⟨q38, C40⟩, e39, h⟩ := gb h
  refine en_sub [1, 2, 0] rfl rfl (lt_236_5 n _ _ _ _ _ e39 _ _ ?_)
  rcases q38 with ⟨⟩ | ⟨⟩
  · dsimp only at h ⊢
    refine ec_iconst cst_1 rfl ?_
    cases h
    exact en_zret (Or.inr rfl) rfl
  · dsimp only at h ⊢
    refine ec_iconst cst_0 rfl ?_
    cases h
    exact en_zret (Or.inl rfl) rfl
def lp_237_2 : Nat → Nat → Int32 → Int32 → AmC → Option (((Unit) ⊕ (Unit)) × AmC)
  | 0, _, _, _, _ => none
  | n + 1, p0, p1, p2, C => if isK p0 10 = true then (cP C p0 21).bind (fun r2 => if isK r2 12 = true then if amIn (cI C p0 40) (aLen r2) = true then (if (cI C r2 (Int32.toNatClampNeg (cI C p0 40))) ≤ p2 then some ((.inr ()), C) else (cP C p0 38).bind (fun r7 => if isK r7 12 = true then if amIn (((4 : Int32) * p1) + p2) (aLen r7) = true then (cP C p0 39).bind (fun r11 => if isK r11 12 = true then if amIn (((4 : Int32) * p1) + p2) (aLen r11) = true then (if (cI C r7 (Int32.toNatClampNeg (((4 : Int32) * p1) + p2))) = (-1 : Int32) then (if (cI C r11 (Int32.toNatClampNeg (((4 : Int32) * p1) + p2))) = (-1 : Int32) then lp_237_2 n p0 p1 (p2 + (1 : Int32)) C else (f_235 n p0 p1 C).bind (fun z => match z with | (q17, C18) => (f_234 n p0 p1 (cI C r11 (Int32.toNatClampNeg (((4 : Int32) * p1) + p2))) q17 C18).bind (fun z => match z with | (q20, C21) => (if q20 = 0 then lp_237_2 n p0 p1 (p2 + (1 : Int32)) C21 else some ((.inl ()), C21))))) else (f_235 n p0 p1 C).bind (fun z => match z with | (q24, C25) => (f_234 n p0 p1 (cI C r7 (Int32.toNatClampNeg (((4 : Int32) * p1) + p2))) q24 C25).bind (fun z => match z with | (q27, C28) => (if ¬ q27 = 0 then some ((.inl ()), C28) else (if (cI C r11 (Int32.toNatClampNeg (((4 : Int32) * p1) + p2))) = (-1 : Int32) then lp_237_2 n p0 p1 (p2 + (1 : Int32)) C28 else (f_235 n p0 p1 C28).bind (fun z => match z with | (q32, C33) => (f_234 n p0 p1 (cI C r11 (Int32.toNatClampNeg (((4 : Int32) * p1) + p2))) q32 C33).bind (fun z => match z with | (q35, C36) => (if q35 = 0 then lp_237_2 n p0 p1 (p2 + (1 : Int32)) C36 else some ((.inl ()), C36))))))))) else none else none) else none else none)) else none else none) else none
set_option maxRecDepth 20000 in
set_option maxHeartbeats 4000000 in
theorem lt_237_2 : ∀ (n : Nat) (p0 : Nat) (p1 : Int32) (p2 : Int32) (C : AmC) (r : ((Unit) ⊕ (Unit)) × AmC), lp_237_2 n p0 p1 p2 C = some r → ∀ (o : AmO) (M' : AmM), (match r with
        | ((.inl _), C') => En false 237 49 [] [] (mkM C') o M'
        | ((.inr _), C') => En false 237 53 [] [] (mkM C') o M') → En false 237 2 [(0, .ref p0), (1, .int p1), (2, .int p2)] [] (mkM C) o M' := by
  intro n
  induction n with
  | zero => intro p0 p1 p2 C r h; cases h
  | succ n ih =>
    intro p0 p1 p2 C r h o M' hk
    unfold lp_237_2 at h
    refine en_iload rfl rfl ?_
    refine en_aload rfl rfl ?_
    obtain ⟨g1, h⟩ := gd h
    obtain ⟨r2, e3, h⟩ := gb h
    refine ec_getP (ci := 10) (j := 21) ⟨rfl, rfl, rfl⟩ g1 e3 rfl ?_
    refine en_aload rfl rfl ?_
    refine ec_getI (ci := 10) (j := 40) ⟨rfl, rfl, rfl⟩ g1 rfl ?_
    obtain ⟨g4, h⟩ := gd h
    obtain ⟨g5, h⟩ := gd h
    refine ec_iaload g4 g5 rfl ?_
    rcases gi h with ⟨c6, h⟩ | ⟨c6, h⟩
    · refine en_icmp_ge_t c6 rfl ?_
      cases h
      exact en_sub [] rfl rfl hk
    · refine en_icmp_ge_f c6 rfl ?_
      refine en_aload rfl rfl ?_
      obtain ⟨r7, e8, h⟩ := gb h
      refine ec_getP (ci := 10) (j := 38) ⟨rfl, rfl, rfl⟩ g1 e8 rfl ?_
      refine ec_iconst cst_4 rfl ?_
      refine en_iload rfl rfl ?_
      refine en_imul rfl ?_
      refine en_iload rfl rfl ?_
      refine en_iadd rfl ?_
      obtain ⟨g9, h⟩ := gd h
      obtain ⟨g10, h⟩ := gd h
      refine ec_iaload g9 g10 rfl ?_
      refine en_istore (l' := [(3, .int (cI C r7 (Int32.toNatClampNeg (((4 : Int32) * p1) + p2)))), (0, .ref p0), (1, .int p1), (2, .int p2)]) rfl rfl ?_
      refine en_aload rfl rfl ?_
      obtain ⟨r11, e12, h⟩ := gb h
      refine ec_getP (ci := 10) (j := 39) ⟨rfl, rfl, rfl⟩ g1 e12 rfl ?_
      refine ec_iconst cst_4 rfl ?_
      refine en_iload rfl rfl ?_
      refine en_imul rfl ?_
      refine en_iload rfl rfl ?_
      refine en_iadd rfl ?_
      obtain ⟨g13, h⟩ := gd h
      obtain ⟨g14, h⟩ := gd h
      refine ec_iaload g13 g14 rfl ?_
      refine en_istore (l' := [(4, .int (cI C r11 (Int32.toNatClampNeg (((4 : Int32) * p1) + p2)))), (3, .int (cI C r7 (Int32.toNatClampNeg (((4 : Int32) * p1) + p2)))), (0, .ref p0), (1, .int p1), (2, .int p2)]) rfl rfl ?_
      refine en_iload rfl rfl ?_
      refine ec_iconst cst_m1 rfl ?_
      rcases gi h with ⟨c15, h⟩ | ⟨c15, h⟩
      · refine en_icmp_eq_t c15 rfl ?_
        refine en_iload rfl rfl ?_
        refine ec_iconst cst_m1 rfl ?_
        rcases gi h with ⟨c16, h⟩ | ⟨c16, h⟩
        · refine en_icmp_eq_t c16 rfl ?_
          refine ec_iinc (l' := [(2, .int (p2 + (1 : Int32))), (4, .int (cI C r11 (Int32.toNatClampNeg (((4 : Int32) * p1) + p2)))), (3, .int (cI C r7 (Int32.toNatClampNeg (((4 : Int32) * p1) + p2)))), (0, .ref p0), (1, .int p1)]) rfl cst_1 rfl rfl ?_
          refine en_goto rfl ?_
          refine en_sub [3, 4, 0] rfl rfl ?_
          exact ih _ _ _ _ _ h o M' hk
        · refine en_icmp_eq_f c16 rfl ?_
          refine en_aload rfl rfl ?_
          refine en_iload rfl rfl ?_
          refine en_iload rfl rfl ?_
          refine en_aload rfl rfl ?_
          refine en_iload rfl rfl ?_
          obtain ⟨⟨q17, C18⟩, e19, h⟩ := gb h
          dsimp only at h
          refine ec_callV1 (k' := 235) (n := 2) (rc := 10) (a := p0) (as := [.int p1]) ⟨rfl, rfl⟩ rfl rfl (Nat.le_of_ble_eq_true rfl) (Nat.le_of_ble_eq_true rfl) (Nat.le_of_ble_eq_true rfl) g1 rfl (t_235 e19) ?_
          obtain ⟨⟨q20, C21⟩, e22, h⟩ := gb h
          dsimp only at h
          refine ec_callV1 (k' := 234) (n := 4) (rc := 10) (a := p0) (as := [.int p1, .int (cI C r11 (Int32.toNatClampNeg (((4 : Int32) * p1) + p2))), .int q17]) ⟨rfl, rfl⟩ rfl rfl (Nat.le_of_ble_eq_true rfl) (Nat.le_of_ble_eq_true rfl) (Nat.le_of_ble_eq_true rfl) g1 rfl (t_234 e22) ?_
          rcases gi h with ⟨c23, h⟩ | ⟨c23, h⟩
          · refine en_if_eq_t c23 rfl ?_
            refine ec_iinc (l' := [(2, .int (p2 + (1 : Int32))), (4, .int (cI C r11 (Int32.toNatClampNeg (((4 : Int32) * p1) + p2)))), (3, .int (cI C r7 (Int32.toNatClampNeg (((4 : Int32) * p1) + p2)))), (0, .ref p0), (1, .int p1)]) rfl cst_1 rfl rfl ?_
            refine en_goto rfl ?_
            refine en_sub [3, 4, 0] rfl rfl ?_
            exact ih _ _ _ _ _ h o M' hk
          · refine en_if_eq_f c23 rfl ?_
            cases h
            exact en_sub [] rfl rfl hk
      · refine en_icmp_eq_f c15 rfl ?_
        refine en_aload rfl rfl ?_
        refine en_iload rfl rfl ?_
        refine en_iload rfl rfl ?_
        refine en_aload rfl rfl ?_
        refine en_iload rfl rfl ?_
        obtain ⟨⟨q24, C25⟩, e26, h⟩ := gb h
        dsimp only at h
        refine ec_callV1 (k' := 235) (n := 2) (rc := 10) (a := p0) (as := [.int p1]) ⟨rfl, rfl⟩ rfl rfl (Nat.le_of_ble_eq_true rfl) (Nat.le_of_ble_eq_true rfl) (Nat.le_of_ble_eq_true rfl) g1 rfl (t_235 e26) ?_
        obtain ⟨⟨q27, C28⟩, e29, h⟩ := gb h
        dsimp only at h
        refine ec_callV1 (k' := 234) (n := 4) (rc := 10) (a := p0) (as := [.int p1, .int (cI C r7 (Int32.toNatClampNeg (((4 : Int32) * p1) + p2))), .int q24]) ⟨rfl, rfl⟩ rfl rfl (Nat.le_of_ble_eq_true rfl) (Nat.le_of_ble_eq_true rfl) (Nat.le_of_ble_eq_true rfl) g1 rfl (t_234 e29) ?_
        rcases gi h with ⟨c30, h⟩ | ⟨c30, h⟩
        · refine en_if_ne_t c30 rfl ?_
          cases h
          exact en_sub [] rfl rfl hk
        · refine en_if_ne_f c30 rfl ?_
          refine en_iload rfl rfl ?_
          refine ec_iconst cst_m1 rfl ?_
          rcases gi h with ⟨c31, h⟩ | ⟨c31, h⟩
          · refine en_icmp_eq_t c31 rfl ?_
            refine ec_iinc (l' := [(2, .int (p2 + (1 : Int32))), (4, .int (cI C r11 (Int32.toNatClampNeg (((4 : Int32) * p1) + p2)))), (3, .int (cI C r7 (Int32.toNatClampNeg (((4 : Int32) * p1) + p2)))), (0, .ref p0), (1, .int p1)]) rfl cst_1 rfl rfl ?_
            refine en_goto rfl ?_
            refine en_sub [3, 4, 0] rfl rfl ?_
            exact ih _ _ _ _ _ h o M' hk
          · refine en_icmp_eq_f c31 rfl ?_
            refine en_aload rfl rfl ?_
            refine en_iload rfl rfl ?_
            refine en_iload rfl rfl ?_
            refine en_aload rfl rfl ?_
            refine en_iload rfl rfl ?_
            obtain ⟨⟨q32, C33⟩, e34, h⟩ := gb h
            dsimp only at h
            refine ec_callV1 (k' := 235) (n := 2) (rc := 10) (a := p0) (as := [.int p1]) ⟨rfl, rfl⟩ rfl rfl (Nat.le_of_ble_eq_true rfl) (Nat.le_of_ble_eq_true rfl) (Nat.le_of_ble_eq_true rfl) g1 rfl (t_235 e34) ?_
            obtain ⟨⟨q35, C36⟩, e37, h⟩ := gb h
            dsimp only at h
            refine ec_callV1 (k' := 234) (n := 4) (rc := 10) (a := p0) (as := [.int p1, .int (cI C r11 (Int32.toNatClampNeg (((4 : Int32) * p1) + p2))), .int q32]) ⟨rfl, rfl⟩ rfl rfl (Nat.le_of_ble_eq_true rfl) (Nat.le_of_ble_eq_true rfl) (Nat.le_of_ble_eq_true rfl) g1 rfl (t_234 e37) ?_
            rcases gi h with ⟨c38, h⟩ | ⟨c38, h⟩
            · refine en_if_eq_t c38 rfl ?_
              refine ec_iinc (l' := [(2, .int (p2 + (1 : Int32))), (4, .int (cI C r11 (Int32.toNatClampNeg (((4 : Int32) * p1) + p2)))), (3, .int (cI C r7 (Int32.toNatClampNeg (((4 : Int32) * p1) + p2)))), (0, .ref p0), (1, .int p1)]) rfl cst_1 rfl rfl ?_
              refine en_goto rfl ?_
              refine en_sub [3, 4, 0] rfl rfl ?_
              exact ih _ _ _ _ _ h o M' hk
            · refine en_if_eq_f c38 rfl ?_
              cases h
              exact en_sub [] rfl rfl hk
/-- BulkWriterModel.madeAsks(I)Z -/
def f_237 (n : Nat) (a0 : Nat) (a1 : Int32) (C : AmC) : Option (Int32 × AmC) := (lp_237_2 n a0 a1 (0 : Int32) C).bind (fun q => match q with | ((.inl _), C41) => some ((1 : Int32), C41) | ((.inr _), C41) => some ((0 : Int32), C41))
set_option maxRecDepth 20000 in
set_option maxHeartbeats 4000000 in
theorem t_237 {n : Nat} {a0 : Nat} {a1 : Int32} {C : AmC} {r : Int32} {C' : AmC} (h : f_237 n a0 a1 C = some (r, C')) : En false 237 0 [(0, .ref a0), (1, .int a1)] [] (mkM C) (.inl (some (.int r))) (mkM C') := by
  unfold f_237 at h
  refine ec_iconst cst_0 rfl ?_
  refine en_istore (l' := [(2, .int (0 : Int32)), (0, .ref a0), (1, .int a1)]) rfl rfl ?_
  obtain ⟨⟨q39, C41⟩, e40, h⟩ := gb h
  refine en_sub [1, 2, 0] rfl rfl (lt_237_2 n _ _ _ _ _ e40 _ _ ?_)
  rcases q39 with ⟨⟩ | ⟨⟩
  · dsimp only at h ⊢
    refine ec_iconst cst_1 rfl ?_
    cases h
    exact en_zret (Or.inr rfl) rfl
  · dsimp only at h ⊢
    refine ec_iconst cst_0 rfl ?_
    cases h
    exact en_zret (Or.inl rfl) rfl
/-- BulkWriterModel.reasons(II)I -/
def f_238 (n : Nat) (a0 : Nat) (a1 : Int32) (a2 : Int32) (C : AmC) : Option (Int32 × AmC) := if isK a0 10 = true then (f_233 n a0 a1 a2 C).bind (fun z => match z with | (q2, C3) => (if q2 = 0 then (f_236 n a0 a1 C3).bind (fun z => match z with | (q6, C7) => (if q6 = 0 then (f_237 n a0 a1 C7).bind (fun z => match z with | (q10, C11) => (if q10 = 0 then some ((((0 : Int32) + (0 : Int32)) + (0 : Int32)), C11) else some ((((0 : Int32) + (0 : Int32)) + (4 : Int32)), C11))) else (f_237 n a0 a1 C7).bind (fun z => match z with | (q14, C15) => (if q14 = 0 then some ((((0 : Int32) + (2 : Int32)) + (0 : Int32)), C15) else some ((((0 : Int32) + (2 : Int32)) + (4 : Int32)), C15))))) else (f_236 n a0 a1 C3).bind (fun z => match z with | (q18, C19) => (if q18 = 0 then (f_237 n a0 a1 C19).bind (fun z => match z with | (q22, C23) => (if q22 = 0 then some ((((1 : Int32) + (0 : Int32)) + (0 : Int32)), C23) else some ((((1 : Int32) + (0 : Int32)) + (4 : Int32)), C23))) else (f_237 n a0 a1 C19).bind (fun z => match z with | (q26, C27) => (if q26 = 0 then some ((((1 : Int32) + (2 : Int32)) + (0 : Int32)), C27) else some ((((1 : Int32) + (2 : Int32)) + (4 : Int32)), C27))))))) else none
set_option maxRecDepth 20000 in
set_option maxHeartbeats 4000000 in
theorem t_238 {n : Nat} {a0 : Nat} {a1 : Int32} {a2 : Int32} {C : AmC} {r : Int32} {C' : AmC} (h : f_238 n a0 a1 a2 C = some (r, C')) : En false 238 0 [(0, .ref a0), (1, .int a1), (2, .int a2)] [] (mkM C) (.inl (some (.int r))) (mkM C') := by
  unfold f_238 at h
  refine en_aload rfl rfl ?_
  refine en_iload rfl rfl ?_
  refine en_iload rfl rfl ?_
  obtain ⟨g1, h⟩ := gd h
  obtain ⟨⟨q2, C3⟩, e4, h⟩ := gb h
  dsimp only at h
  refine ec_callV1 (k' := 233) (n := 3) (rc := 10) (a := a0) (as := [.int a1, .int a2]) ⟨rfl, rfl⟩ rfl rfl (Nat.le_of_ble_eq_true rfl) (Nat.le_of_ble_eq_true rfl) (Nat.le_of_ble_eq_true rfl) g1 rfl (t_233 e4) ?_
  rcases gi h with ⟨c5, h⟩ | ⟨c5, h⟩
  · refine en_if_eq_t c5 rfl ?_
    refine ec_iconst cst_0 rfl ?_
    refine en_aload rfl rfl ?_
    refine en_iload rfl rfl ?_
    obtain ⟨⟨q6, C7⟩, e8, h⟩ := gb h
    dsimp only at h
    refine ec_callV1 (k' := 236) (n := 2) (rc := 10) (a := a0) (as := [.int a1]) ⟨rfl, rfl⟩ rfl rfl (Nat.le_of_ble_eq_true rfl) (Nat.le_of_ble_eq_true rfl) (Nat.le_of_ble_eq_true rfl) g1 rfl (t_236 e8) ?_
    rcases gi h with ⟨c9, h⟩ | ⟨c9, h⟩
    · refine en_if_eq_t c9 rfl ?_
      refine ec_iconst cst_0 rfl ?_
      refine en_iadd rfl ?_
      refine en_aload rfl rfl ?_
      refine en_iload rfl rfl ?_
      obtain ⟨⟨q10, C11⟩, e12, h⟩ := gb h
      dsimp only at h
      refine ec_callV1 (k' := 237) (n := 2) (rc := 10) (a := a0) (as := [.int a1]) ⟨rfl, rfl⟩ rfl rfl (Nat.le_of_ble_eq_true rfl) (Nat.le_of_ble_eq_true rfl) (Nat.le_of_ble_eq_true rfl) g1 rfl (t_237 e12) ?_
      rcases gi h with ⟨c13, h⟩ | ⟨c13, h⟩
      · refine en_if_eq_t c13 rfl ?_
        refine ec_iconst cst_0 rfl ?_
        refine en_iadd rfl ?_
        cases h
        exact en_iret rfl
      · refine en_if_eq_f c13 rfl ?_
        refine ec_iconst cst_4 rfl ?_
        refine en_goto rfl ?_
        refine en_iadd rfl ?_
        cases h
        exact en_iret rfl
    · refine en_if_eq_f c9 rfl ?_
      refine ec_iconst cst_2 rfl ?_
      refine en_goto rfl ?_
      refine en_iadd rfl ?_
      refine en_aload rfl rfl ?_
      refine en_iload rfl rfl ?_
      obtain ⟨⟨q14, C15⟩, e16, h⟩ := gb h
      dsimp only at h
      refine ec_callV1 (k' := 237) (n := 2) (rc := 10) (a := a0) (as := [.int a1]) ⟨rfl, rfl⟩ rfl rfl (Nat.le_of_ble_eq_true rfl) (Nat.le_of_ble_eq_true rfl) (Nat.le_of_ble_eq_true rfl) g1 rfl (t_237 e16) ?_
      rcases gi h with ⟨c17, h⟩ | ⟨c17, h⟩
      · refine en_if_eq_t c17 rfl ?_
        refine ec_iconst cst_0 rfl ?_
        refine en_iadd rfl ?_
        cases h
        exact en_iret rfl
      · refine en_if_eq_f c17 rfl ?_
        refine ec_iconst cst_4 rfl ?_
        refine en_goto rfl ?_
        refine en_iadd rfl ?_
        cases h
        exact en_iret rfl
  · refine en_if_eq_f c5 rfl ?_
    refine ec_iconst cst_1 rfl ?_
    refine en_goto rfl ?_
    refine en_aload rfl rfl ?_
    refine en_iload rfl rfl ?_
    obtain ⟨⟨q18, C19⟩, e20, h⟩ := gb h
    dsimp only at h
    refine ec_callV1 (k' := 236) (n := 2) (rc := 10) (a := a0) (as := [.int a1]) ⟨rfl, rfl⟩ rfl rfl (Nat.le_of_ble_eq_true rfl) (Nat.le_of_ble_eq_true rfl) (Nat.le_of_ble_eq_true rfl) g1 rfl (t_236 e20) ?_
    rcases gi h with ⟨c21, h⟩ | ⟨c21, h⟩
    · refine en_if_eq_t c21 rfl ?_
      refine ec_iconst cst_0 rfl ?_
      refine en_iadd rfl ?_
      refine en_aload rfl rfl ?_
      refine en_iload rfl rfl ?_
      obtain ⟨⟨q22, C23⟩, e24, h⟩ := gb h
      dsimp only at h
      refine ec_callV1 (k' := 237) (n := 2) (rc := 10) (a := a0) (as := [.int a1]) ⟨rfl, rfl⟩ rfl rfl (Nat.le_of_ble_eq_true rfl) (Nat.le_of_ble_eq_true rfl) (Nat.le_of_ble_eq_true rfl) g1 rfl (t_237 e24) ?_
      rcases gi h with ⟨c25, h⟩ | ⟨c25, h⟩
      · refine en_if_eq_t c25 rfl ?_
        refine ec_iconst cst_0 rfl ?_
        refine en_iadd rfl ?_
        cases h
        exact en_iret rfl
      · refine en_if_eq_f c25 rfl ?_
        refine ec_iconst cst_4 rfl ?_
        refine en_goto rfl ?_
        refine en_iadd rfl ?_
        cases h
        exact en_iret rfl
    · refine en_if_eq_f c21 rfl ?_
      refine ec_iconst cst_2 rfl ?_
      refine en_goto rfl ?_
      refine en_iadd rfl ?_
      refine en_aload rfl rfl ?_
      refine en_iload rfl rfl ?_
      obtain ⟨⟨q26, C27⟩, e28, h⟩ := gb h
      dsimp only at h
      refine ec_callV1 (k' := 237) (n := 2) (rc := 10) (a := a0) (as := [.int a1]) ⟨rfl, rfl⟩ rfl rfl (Nat.le_of_ble_eq_true rfl) (Nat.le_of_ble_eq_true rfl) (Nat.le_of_ble_eq_true rfl) g1 rfl (t_237 e28) ?_
      rcases gi h with ⟨c29, h⟩ | ⟨c29, h⟩
      · refine en_if_eq_t c29 rfl ?_
        refine ec_iconst cst_0 rfl ?_
        refine en_iadd rfl ?_
        cases h
        exact en_iret rfl
      · refine en_if_eq_f c29 rfl ?_
        refine ec_iconst cst_4 rfl ?_
        refine en_goto rfl ?_
        refine en_iadd rfl ?_
        cases h
        exact en_iret rfl
def lp_239_4 : Nat → Nat → Int32 → Int32 → Int32 → AmC → Option (((Int32)) × AmC)
  | 0, _, _, _, _, _ => none
  | n + 1, p0, p1, p2, p3, C => if isK p0 10 = true then (cP C p0 21).bind (fun r2 => if isK r2 12 = true then if amIn (cI C p0 40) (aLen r2) = true then (if (cI C r2 (Int32.toNatClampNeg (cI C p0 40))) ≤ p3 then some (p2, C) else (f_227 n p0 p1 p3 C).bind (fun z => match z with | (q7, C8) => (if q7 = 0 then lp_239_4 n p0 p1 (p2 + (0 : Int32)) (p3 + (1 : Int32)) C8 else lp_239_4 n p0 p1 (p2 + (1 : Int32)) (p3 + (1 : Int32)) C8))) else none else none) else none
set_option maxRecDepth 20000 in
set_option maxHeartbeats 4000000 in
theorem lt_239_4 : ∀ (n : Nat) (p0 : Nat) (p1 : Int32) (p2 : Int32) (p3 : Int32) (C : AmC) (r : ((Int32)) × AmC), lp_239_4 n p0 p1 p2 p3 C = some r → ∀ (o : AmO) (M' : AmM), (match r with
        | (w2, C') => En false 239 24 [(2, .int w2)] [] (mkM C') o M') → En false 239 4 [(0, .ref p0), (1, .int p1), (2, .int p2), (3, .int p3)] [] (mkM C) o M' := by
  intro n
  induction n with
  | zero => intro p0 p1 p2 p3 C r h; cases h
  | succ n ih =>
    intro p0 p1 p2 p3 C r h o M' hk
    unfold lp_239_4 at h
    refine en_iload rfl rfl ?_
    refine en_aload rfl rfl ?_
    obtain ⟨g1, h⟩ := gd h
    obtain ⟨r2, e3, h⟩ := gb h
    refine ec_getP (ci := 10) (j := 21) ⟨rfl, rfl, rfl⟩ g1 e3 rfl ?_
    refine en_aload rfl rfl ?_
    refine ec_getI (ci := 10) (j := 40) ⟨rfl, rfl, rfl⟩ g1 rfl ?_
    obtain ⟨g4, h⟩ := gd h
    obtain ⟨g5, h⟩ := gd h
    refine ec_iaload g4 g5 rfl ?_
    rcases gi h with ⟨c6, h⟩ | ⟨c6, h⟩
    · refine en_icmp_ge_t c6 rfl ?_
      cases h
      exact en_sub [2] rfl rfl hk
    · refine en_icmp_ge_f c6 rfl ?_
      refine en_iload rfl rfl ?_
      refine en_aload rfl rfl ?_
      refine en_iload rfl rfl ?_
      refine en_iload rfl rfl ?_
      obtain ⟨⟨q7, C8⟩, e9, h⟩ := gb h
      dsimp only at h
      refine ec_callV1 (k' := 227) (n := 3) (rc := 10) (a := p0) (as := [.int p1, .int p3]) ⟨rfl, rfl⟩ rfl rfl (Nat.le_of_ble_eq_true rfl) (Nat.le_of_ble_eq_true rfl) (Nat.le_of_ble_eq_true rfl) g1 rfl (t_227 e9) ?_
      rcases gi h with ⟨c10, h⟩ | ⟨c10, h⟩
      · refine en_if_eq_t c10 rfl ?_
        refine ec_iconst cst_0 rfl ?_
        refine en_iadd rfl ?_
        refine en_istore (l' := [(2, .int (p2 + (0 : Int32))), (0, .ref p0), (1, .int p1), (3, .int p3)]) rfl rfl ?_
        refine ec_iinc (l' := [(3, .int (p3 + (1 : Int32))), (2, .int (p2 + (0 : Int32))), (0, .ref p0), (1, .int p1)]) rfl cst_1 rfl rfl ?_
        refine en_goto rfl ?_
        refine en_sub [2, 3, 1, 0] rfl rfl ?_
        exact ih _ _ _ _ _ _ h o M' hk
      · refine en_if_eq_f c10 rfl ?_
        refine ec_iconst cst_1 rfl ?_
        refine en_goto rfl ?_
        refine en_iadd rfl ?_
        refine en_istore (l' := [(2, .int (p2 + (1 : Int32))), (0, .ref p0), (1, .int p1), (3, .int p3)]) rfl rfl ?_
        refine ec_iinc (l' := [(3, .int (p3 + (1 : Int32))), (2, .int (p2 + (1 : Int32))), (0, .ref p0), (1, .int p1)]) rfl cst_1 rfl rfl ?_
        refine en_goto rfl ?_
        refine en_sub [2, 3, 1, 0] rfl rfl ?_
        exact ih _ _ _ _ _ _ h o M' hk
/-- BulkWriterModel.setMany(I)I -/
def f_239 (n : Nat) (a0 : Nat) (a1 : Int32) (C : AmC) : Option (Int32 × AmC) := (lp_239_4 n a0 a1 (0 : Int32) (0 : Int32) C).bind (fun q => match q with | (u14, C13) => some (u14, C13))
set_option maxRecDepth 20000 in
set_option maxHeartbeats 4000000 in
theorem t_239 {n : Nat} {a0 : Nat} {a1 : Int32} {C : AmC} {r : Int32} {C' : AmC} (h : f_239 n a0 a1 C = some (r, C')) : En false 239 0 [(0, .ref a0), (1, .int a1)] [] (mkM C) (.inl (some (.int r))) (mkM C') := by
  unfold f_239 at h
  refine ec_iconst cst_0 rfl ?_
  refine en_istore (l' := [(2, .int (0 : Int32)), (0, .ref a0), (1, .int a1)]) rfl rfl ?_
  refine ec_iconst cst_0 rfl ?_
  refine en_istore (l' := [(3, .int (0 : Int32)), (2, .int (0 : Int32)), (0, .ref a0), (1, .int a1)]) rfl rfl ?_
  obtain ⟨⟨q11, C13⟩, e12, h⟩ := gb h
  refine en_sub [2, 3, 1, 0] rfl rfl (lt_239_4 n _ _ _ _ _ _ e12 _ _ ?_)
  revert h e12; revert q11; intro u14 e12 h
  dsimp only at h ⊢
  refine en_iload rfl rfl ?_
  cases h
  exact en_iret rfl
/-- BulkWriterModel.eachMade(I)I -/
def f_240 (n : Nat) (a0 : Nat) (a1 : Int32) (C : AmC) : Option (Int32 × AmC) := if isK a0 10 = true then (cP C a0 32).bind (fun r2 => if isK r2 12 = true then if amIn a1 (aLen r2) = true then (if ¬ (cI C r2 (Int32.toNatClampNeg a1)) = (2 : Int32) then (cP C a0 32).bind (fun r7 => if isK r7 12 = true then if amIn a1 (aLen r7) = true then (if ¬ (cI C r7 (Int32.toNatClampNeg a1)) = (1 : Int32) then (f_239 n a0 a1 C).bind (fun z => match z with | (q12, C13) => some (((1 : Int32) + q12), C13)) else some ((1 : Int32), C)) else none else none) else (cP C a0 21).bind (fun r15 => if isK r15 12 = true then if amIn (cI C a0 40) (aLen r15) = true then some (((1 : Int32) + (cI C r15 (Int32.toNatClampNeg (cI C a0 40)))), C) else none else none)) else none else none) else none
set_option maxRecDepth 20000 in
set_option maxHeartbeats 4000000 in
theorem t_240 {n : Nat} {a0 : Nat} {a1 : Int32} {C : AmC} {r : Int32} {C' : AmC} (h : f_240 n a0 a1 C = some (r, C')) : En false 240 0 [(0, .ref a0), (1, .int a1)] [] (mkM C) (.inl (some (.int r))) (mkM C') := by
  unfold f_240 at h
  refine en_aload rfl rfl ?_
  obtain ⟨g1, h⟩ := gd h
  obtain ⟨r2, e3, h⟩ := gb h
  refine ec_getP (ci := 10) (j := 32) ⟨rfl, rfl, rfl⟩ g1 e3 rfl ?_
  refine en_iload rfl rfl ?_
  obtain ⟨g4, h⟩ := gd h
  obtain ⟨g5, h⟩ := gd h
  refine ec_iaload g4 g5 rfl ?_
  refine ec_iconst cst_2 rfl ?_
  rcases gi h with ⟨c6, h⟩ | ⟨c6, h⟩
  · refine en_icmp_ne_t c6 rfl ?_
    refine en_aload rfl rfl ?_
    obtain ⟨r7, e8, h⟩ := gb h
    refine ec_getP (ci := 10) (j := 32) ⟨rfl, rfl, rfl⟩ g1 e8 rfl ?_
    refine en_iload rfl rfl ?_
    obtain ⟨g9, h⟩ := gd h
    obtain ⟨g10, h⟩ := gd h
    refine ec_iaload g9 g10 rfl ?_
    refine ec_iconst cst_1 rfl ?_
    rcases gi h with ⟨c11, h⟩ | ⟨c11, h⟩
    · refine en_icmp_ne_t c11 rfl ?_
      refine ec_iconst cst_1 rfl ?_
      refine en_aload rfl rfl ?_
      refine en_iload rfl rfl ?_
      obtain ⟨⟨q12, C13⟩, e14, h⟩ := gb h
      dsimp only at h
      refine ec_callV1 (k' := 239) (n := 2) (rc := 10) (a := a0) (as := [.int a1]) ⟨rfl, rfl⟩ rfl rfl (Nat.le_of_ble_eq_true rfl) (Nat.le_of_ble_eq_true rfl) (Nat.le_of_ble_eq_true rfl) g1 rfl (t_239 e14) ?_
      refine en_iadd rfl ?_
      cases h
      exact en_iret rfl
    · refine en_icmp_ne_f c11 rfl ?_
      refine ec_iconst cst_1 rfl ?_
      refine en_goto rfl ?_
      cases h
      exact en_iret rfl
  · refine en_icmp_ne_f c6 rfl ?_
    refine ec_iconst cst_1 rfl ?_
    refine en_aload rfl rfl ?_
    obtain ⟨r15, e16, h⟩ := gb h
    refine ec_getP (ci := 10) (j := 21) ⟨rfl, rfl, rfl⟩ g1 e16 rfl ?_
    refine en_aload rfl rfl ?_
    refine ec_getI (ci := 10) (j := 40) ⟨rfl, rfl, rfl⟩ g1 rfl ?_
    obtain ⟨g17, h⟩ := gd h
    obtain ⟨g18, h⟩ := gd h
    refine ec_iaload g17 g18 rfl ?_
    refine en_iadd rfl ?_
    refine en_goto rfl ?_
    cases h
    exact en_iret rfl
