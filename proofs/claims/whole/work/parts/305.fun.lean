def lp_61_85 : Nat → Nat → Nat → Nat → Int32 → AmC → Option (((Unit)) × AmC)
  | 0, _, _, _, _, _ => none
  | n + 1, p0, p1, p2, p6, C => (if (4 : Int32) ≤ p6 then some ((), C) else if isK p0 4 = true then (f_64 n p0 p1 p2 p6 C).bind (fun z => match z with | (q24, C25) => (if (cI C25 p0 5) = 0 then lp_61_85 n p0 p1 p2 (p6 + (1 : Int32)) (uI (uI C25 p0 5 p6) p0 6 q24) else (if (cI C25 p0 6) ≤ q24 then lp_61_85 n p0 p1 p2 (p6 + (1 : Int32)) C25 else lp_61_85 n p0 p1 p2 (p6 + (1 : Int32)) (uI (uI C25 p0 5 p6) p0 6 q24)))) else none)
set_option maxRecDepth 20000 in
set_option maxHeartbeats 4000000 in
theorem lt_61_85 : ∀ (n : Nat) (p0 : Nat) (p1 : Nat) (p2 : Nat) (p6 : Int32) (C : AmC) (r : ((Unit)) × AmC), lp_61_85 n p0 p1 p2 p6 C = some r → ∀ (o : AmO) (M' : AmM), (match r with
        | (_, C') => En false 61 109 [] [] (mkM C') o M') → En false 61 85 [(0, .ref p0), (1, .ref p1), (2, .ref p2), (6, .int p6)] [] (mkM C) o M' := by
  intro n
  induction n with
  | zero => intro p0 p1 p2 p6 C r h; cases h
  | succ n ih =>
    intro p0 p1 p2 p6 C r h o M' hk
    unfold lp_61_85 at h
    refine en_iload rfl rfl ?_
    refine ec_iconst cst_4 rfl ?_
    rcases gi h with ⟨c22, h⟩ | ⟨c22, h⟩
    · refine en_icmp_ge_t c22 rfl ?_
      cases h
      exact en_sub [] rfl rfl hk
    · refine en_icmp_ge_f c22 rfl ?_
      refine en_aload rfl rfl ?_
      refine en_aload rfl rfl ?_
      refine en_aload rfl rfl ?_
      refine en_iload rfl rfl ?_
      obtain ⟨g23, h⟩ := gd h
      obtain ⟨⟨q24, C25⟩, e26, h⟩ := gb h
      dsimp only at h
      refine ec_callV1 (k' := 64) (n := 4) (rc := 4) (a := p0) (as := [.ref p1, .ref p2, .int p6]) ⟨rfl, rfl⟩ rfl rfl (Nat.le_of_ble_eq_true rfl) (Nat.le_of_ble_eq_true rfl) (Nat.le_of_ble_eq_true rfl) g23 rfl (t_64 e26) ?_
      refine en_istore (l' := [(7, .int q24), (0, .ref p0), (1, .ref p1), (2, .ref p2), (6, .int p6)]) rfl rfl ?_
      refine en_aload rfl rfl ?_
      refine ec_getI (ci := 4) (j := 5) ⟨rfl, rfl, rfl⟩ g23 rfl ?_
      rcases gi h with ⟨c27, h⟩ | ⟨c27, h⟩
      · refine en_if_eq_t c27 rfl ?_
        refine en_aload rfl rfl ?_
        refine en_iload rfl rfl ?_
        refine ec_putI (ci := 4) (j := 5) ⟨rfl, rfl, rfl⟩ g23 rfl ?_
        refine en_aload rfl rfl ?_
        refine en_iload rfl rfl ?_
        refine ec_putI (ci := 4) (j := 6) ⟨rfl, rfl, rfl⟩ g23 rfl ?_
        refine ec_iinc (l' := [(6, .int (p6 + (1 : Int32))), (7, .int q24), (0, .ref p0), (1, .ref p1), (2, .ref p2)]) rfl cst_1 rfl rfl ?_
        refine en_goto rfl ?_
        refine en_sub [2, 3, 4, 0] rfl rfl ?_
        exact ih _ _ _ _ _ _ h o M' hk
      · refine en_if_eq_f c27 rfl ?_
        refine en_iload rfl rfl ?_
        refine en_aload rfl rfl ?_
        refine ec_getI (ci := 4) (j := 6) ⟨rfl, rfl, rfl⟩ g23 rfl ?_
        rcases gi h with ⟨c28, h⟩ | ⟨c28, h⟩
        · refine en_icmp_ge_t c28 rfl ?_
          refine ec_iinc (l' := [(6, .int (p6 + (1 : Int32))), (7, .int q24), (0, .ref p0), (1, .ref p1), (2, .ref p2)]) rfl cst_1 rfl rfl ?_
          refine en_goto rfl ?_
          refine en_sub [2, 3, 4, 0] rfl rfl ?_
          exact ih _ _ _ _ _ _ h o M' hk
        · refine en_icmp_ge_f c28 rfl ?_
          refine en_aload rfl rfl ?_
          refine en_iload rfl rfl ?_
          refine ec_putI (ci := 4) (j := 5) ⟨rfl, rfl, rfl⟩ g23 rfl ?_
          refine en_aload rfl rfl ?_
          refine en_iload rfl rfl ?_
          refine ec_putI (ci := 4) (j := 6) ⟨rfl, rfl, rfl⟩ g23 rfl ?_
          refine ec_iinc (l' := [(6, .int (p6 + (1 : Int32))), (7, .int q24), (0, .ref p0), (1, .ref p1), (2, .ref p2)]) rfl cst_1 rfl rfl ?_
          refine en_goto rfl ?_
          refine en_sub [2, 3, 4, 0] rfl rfl ?_
          exact ih _ _ _ _ _ _ h o M' hk
/-- BulkWriter$Planner.decide(LBulkWriter$Script;LBulkWriter$Statement;ILBulkWriter$Rows;)V -/
def f_61 (n : Nat) (a0 : Nat) (a1 : Nat) (a2 : Nat) (a3 : Int32) (a4 : Nat) (C : AmC) : Option (Unit × AmC) := if isK a0 4 = true then if isK a2 8 = true then (if (cI (uI (uI (uI C a0 1 (0 : Int32)) a0 2 (0 : Int32)) a0 3 (0 : Int32)) a2 0) = 0 then (f_62 n a0 a1 a2 a3 a4 (uI (uI (uI C a0 1 (0 : Int32)) a0 2 (0 : Int32)) a0 3 (0 : Int32))).bind (fun z => match z with | (_, C5) => (f_65 n a1 a2 a3 C5).bind (fun z => match z with | (q7, C8) => (if q7 = 0 then (f_67 n a1 a2 (uI C8 a0 4 (0 : Int32))).bind (fun z => match z with | (q11, C12) => (if q11 = 0 then (f_68 n a1 a2 (uI C12 a0 4 ((cI (uI C8 a0 4 (0 : Int32)) a0 4) + (0 : Int32)))).bind (fun z => match z with | (q15, C16) => (if q15 = 0 then (if ¬ (cI (uI (uI (uI C16 a0 4 ((cI (uI C12 a0 4 ((cI (uI C8 a0 4 (0 : Int32)) a0 4) + (0 : Int32))) a0 4) + (0 : Int32))) a0 5 (0 : Int32)) a0 6 (0 : Int32)) a0 4) = 0 then (if (cI (uI (uI (uI C16 a0 4 ((cI (uI C12 a0 4 ((cI (uI C8 a0 4 (0 : Int32)) a0 4) + (0 : Int32))) a0 4) + (0 : Int32))) a0 5 (0 : Int32)) a0 6 (0 : Int32)) a0 4) < (4 : Int32) then (if (cI (uI (uI (uI C16 a0 4 ((cI (uI C12 a0 4 ((cI (uI C8 a0 4 (0 : Int32)) a0 4) + (0 : Int32))) a0 4) + (0 : Int32))) a0 5 (0 : Int32)) a0 6 (0 : Int32)) a0 4) < (2 : Int32) then (lp_61_85 n a0 a1 a2 (1 : Int32) (uI (uI (uI C16 a0 4 ((cI (uI C12 a0 4 ((cI (uI C8 a0 4 (0 : Int32)) a0 4) + (0 : Int32))) a0 4) + (0 : Int32))) a0 5 (0 : Int32)) a0 6 (0 : Int32))).bind (fun q => match q with | (_, C31) => some ((), C31)) else (lp_61_85 n a0 a1 a2 (2 : Int32) (uI (uI (uI C16 a0 4 ((cI (uI C12 a0 4 ((cI (uI C8 a0 4 (0 : Int32)) a0 4) + (0 : Int32))) a0 4) + (0 : Int32))) a0 5 (0 : Int32)) a0 6 (0 : Int32))).bind (fun q => match q with | (_, C34) => some ((), C34))) else (lp_61_85 n a0 a1 a2 (3 : Int32) (uI (uI (uI C16 a0 4 ((cI (uI C12 a0 4 ((cI (uI C8 a0 4 (0 : Int32)) a0 4) + (0 : Int32))) a0 4) + (0 : Int32))) a0 5 (0 : Int32)) a0 6 (0 : Int32))).bind (fun q => match q with | (_, C37) => some ((), C37))) else some ((), uI (uI (uI C16 a0 4 ((cI (uI C12 a0 4 ((cI (uI C8 a0 4 (0 : Int32)) a0 4) + (0 : Int32))) a0 4) + (0 : Int32))) a0 5 (0 : Int32)) a0 6 (0 : Int32))) else (if ¬ (cI (uI (uI (uI C16 a0 4 ((cI (uI C12 a0 4 ((cI (uI C8 a0 4 (0 : Int32)) a0 4) + (0 : Int32))) a0 4) + (4 : Int32))) a0 5 (0 : Int32)) a0 6 (0 : Int32)) a0 4) = 0 then (if (cI (uI (uI (uI C16 a0 4 ((cI (uI C12 a0 4 ((cI (uI C8 a0 4 (0 : Int32)) a0 4) + (0 : Int32))) a0 4) + (4 : Int32))) a0 5 (0 : Int32)) a0 6 (0 : Int32)) a0 4) < (4 : Int32) then (if (cI (uI (uI (uI C16 a0 4 ((cI (uI C12 a0 4 ((cI (uI C8 a0 4 (0 : Int32)) a0 4) + (0 : Int32))) a0 4) + (4 : Int32))) a0 5 (0 : Int32)) a0 6 (0 : Int32)) a0 4) < (2 : Int32) then (lp_61_85 n a0 a1 a2 (1 : Int32) (uI (uI (uI C16 a0 4 ((cI (uI C12 a0 4 ((cI (uI C8 a0 4 (0 : Int32)) a0 4) + (0 : Int32))) a0 4) + (4 : Int32))) a0 5 (0 : Int32)) a0 6 (0 : Int32))).bind (fun q => match q with | (_, C43) => some ((), C43)) else (lp_61_85 n a0 a1 a2 (2 : Int32) (uI (uI (uI C16 a0 4 ((cI (uI C12 a0 4 ((cI (uI C8 a0 4 (0 : Int32)) a0 4) + (0 : Int32))) a0 4) + (4 : Int32))) a0 5 (0 : Int32)) a0 6 (0 : Int32))).bind (fun q => match q with | (_, C46) => some ((), C46))) else (lp_61_85 n a0 a1 a2 (3 : Int32) (uI (uI (uI C16 a0 4 ((cI (uI C12 a0 4 ((cI (uI C8 a0 4 (0 : Int32)) a0 4) + (0 : Int32))) a0 4) + (4 : Int32))) a0 5 (0 : Int32)) a0 6 (0 : Int32))).bind (fun q => match q with | (_, C49) => some ((), C49))) else some ((), uI (uI (uI C16 a0 4 ((cI (uI C12 a0 4 ((cI (uI C8 a0 4 (0 : Int32)) a0 4) + (0 : Int32))) a0 4) + (4 : Int32))) a0 5 (0 : Int32)) a0 6 (0 : Int32))))) else (f_68 n a1 a2 (uI C12 a0 4 ((cI (uI C8 a0 4 (0 : Int32)) a0 4) + (2 : Int32)))).bind (fun z => match z with | (q50, C51) => (if q50 = 0 then (if ¬ (cI (uI (uI (uI C51 a0 4 ((cI (uI C12 a0 4 ((cI (uI C8 a0 4 (0 : Int32)) a0 4) + (2 : Int32))) a0 4) + (0 : Int32))) a0 5 (0 : Int32)) a0 6 (0 : Int32)) a0 4) = 0 then (if (cI (uI (uI (uI C51 a0 4 ((cI (uI C12 a0 4 ((cI (uI C8 a0 4 (0 : Int32)) a0 4) + (2 : Int32))) a0 4) + (0 : Int32))) a0 5 (0 : Int32)) a0 6 (0 : Int32)) a0 4) < (4 : Int32) then (if (cI (uI (uI (uI C51 a0 4 ((cI (uI C12 a0 4 ((cI (uI C8 a0 4 (0 : Int32)) a0 4) + (2 : Int32))) a0 4) + (0 : Int32))) a0 5 (0 : Int32)) a0 6 (0 : Int32)) a0 4) < (2 : Int32) then (lp_61_85 n a0 a1 a2 (1 : Int32) (uI (uI (uI C51 a0 4 ((cI (uI C12 a0 4 ((cI (uI C8 a0 4 (0 : Int32)) a0 4) + (2 : Int32))) a0 4) + (0 : Int32))) a0 5 (0 : Int32)) a0 6 (0 : Int32))).bind (fun q => match q with | (_, C59) => some ((), C59)) else (lp_61_85 n a0 a1 a2 (2 : Int32) (uI (uI (uI C51 a0 4 ((cI (uI C12 a0 4 ((cI (uI C8 a0 4 (0 : Int32)) a0 4) + (2 : Int32))) a0 4) + (0 : Int32))) a0 5 (0 : Int32)) a0 6 (0 : Int32))).bind (fun q => match q with | (_, C62) => some ((), C62))) else (lp_61_85 n a0 a1 a2 (3 : Int32) (uI (uI (uI C51 a0 4 ((cI (uI C12 a0 4 ((cI (uI C8 a0 4 (0 : Int32)) a0 4) + (2 : Int32))) a0 4) + (0 : Int32))) a0 5 (0 : Int32)) a0 6 (0 : Int32))).bind (fun q => match q with | (_, C65) => some ((), C65))) else some ((), uI (uI (uI C51 a0 4 ((cI (uI C12 a0 4 ((cI (uI C8 a0 4 (0 : Int32)) a0 4) + (2 : Int32))) a0 4) + (0 : Int32))) a0 5 (0 : Int32)) a0 6 (0 : Int32))) else (if ¬ (cI (uI (uI (uI C51 a0 4 ((cI (uI C12 a0 4 ((cI (uI C8 a0 4 (0 : Int32)) a0 4) + (2 : Int32))) a0 4) + (4 : Int32))) a0 5 (0 : Int32)) a0 6 (0 : Int32)) a0 4) = 0 then (if (cI (uI (uI (uI C51 a0 4 ((cI (uI C12 a0 4 ((cI (uI C8 a0 4 (0 : Int32)) a0 4) + (2 : Int32))) a0 4) + (4 : Int32))) a0 5 (0 : Int32)) a0 6 (0 : Int32)) a0 4) < (4 : Int32) then (if (cI (uI (uI (uI C51 a0 4 ((cI (uI C12 a0 4 ((cI (uI C8 a0 4 (0 : Int32)) a0 4) + (2 : Int32))) a0 4) + (4 : Int32))) a0 5 (0 : Int32)) a0 6 (0 : Int32)) a0 4) < (2 : Int32) then (lp_61_85 n a0 a1 a2 (1 : Int32) (uI (uI (uI C51 a0 4 ((cI (uI C12 a0 4 ((cI (uI C8 a0 4 (0 : Int32)) a0 4) + (2 : Int32))) a0 4) + (4 : Int32))) a0 5 (0 : Int32)) a0 6 (0 : Int32))).bind (fun q => match q with | (_, C71) => some ((), C71)) else (lp_61_85 n a0 a1 a2 (2 : Int32) (uI (uI (uI C51 a0 4 ((cI (uI C12 a0 4 ((cI (uI C8 a0 4 (0 : Int32)) a0 4) + (2 : Int32))) a0 4) + (4 : Int32))) a0 5 (0 : Int32)) a0 6 (0 : Int32))).bind (fun q => match q with | (_, C74) => some ((), C74))) else (lp_61_85 n a0 a1 a2 (3 : Int32) (uI (uI (uI C51 a0 4 ((cI (uI C12 a0 4 ((cI (uI C8 a0 4 (0 : Int32)) a0 4) + (2 : Int32))) a0 4) + (4 : Int32))) a0 5 (0 : Int32)) a0 6 (0 : Int32))).bind (fun q => match q with | (_, C77) => some ((), C77))) else some ((), uI (uI (uI C51 a0 4 ((cI (uI C12 a0 4 ((cI (uI C8 a0 4 (0 : Int32)) a0 4) + (2 : Int32))) a0 4) + (4 : Int32))) a0 5 (0 : Int32)) a0 6 (0 : Int32))))))) else (f_67 n a1 a2 (uI C8 a0 4 (1 : Int32))).bind (fun z => match z with | (q78, C79) => (if q78 = 0 then (f_68 n a1 a2 (uI C79 a0 4 ((cI (uI C8 a0 4 (1 : Int32)) a0 4) + (0 : Int32)))).bind (fun z => match z with | (q82, C83) => (if q82 = 0 then (if ¬ (cI (uI (uI (uI C83 a0 4 ((cI (uI C79 a0 4 ((cI (uI C8 a0 4 (1 : Int32)) a0 4) + (0 : Int32))) a0 4) + (0 : Int32))) a0 5 (0 : Int32)) a0 6 (0 : Int32)) a0 4) = 0 then (if (cI (uI (uI (uI C83 a0 4 ((cI (uI C79 a0 4 ((cI (uI C8 a0 4 (1 : Int32)) a0 4) + (0 : Int32))) a0 4) + (0 : Int32))) a0 5 (0 : Int32)) a0 6 (0 : Int32)) a0 4) < (4 : Int32) then (if (cI (uI (uI (uI C83 a0 4 ((cI (uI C79 a0 4 ((cI (uI C8 a0 4 (1 : Int32)) a0 4) + (0 : Int32))) a0 4) + (0 : Int32))) a0 5 (0 : Int32)) a0 6 (0 : Int32)) a0 4) < (2 : Int32) then (lp_61_85 n a0 a1 a2 (1 : Int32) (uI (uI (uI C83 a0 4 ((cI (uI C79 a0 4 ((cI (uI C8 a0 4 (1 : Int32)) a0 4) + (0 : Int32))) a0 4) + (0 : Int32))) a0 5 (0 : Int32)) a0 6 (0 : Int32))).bind (fun q => match q with | (_, C91) => some ((), C91)) else (lp_61_85 n a0 a1 a2 (2 : Int32) (uI (uI (uI C83 a0 4 ((cI (uI C79 a0 4 ((cI (uI C8 a0 4 (1 : Int32)) a0 4) + (0 : Int32))) a0 4) + (0 : Int32))) a0 5 (0 : Int32)) a0 6 (0 : Int32))).bind (fun q => match q with | (_, C94) => some ((), C94))) else (lp_61_85 n a0 a1 a2 (3 : Int32) (uI (uI (uI C83 a0 4 ((cI (uI C79 a0 4 ((cI (uI C8 a0 4 (1 : Int32)) a0 4) + (0 : Int32))) a0 4) + (0 : Int32))) a0 5 (0 : Int32)) a0 6 (0 : Int32))).bind (fun q => match q with | (_, C97) => some ((), C97))) else some ((), uI (uI (uI C83 a0 4 ((cI (uI C79 a0 4 ((cI (uI C8 a0 4 (1 : Int32)) a0 4) + (0 : Int32))) a0 4) + (0 : Int32))) a0 5 (0 : Int32)) a0 6 (0 : Int32))) else (if ¬ (cI (uI (uI (uI C83 a0 4 ((cI (uI C79 a0 4 ((cI (uI C8 a0 4 (1 : Int32)) a0 4) + (0 : Int32))) a0 4) + (4 : Int32))) a0 5 (0 : Int32)) a0 6 (0 : Int32)) a0 4) = 0 then (if (cI (uI (uI (uI C83 a0 4 ((cI (uI C79 a0 4 ((cI (uI C8 a0 4 (1 : Int32)) a0 4) + (0 : Int32))) a0 4) + (4 : Int32))) a0 5 (0 : Int32)) a0 6 (0 : Int32)) a0 4) < (4 : Int32) then (if (cI (uI (uI (uI C83 a0 4 ((cI (uI C79 a0 4 ((cI (uI C8 a0 4 (1 : Int32)) a0 4) + (0 : Int32))) a0 4) + (4 : Int32))) a0 5 (0 : Int32)) a0 6 (0 : Int32)) a0 4) < (2 : Int32) then (lp_61_85 n a0 a1 a2 (1 : Int32) (uI (uI (uI C83 a0 4 ((cI (uI C79 a0 4 ((cI (uI C8 a0 4 (1 : Int32)) a0 4) + (0 : Int32))) a0 4) + (4 : Int32))) a0 5 (0 : Int32)) a0 6 (0 : Int32))).bind (fun q => match q with | (_, C103) => some ((), C103)) else (lp_61_85 n a0 a1 a2 (2 : Int32) (uI (uI (uI C83 a0 4 ((cI (uI C79 a0 4 ((cI (uI C8 a0 4 (1 : Int32)) a0 4) + (0 : Int32))) a0 4) + (4 : Int32))) a0 5 (0 : Int32)) a0 6 (0 : Int32))).bind (fun q => match q with | (_, C106) => some ((), C106))) else (lp_61_85 n a0 a1 a2 (3 : Int32) (uI (uI (uI C83 a0 4 ((cI (uI C79 a0 4 ((cI (uI C8 a0 4 (1 : Int32)) a0 4) + (0 : Int32))) a0 4) + (4 : Int32))) a0 5 (0 : Int32)) a0 6 (0 : Int32))).bind (fun q => match q with | (_, C109) => some ((), C109))) else some ((), uI (uI (uI C83 a0 4 ((cI (uI C79 a0 4 ((cI (uI C8 a0 4 (1 : Int32)) a0 4) + (0 : Int32))) a0 4) + (4 : Int32))) a0 5 (0 : Int32)) a0 6 (0 : Int32))))) else (f_68 n a1 a2 (uI C79 a0 4 ((cI (uI C8 a0 4 (1 : Int32)) a0 4) + (2 : Int32)))).bind (fun z => match z with | (q110, C111) => (if q110 = 0 then (if ¬ (cI (uI (uI (uI C111 a0 4 ((cI (uI C79 a0 4 ((cI (uI C8 a0 4 (1 : Int32)) a0 4) + (2 : Int32))) a0 4) + (0 : Int32))) a0 5 (0 : Int32)) a0 6 (0 : Int32)) a0 4) = 0 then (if (cI (uI (uI (uI C111 a0 4 ((cI (uI C79 a0 4 ((cI (uI C8 a0 4 (1 : Int32)) a0 4) + (2 : Int32))) a0 4) + (0 : Int32))) a0 5 (0 : Int32)) a0 6 (0 : Int32)) a0 4) < (4 : Int32) then (if (cI (uI (uI (uI C111 a0 4 ((cI (uI C79 a0 4 ((cI (uI C8 a0 4 (1 : Int32)) a0 4) + (2 : Int32))) a0 4) + (0 : Int32))) a0 5 (0 : Int32)) a0 6 (0 : Int32)) a0 4) < (2 : Int32) then (lp_61_85 n a0 a1 a2 (1 : Int32) (uI (uI (uI C111 a0 4 ((cI (uI C79 a0 4 ((cI (uI C8 a0 4 (1 : Int32)) a0 4) + (2 : Int32))) a0 4) + (0 : Int32))) a0 5 (0 : Int32)) a0 6 (0 : Int32))).bind (fun q => match q with | (_, C119) => some ((), C119)) else (lp_61_85 n a0 a1 a2 (2 : Int32) (uI (uI (uI C111 a0 4 ((cI (uI C79 a0 4 ((cI (uI C8 a0 4 (1 : Int32)) a0 4) + (2 : Int32))) a0 4) + (0 : Int32))) a0 5 (0 : Int32)) a0 6 (0 : Int32))).bind (fun q => match q with | (_, C122) => some ((), C122))) else (lp_61_85 n a0 a1 a2 (3 : Int32) (uI (uI (uI C111 a0 4 ((cI (uI C79 a0 4 ((cI (uI C8 a0 4 (1 : Int32)) a0 4) + (2 : Int32))) a0 4) + (0 : Int32))) a0 5 (0 : Int32)) a0 6 (0 : Int32))).bind (fun q => match q with | (_, C125) => some ((), C125))) else some ((), uI (uI (uI C111 a0 4 ((cI (uI C79 a0 4 ((cI (uI C8 a0 4 (1 : Int32)) a0 4) + (2 : Int32))) a0 4) + (0 : Int32))) a0 5 (0 : Int32)) a0 6 (0 : Int32))) else (if ¬ (cI (uI (uI (uI C111 a0 4 ((cI (uI C79 a0 4 ((cI (uI C8 a0 4 (1 : Int32)) a0 4) + (2 : Int32))) a0 4) + (4 : Int32))) a0 5 (0 : Int32)) a0 6 (0 : Int32)) a0 4) = 0 then (if (cI (uI (uI (uI C111 a0 4 ((cI (uI C79 a0 4 ((cI (uI C8 a0 4 (1 : Int32)) a0 4) + (2 : Int32))) a0 4) + (4 : Int32))) a0 5 (0 : Int32)) a0 6 (0 : Int32)) a0 4) < (4 : Int32) then (if (cI (uI (uI (uI C111 a0 4 ((cI (uI C79 a0 4 ((cI (uI C8 a0 4 (1 : Int32)) a0 4) + (2 : Int32))) a0 4) + (4 : Int32))) a0 5 (0 : Int32)) a0 6 (0 : Int32)) a0 4) < (2 : Int32) then (lp_61_85 n a0 a1 a2 (1 : Int32) (uI (uI (uI C111 a0 4 ((cI (uI C79 a0 4 ((cI (uI C8 a0 4 (1 : Int32)) a0 4) + (2 : Int32))) a0 4) + (4 : Int32))) a0 5 (0 : Int32)) a0 6 (0 : Int32))).bind (fun q => match q with | (_, C131) => some ((), C131)) else (lp_61_85 n a0 a1 a2 (2 : Int32) (uI (uI (uI C111 a0 4 ((cI (uI C79 a0 4 ((cI (uI C8 a0 4 (1 : Int32)) a0 4) + (2 : Int32))) a0 4) + (4 : Int32))) a0 5 (0 : Int32)) a0 6 (0 : Int32))).bind (fun q => match q with | (_, C134) => some ((), C134))) else (lp_61_85 n a0 a1 a2 (3 : Int32) (uI (uI (uI C111 a0 4 ((cI (uI C79 a0 4 ((cI (uI C8 a0 4 (1 : Int32)) a0 4) + (2 : Int32))) a0 4) + (4 : Int32))) a0 5 (0 : Int32)) a0 6 (0 : Int32))).bind (fun q => match q with | (_, C137) => some ((), C137))) else some ((), uI (uI (uI C111 a0 4 ((cI (uI C79 a0 4 ((cI (uI C8 a0 4 (1 : Int32)) a0 4) + (2 : Int32))) a0 4) + (4 : Int32))) a0 5 (0 : Int32)) a0 6 (0 : Int32)))))))))) else (f_63 n a0 a1 a2 a3 a4 (uI (uI (uI C a0 1 (0 : Int32)) a0 2 (0 : Int32)) a0 3 (0 : Int32))).bind (fun z => match z with | (_, C139) => (f_65 n a1 a2 a3 C139).bind (fun z => match z with | (q141, C142) => (if q141 = 0 then (f_67 n a1 a2 (uI C142 a0 4 (0 : Int32))).bind (fun z => match z with | (q145, C146) => (if q145 = 0 then (f_68 n a1 a2 (uI C146 a0 4 ((cI (uI C142 a0 4 (0 : Int32)) a0 4) + (0 : Int32)))).bind (fun z => match z with | (q149, C150) => (if q149 = 0 then (if ¬ (cI (uI (uI (uI C150 a0 4 ((cI (uI C146 a0 4 ((cI (uI C142 a0 4 (0 : Int32)) a0 4) + (0 : Int32))) a0 4) + (0 : Int32))) a0 5 (0 : Int32)) a0 6 (0 : Int32)) a0 4) = 0 then (if (cI (uI (uI (uI C150 a0 4 ((cI (uI C146 a0 4 ((cI (uI C142 a0 4 (0 : Int32)) a0 4) + (0 : Int32))) a0 4) + (0 : Int32))) a0 5 (0 : Int32)) a0 6 (0 : Int32)) a0 4) < (4 : Int32) then (if (cI (uI (uI (uI C150 a0 4 ((cI (uI C146 a0 4 ((cI (uI C142 a0 4 (0 : Int32)) a0 4) + (0 : Int32))) a0 4) + (0 : Int32))) a0 5 (0 : Int32)) a0 6 (0 : Int32)) a0 4) < (2 : Int32) then (lp_61_85 n a0 a1 a2 (1 : Int32) (uI (uI (uI C150 a0 4 ((cI (uI C146 a0 4 ((cI (uI C142 a0 4 (0 : Int32)) a0 4) + (0 : Int32))) a0 4) + (0 : Int32))) a0 5 (0 : Int32)) a0 6 (0 : Int32))).bind (fun q => match q with | (_, C158) => some ((), C158)) else (lp_61_85 n a0 a1 a2 (2 : Int32) (uI (uI (uI C150 a0 4 ((cI (uI C146 a0 4 ((cI (uI C142 a0 4 (0 : Int32)) a0 4) + (0 : Int32))) a0 4) + (0 : Int32))) a0 5 (0 : Int32)) a0 6 (0 : Int32))).bind (fun q => match q with | (_, C161) => some ((), C161))) else (lp_61_85 n a0 a1 a2 (3 : Int32) (uI (uI (uI C150 a0 4 ((cI (uI C146 a0 4 ((cI (uI C142 a0 4 (0 : Int32)) a0 4) + (0 : Int32))) a0 4) + (0 : Int32))) a0 5 (0 : Int32)) a0 6 (0 : Int32))).bind (fun q => match q with | (_, C164) => some ((), C164))) else some ((), uI (uI (uI C150 a0 4 ((cI (uI C146 a0 4 ((cI (uI C142 a0 4 (0 : Int32)) a0 4) + (0 : Int32))) a0 4) + (0 : Int32))) a0 5 (0 : Int32)) a0 6 (0 : Int32))) else (if ¬ (cI (uI (uI (uI C150 a0 4 ((cI (uI C146 a0 4 ((cI (uI C142 a0 4 (0 : Int32)) a0 4) + (0 : Int32))) a0 4) + (4 : Int32))) a0 5 (0 : Int32)) a0 6 (0 : Int32)) a0 4) = 0 then (if (cI (uI (uI (uI C150 a0 4 ((cI (uI C146 a0 4 ((cI (uI C142 a0 4 (0 : Int32)) a0 4) + (0 : Int32))) a0 4) + (4 : Int32))) a0 5 (0 : Int32)) a0 6 (0 : Int32)) a0 4) < (4 : Int32) then (if (cI (uI (uI (uI C150 a0 4 ((cI (uI C146 a0 4 ((cI (uI C142 a0 4 (0 : Int32)) a0 4) + (0 : Int32))) a0 4) + (4 : Int32))) a0 5 (0 : Int32)) a0 6 (0 : Int32)) a0 4) < (2 : Int32) then (lp_61_85 n a0 a1 a2 (1 : Int32) (uI (uI (uI C150 a0 4 ((cI (uI C146 a0 4 ((cI (uI C142 a0 4 (0 : Int32)) a0 4) + (0 : Int32))) a0 4) + (4 : Int32))) a0 5 (0 : Int32)) a0 6 (0 : Int32))).bind (fun q => match q with | (_, C170) => some ((), C170)) else (lp_61_85 n a0 a1 a2 (2 : Int32) (uI (uI (uI C150 a0 4 ((cI (uI C146 a0 4 ((cI (uI C142 a0 4 (0 : Int32)) a0 4) + (0 : Int32))) a0 4) + (4 : Int32))) a0 5 (0 : Int32)) a0 6 (0 : Int32))).bind (fun q => match q with | (_, C173) => some ((), C173))) else (lp_61_85 n a0 a1 a2 (3 : Int32) (uI (uI (uI C150 a0 4 ((cI (uI C146 a0 4 ((cI (uI C142 a0 4 (0 : Int32)) a0 4) + (0 : Int32))) a0 4) + (4 : Int32))) a0 5 (0 : Int32)) a0 6 (0 : Int32))).bind (fun q => match q with | (_, C176) => some ((), C176))) else some ((), uI (uI (uI C150 a0 4 ((cI (uI C146 a0 4 ((cI (uI C142 a0 4 (0 : Int32)) a0 4) + (0 : Int32))) a0 4) + (4 : Int32))) a0 5 (0 : Int32)) a0 6 (0 : Int32))))) else (f_68 n a1 a2 (uI C146 a0 4 ((cI (uI C142 a0 4 (0 : Int32)) a0 4) + (2 : Int32)))).bind (fun z => match z with | (q177, C178) => (if q177 = 0 then (if ¬ (cI (uI (uI (uI C178 a0 4 ((cI (uI C146 a0 4 ((cI (uI C142 a0 4 (0 : Int32)) a0 4) + (2 : Int32))) a0 4) + (0 : Int32))) a0 5 (0 : Int32)) a0 6 (0 : Int32)) a0 4) = 0 then (if (cI (uI (uI (uI C178 a0 4 ((cI (uI C146 a0 4 ((cI (uI C142 a0 4 (0 : Int32)) a0 4) + (2 : Int32))) a0 4) + (0 : Int32))) a0 5 (0 : Int32)) a0 6 (0 : Int32)) a0 4) < (4 : Int32) then (if (cI (uI (uI (uI C178 a0 4 ((cI (uI C146 a0 4 ((cI (uI C142 a0 4 (0 : Int32)) a0 4) + (2 : Int32))) a0 4) + (0 : Int32))) a0 5 (0 : Int32)) a0 6 (0 : Int32)) a0 4) < (2 : Int32) then (lp_61_85 n a0 a1 a2 (1 : Int32) (uI (uI (uI C178 a0 4 ((cI (uI C146 a0 4 ((cI (uI C142 a0 4 (0 : Int32)) a0 4) + (2 : Int32))) a0 4) + (0 : Int32))) a0 5 (0 : Int32)) a0 6 (0 : Int32))).bind (fun q => match q with | (_, C186) => some ((), C186)) else (lp_61_85 n a0 a1 a2 (2 : Int32) (uI (uI (uI C178 a0 4 ((cI (uI C146 a0 4 ((cI (uI C142 a0 4 (0 : Int32)) a0 4) + (2 : Int32))) a0 4) + (0 : Int32))) a0 5 (0 : Int32)) a0 6 (0 : Int32))).bind (fun q => match q with | (_, C189) => some ((), C189))) else (lp_61_85 n a0 a1 a2 (3 : Int32) (uI (uI (uI C178 a0 4 ((cI (uI C146 a0 4 ((cI (uI C142 a0 4 (0 : Int32)) a0 4) + (2 : Int32))) a0 4) + (0 : Int32))) a0 5 (0 : Int32)) a0 6 (0 : Int32))).bind (fun q => match q with | (_, C192) => some ((), C192))) else some ((), uI (uI (uI C178 a0 4 ((cI (uI C146 a0 4 ((cI (uI C142 a0 4 (0 : Int32)) a0 4) + (2 : Int32))) a0 4) + (0 : Int32))) a0 5 (0 : Int32)) a0 6 (0 : Int32))) else (if ¬ (cI (uI (uI (uI C178 a0 4 ((cI (uI C146 a0 4 ((cI (uI C142 a0 4 (0 : Int32)) a0 4) + (2 : Int32))) a0 4) + (4 : Int32))) a0 5 (0 : Int32)) a0 6 (0 : Int32)) a0 4) = 0 then (if (cI (uI (uI (uI C178 a0 4 ((cI (uI C146 a0 4 ((cI (uI C142 a0 4 (0 : Int32)) a0 4) + (2 : Int32))) a0 4) + (4 : Int32))) a0 5 (0 : Int32)) a0 6 (0 : Int32)) a0 4) < (4 : Int32) then (if (cI (uI (uI (uI C178 a0 4 ((cI (uI C146 a0 4 ((cI (uI C142 a0 4 (0 : Int32)) a0 4) + (2 : Int32))) a0 4) + (4 : Int32))) a0 5 (0 : Int32)) a0 6 (0 : Int32)) a0 4) < (2 : Int32) then (lp_61_85 n a0 a1 a2 (1 : Int32) (uI (uI (uI C178 a0 4 ((cI (uI C146 a0 4 ((cI (uI C142 a0 4 (0 : Int32)) a0 4) + (2 : Int32))) a0 4) + (4 : Int32))) a0 5 (0 : Int32)) a0 6 (0 : Int32))).bind (fun q => match q with | (_, C198) => some ((), C198)) else (lp_61_85 n a0 a1 a2 (2 : Int32) (uI (uI (uI C178 a0 4 ((cI (uI C146 a0 4 ((cI (uI C142 a0 4 (0 : Int32)) a0 4) + (2 : Int32))) a0 4) + (4 : Int32))) a0 5 (0 : Int32)) a0 6 (0 : Int32))).bind (fun q => match q with | (_, C201) => some ((), C201))) else (lp_61_85 n a0 a1 a2 (3 : Int32) (uI (uI (uI C178 a0 4 ((cI (uI C146 a0 4 ((cI (uI C142 a0 4 (0 : Int32)) a0 4) + (2 : Int32))) a0 4) + (4 : Int32))) a0 5 (0 : Int32)) a0 6 (0 : Int32))).bind (fun q => match q with | (_, C204) => some ((), C204))) else some ((), uI (uI (uI C178 a0 4 ((cI (uI C146 a0 4 ((cI (uI C142 a0 4 (0 : Int32)) a0 4) + (2 : Int32))) a0 4) + (4 : Int32))) a0 5 (0 : Int32)) a0 6 (0 : Int32))))))) else (f_67 n a1 a2 (uI C142 a0 4 (1 : Int32))).bind (fun z => match z with | (q205, C206) => (if q205 = 0 then (f_68 n a1 a2 (uI C206 a0 4 ((cI (uI C142 a0 4 (1 : Int32)) a0 4) + (0 : Int32)))).bind (fun z => match z with | (q209, C210) => (if q209 = 0 then (if ¬ (cI (uI (uI (uI C210 a0 4 ((cI (uI C206 a0 4 ((cI (uI C142 a0 4 (1 : Int32)) a0 4) + (0 : Int32))) a0 4) + (0 : Int32))) a0 5 (0 : Int32)) a0 6 (0 : Int32)) a0 4) = 0 then (if (cI (uI (uI (uI C210 a0 4 ((cI (uI C206 a0 4 ((cI (uI C142 a0 4 (1 : Int32)) a0 4) + (0 : Int32))) a0 4) + (0 : Int32))) a0 5 (0 : Int32)) a0 6 (0 : Int32)) a0 4) < (4 : Int32) then (if (cI (uI (uI (uI C210 a0 4 ((cI (uI C206 a0 4 ((cI (uI C142 a0 4 (1 : Int32)) a0 4) + (0 : Int32))) a0 4) + (0 : Int32))) a0 5 (0 : Int32)) a0 6 (0 : Int32)) a0 4) < (2 : Int32) then (lp_61_85 n a0 a1 a2 (1 : Int32) (uI (uI (uI C210 a0 4 ((cI (uI C206 a0 4 ((cI (uI C142 a0 4 (1 : Int32)) a0 4) + (0 : Int32))) a0 4) + (0 : Int32))) a0 5 (0 : Int32)) a0 6 (0 : Int32))).bind (fun q => match q with | (_, C218) => some ((), C218)) else (lp_61_85 n a0 a1 a2 (2 : Int32) (uI (uI (uI C210 a0 4 ((cI (uI C206 a0 4 ((cI (uI C142 a0 4 (1 : Int32)) a0 4) + (0 : Int32))) a0 4) + (0 : Int32))) a0 5 (0 : Int32)) a0 6 (0 : Int32))).bind (fun q => match q with | (_, C221) => some ((), C221))) else (lp_61_85 n a0 a1 a2 (3 : Int32) (uI (uI (uI C210 a0 4 ((cI (uI C206 a0 4 ((cI (uI C142 a0 4 (1 : Int32)) a0 4) + (0 : Int32))) a0 4) + (0 : Int32))) a0 5 (0 : Int32)) a0 6 (0 : Int32))).bind (fun q => match q with | (_, C224) => some ((), C224))) else some ((), uI (uI (uI C210 a0 4 ((cI (uI C206 a0 4 ((cI (uI C142 a0 4 (1 : Int32)) a0 4) + (0 : Int32))) a0 4) + (0 : Int32))) a0 5 (0 : Int32)) a0 6 (0 : Int32))) else (if ¬ (cI (uI (uI (uI C210 a0 4 ((cI (uI C206 a0 4 ((cI (uI C142 a0 4 (1 : Int32)) a0 4) + (0 : Int32))) a0 4) + (4 : Int32))) a0 5 (0 : Int32)) a0 6 (0 : Int32)) a0 4) = 0 then (if (cI (uI (uI (uI C210 a0 4 ((cI (uI C206 a0 4 ((cI (uI C142 a0 4 (1 : Int32)) a0 4) + (0 : Int32))) a0 4) + (4 : Int32))) a0 5 (0 : Int32)) a0 6 (0 : Int32)) a0 4) < (4 : Int32) then (if (cI (uI (uI (uI C210 a0 4 ((cI (uI C206 a0 4 ((cI (uI C142 a0 4 (1 : Int32)) a0 4) + (0 : Int32))) a0 4) + (4 : Int32))) a0 5 (0 : Int32)) a0 6 (0 : Int32)) a0 4) < (2 : Int32) then (lp_61_85 n a0 a1 a2 (1 : Int32) (uI (uI (uI C210 a0 4 ((cI (uI C206 a0 4 ((cI (uI C142 a0 4 (1 : Int32)) a0 4) + (0 : Int32))) a0 4) + (4 : Int32))) a0 5 (0 : Int32)) a0 6 (0 : Int32))).bind (fun q => match q with | (_, C230) => some ((), C230)) else (lp_61_85 n a0 a1 a2 (2 : Int32) (uI (uI (uI C210 a0 4 ((cI (uI C206 a0 4 ((cI (uI C142 a0 4 (1 : Int32)) a0 4) + (0 : Int32))) a0 4) + (4 : Int32))) a0 5 (0 : Int32)) a0 6 (0 : Int32))).bind (fun q => match q with | (_, C233) => some ((), C233))) else (lp_61_85 n a0 a1 a2 (3 : Int32) (uI (uI (uI C210 a0 4 ((cI (uI C206 a0 4 ((cI (uI C142 a0 4 (1 : Int32)) a0 4) + (0 : Int32))) a0 4) + (4 : Int32))) a0 5 (0 : Int32)) a0 6 (0 : Int32))).bind (fun q => match q with | (_, C236) => some ((), C236))) else some ((), uI (uI (uI C210 a0 4 ((cI (uI C206 a0 4 ((cI (uI C142 a0 4 (1 : Int32)) a0 4) + (0 : Int32))) a0 4) + (4 : Int32))) a0 5 (0 : Int32)) a0 6 (0 : Int32))))) else (f_68 n a1 a2 (uI C206 a0 4 ((cI (uI C142 a0 4 (1 : Int32)) a0 4) + (2 : Int32)))).bind (fun z => match z with | (q237, C238) => (if q237 = 0 then (if ¬ (cI (uI (uI (uI C238 a0 4 ((cI (uI C206 a0 4 ((cI (uI C142 a0 4 (1 : Int32)) a0 4) + (2 : Int32))) a0 4) + (0 : Int32))) a0 5 (0 : Int32)) a0 6 (0 : Int32)) a0 4) = 0 then (if (cI (uI (uI (uI C238 a0 4 ((cI (uI C206 a0 4 ((cI (uI C142 a0 4 (1 : Int32)) a0 4) + (2 : Int32))) a0 4) + (0 : Int32))) a0 5 (0 : Int32)) a0 6 (0 : Int32)) a0 4) < (4 : Int32) then (if (cI (uI (uI (uI C238 a0 4 ((cI (uI C206 a0 4 ((cI (uI C142 a0 4 (1 : Int32)) a0 4) + (2 : Int32))) a0 4) + (0 : Int32))) a0 5 (0 : Int32)) a0 6 (0 : Int32)) a0 4) < (2 : Int32) then (lp_61_85 n a0 a1 a2 (1 : Int32) (uI (uI (uI C238 a0 4 ((cI (uI C206 a0 4 ((cI (uI C142 a0 4 (1 : Int32)) a0 4) + (2 : Int32))) a0 4) + (0 : Int32))) a0 5 (0 : Int32)) a0 6 (0 : Int32))).bind (fun q => match q with | (_, C246) => some ((), C246)) else (lp_61_85 n a0 a1 a2 (2 : Int32) (uI (uI (uI C238 a0 4 ((cI (uI C206 a0 4 ((cI (uI C142 a0 4 (1 : Int32)) a0 4) + (2 : Int32))) a0 4) + (0 : Int32))) a0 5 (0 : Int32)) a0 6 (0 : Int32))).bind (fun q => match q with | (_, C249) => some ((), C249))) else (lp_61_85 n a0 a1 a2 (3 : Int32) (uI (uI (uI C238 a0 4 ((cI (uI C206 a0 4 ((cI (uI C142 a0 4 (1 : Int32)) a0 4) + (2 : Int32))) a0 4) + (0 : Int32))) a0 5 (0 : Int32)) a0 6 (0 : Int32))).bind (fun q => match q with | (_, C252) => some ((), C252))) else some ((), uI (uI (uI C238 a0 4 ((cI (uI C206 a0 4 ((cI (uI C142 a0 4 (1 : Int32)) a0 4) + (2 : Int32))) a0 4) + (0 : Int32))) a0 5 (0 : Int32)) a0 6 (0 : Int32))) else (if ¬ (cI (uI (uI (uI C238 a0 4 ((cI (uI C206 a0 4 ((cI (uI C142 a0 4 (1 : Int32)) a0 4) + (2 : Int32))) a0 4) + (4 : Int32))) a0 5 (0 : Int32)) a0 6 (0 : Int32)) a0 4) = 0 then (if (cI (uI (uI (uI C238 a0 4 ((cI (uI C206 a0 4 ((cI (uI C142 a0 4 (1 : Int32)) a0 4) + (2 : Int32))) a0 4) + (4 : Int32))) a0 5 (0 : Int32)) a0 6 (0 : Int32)) a0 4) < (4 : Int32) then (if (cI (uI (uI (uI C238 a0 4 ((cI (uI C206 a0 4 ((cI (uI C142 a0 4 (1 : Int32)) a0 4) + (2 : Int32))) a0 4) + (4 : Int32))) a0 5 (0 : Int32)) a0 6 (0 : Int32)) a0 4) < (2 : Int32) then (lp_61_85 n a0 a1 a2 (1 : Int32) (uI (uI (uI C238 a0 4 ((cI (uI C206 a0 4 ((cI (uI C142 a0 4 (1 : Int32)) a0 4) + (2 : Int32))) a0 4) + (4 : Int32))) a0 5 (0 : Int32)) a0 6 (0 : Int32))).bind (fun q => match q with | (_, C258) => some ((), C258)) else (lp_61_85 n a0 a1 a2 (2 : Int32) (uI (uI (uI C238 a0 4 ((cI (uI C206 a0 4 ((cI (uI C142 a0 4 (1 : Int32)) a0 4) + (2 : Int32))) a0 4) + (4 : Int32))) a0 5 (0 : Int32)) a0 6 (0 : Int32))).bind (fun q => match q with | (_, C261) => some ((), C261))) else (lp_61_85 n a0 a1 a2 (3 : Int32) (uI (uI (uI C238 a0 4 ((cI (uI C206 a0 4 ((cI (uI C142 a0 4 (1 : Int32)) a0 4) + (2 : Int32))) a0 4) + (4 : Int32))) a0 5 (0 : Int32)) a0 6 (0 : Int32))).bind (fun q => match q with | (_, C264) => some ((), C264))) else some ((), uI (uI (uI C238 a0 4 ((cI (uI C206 a0 4 ((cI (uI C142 a0 4 (1 : Int32)) a0 4) + (2 : Int32))) a0 4) + (4 : Int32))) a0 5 (0 : Int32)) a0 6 (0 : Int32))))))))))) else none else none
set_option maxRecDepth 20000 in
set_option maxHeartbeats 4000000 in
theorem t_61 {n : Nat} {a0 : Nat} {a1 : Nat} {a2 : Nat} {a3 : Int32} {a4 : Nat} {C : AmC} {r : Unit} {C' : AmC} (h : f_61 n a0 a1 a2 a3 a4 C = some (r, C')) : En false 61 0 [(0, .ref a0), (1, .ref a1), (2, .ref a2), (3, .int a3), (4, .ref a4)] [] (mkM C) (.inl none) (mkM C') := by
  unfold f_61 at h
  refine en_aload rfl rfl ?_
  refine ec_iconst cst_0 rfl ?_
  obtain ⟨g1, h⟩ := gd h
  refine ec_putI (ci := 4) (j := 1) ⟨rfl, rfl, rfl⟩ g1 rfl ?_
  refine en_aload rfl rfl ?_
  refine ec_iconst cst_0 rfl ?_
  refine ec_putI (ci := 4) (j := 2) ⟨rfl, rfl, rfl⟩ g1 rfl ?_
  refine en_aload rfl rfl ?_
  refine ec_iconst cst_0 rfl ?_
  refine ec_putI (ci := 4) (j := 3) ⟨rfl, rfl, rfl⟩ g1 rfl ?_
  refine en_aload rfl rfl ?_
  obtain ⟨g2, h⟩ := gd h
  refine ec_getI (ci := 8) (j := 0) ⟨rfl, rfl, rfl⟩ g2 rfl ?_
  rcases gi h with ⟨c3, h⟩ | ⟨c3, h⟩
  · refine en_if_eq_t c3 rfl ?_
    refine en_aload rfl rfl ?_
    refine en_aload rfl rfl ?_
    refine en_aload rfl rfl ?_
    refine en_iload rfl rfl ?_
    refine en_aload rfl rfl ?_
    obtain ⟨⟨q4, C5⟩, e6, h⟩ := gb h
    dsimp only at h
    refine ec_callV0 (k' := 62) (n := 5) (rc := 4) (a := a0) (as := [.ref a1, .ref a2, .int a3, .ref a4]) ⟨rfl, rfl⟩ rfl rfl (Nat.le_of_ble_eq_true rfl) (Nat.le_of_ble_eq_true rfl) (Nat.le_of_ble_eq_true rfl) g1 rfl (t_62 e6) ?_
    refine en_aload rfl rfl ?_
    refine en_aload rfl rfl ?_
    refine en_aload rfl rfl ?_
    refine en_iload rfl rfl ?_
    obtain ⟨⟨q7, C8⟩, e9, h⟩ := gb h
    dsimp only at h
    refine ec_callS1 (k' := 65) (n := 3) (as := [.ref a1, .ref a2, .int a3]) rfl rfl rfl (Nat.le_of_ble_eq_true rfl) (Nat.le_of_ble_eq_true rfl) (Nat.le_of_ble_eq_true rfl) rfl (t_65 e9) ?_
    rcases gi h with ⟨c10, h⟩ | ⟨c10, h⟩
    · refine en_if_eq_t c10 rfl ?_
      refine ec_iconst cst_0 rfl ?_
      refine ec_putI (ci := 4) (j := 4) ⟨rfl, rfl, rfl⟩ g1 rfl ?_
      refine en_aload rfl rfl ?_
      refine en_dup rfl rfl ?_
      refine ec_getI (ci := 4) (j := 4) ⟨rfl, rfl, rfl⟩ g1 rfl ?_
      refine en_aload rfl rfl ?_
      refine en_aload rfl rfl ?_
      obtain ⟨⟨q11, C12⟩, e13, h⟩ := gb h
      dsimp only at h
      refine ec_callS1 (k' := 67) (n := 2) (as := [.ref a1, .ref a2]) rfl rfl rfl (Nat.le_of_ble_eq_true rfl) (Nat.le_of_ble_eq_true rfl) (Nat.le_of_ble_eq_true rfl) rfl (t_67 e13) ?_
      rcases gi h with ⟨c14, h⟩ | ⟨c14, h⟩
      · refine en_if_eq_t c14 rfl ?_
        refine ec_iconst cst_0 rfl ?_
        refine en_iadd rfl ?_
        refine ec_putI (ci := 4) (j := 4) ⟨rfl, rfl, rfl⟩ g1 rfl ?_
        refine en_aload rfl rfl ?_
        refine en_dup rfl rfl ?_
        refine ec_getI (ci := 4) (j := 4) ⟨rfl, rfl, rfl⟩ g1 rfl ?_
        refine en_aload rfl rfl ?_
        refine en_aload rfl rfl ?_
        obtain ⟨⟨q15, C16⟩, e17, h⟩ := gb h
        dsimp only at h
        refine ec_callS1 (k' := 68) (n := 2) (as := [.ref a1, .ref a2]) rfl rfl rfl (Nat.le_of_ble_eq_true rfl) (Nat.le_of_ble_eq_true rfl) (Nat.le_of_ble_eq_true rfl) rfl (t_68 e17) ?_
        rcases gi h with ⟨c18, h⟩ | ⟨c18, h⟩
        · refine en_if_eq_t c18 rfl ?_
          refine ec_iconst cst_0 rfl ?_
          refine en_iadd rfl ?_
          refine ec_putI (ci := 4) (j := 4) ⟨rfl, rfl, rfl⟩ g1 rfl ?_
          refine en_aload rfl rfl ?_
          refine ec_iconst cst_0 rfl ?_
          refine ec_putI (ci := 4) (j := 5) ⟨rfl, rfl, rfl⟩ g1 rfl ?_
          refine en_aload rfl rfl ?_
          refine ec_iconst cst_0 rfl ?_
          refine ec_putI (ci := 4) (j := 6) ⟨rfl, rfl, rfl⟩ g1 rfl ?_
          refine en_aload rfl rfl ?_
          refine ec_getI (ci := 4) (j := 4) ⟨rfl, rfl, rfl⟩ g1 rfl ?_
          rcases gi h with ⟨c19, h⟩ | ⟨c19, h⟩
          · refine en_if_ne_t c19 rfl ?_
            refine en_aload rfl rfl ?_
            refine ec_getI (ci := 4) (j := 4) ⟨rfl, rfl, rfl⟩ g1 rfl ?_
            refine ec_iconst cst_4 rfl ?_
            rcases gi h with ⟨c20, h⟩ | ⟨c20, h⟩
            · refine en_icmp_lt_t c20 rfl ?_
              refine en_aload rfl rfl ?_
              refine ec_getI (ci := 4) (j := 4) ⟨rfl, rfl, rfl⟩ g1 rfl ?_
              refine ec_iconst cst_2 rfl ?_
              rcases gi h with ⟨c21, h⟩ | ⟨c21, h⟩
              · refine en_icmp_lt_t c21 rfl ?_
                refine ec_iconst cst_1 rfl ?_
                refine en_istore (l' := [(5, .int (1 : Int32)), (0, .ref a0), (1, .ref a1), (2, .ref a2), (3, .int a3), (4, .ref a4)]) rfl rfl ?_
                refine en_iload rfl rfl ?_
                refine en_istore (l' := [(6, .int (1 : Int32)), (5, .int (1 : Int32)), (0, .ref a0), (1, .ref a1), (2, .ref a2), (3, .int a3), (4, .ref a4)]) rfl rfl ?_
                obtain ⟨⟨q29, C31⟩, e30, h⟩ := gb h
                refine en_sub [2, 3, 4, 0] rfl rfl (lt_61_85 n _ _ _ _ _ _ e30 _ _ ?_)
                dsimp only at h ⊢
                cases h
                exact en_vret rfl
              · refine en_icmp_lt_f c21 rfl ?_
                refine ec_iconst cst_2 rfl ?_
                refine en_goto rfl ?_
                refine en_istore (l' := [(5, .int (2 : Int32)), (0, .ref a0), (1, .ref a1), (2, .ref a2), (3, .int a3), (4, .ref a4)]) rfl rfl ?_
                refine en_iload rfl rfl ?_
                refine en_istore (l' := [(6, .int (2 : Int32)), (5, .int (2 : Int32)), (0, .ref a0), (1, .ref a1), (2, .ref a2), (3, .int a3), (4, .ref a4)]) rfl rfl ?_
                obtain ⟨⟨q32, C34⟩, e33, h⟩ := gb h
                refine en_sub [2, 3, 4, 0] rfl rfl (lt_61_85 n _ _ _ _ _ _ e33 _ _ ?_)
                dsimp only at h ⊢
                cases h
                exact en_vret rfl
            · refine en_icmp_lt_f c20 rfl ?_
              refine ec_iconst cst_3 rfl ?_
              refine en_goto rfl ?_
              refine en_istore (l' := [(5, .int (3 : Int32)), (0, .ref a0), (1, .ref a1), (2, .ref a2), (3, .int a3), (4, .ref a4)]) rfl rfl ?_
              refine en_iload rfl rfl ?_
              refine en_istore (l' := [(6, .int (3 : Int32)), (5, .int (3 : Int32)), (0, .ref a0), (1, .ref a1), (2, .ref a2), (3, .int a3), (4, .ref a4)]) rfl rfl ?_
              obtain ⟨⟨q35, C37⟩, e36, h⟩ := gb h
              refine en_sub [2, 3, 4, 0] rfl rfl (lt_61_85 n _ _ _ _ _ _ e36 _ _ ?_)
              dsimp only at h ⊢
              cases h
              exact en_vret rfl
          · refine en_if_ne_f c19 rfl ?_
            cases h
            exact en_vret rfl
        · refine en_if_eq_f c18 rfl ?_
          refine ec_iconst cst_4 rfl ?_
          refine en_goto rfl ?_
          refine en_iadd rfl ?_
          refine ec_putI (ci := 4) (j := 4) ⟨rfl, rfl, rfl⟩ g1 rfl ?_
          refine en_aload rfl rfl ?_
          refine ec_iconst cst_0 rfl ?_
          refine ec_putI (ci := 4) (j := 5) ⟨rfl, rfl, rfl⟩ g1 rfl ?_
          refine en_aload rfl rfl ?_
          refine ec_iconst cst_0 rfl ?_
          refine ec_putI (ci := 4) (j := 6) ⟨rfl, rfl, rfl⟩ g1 rfl ?_
          refine en_aload rfl rfl ?_
          refine ec_getI (ci := 4) (j := 4) ⟨rfl, rfl, rfl⟩ g1 rfl ?_
          rcases gi h with ⟨c38, h⟩ | ⟨c38, h⟩
          · refine en_if_ne_t c38 rfl ?_
            refine en_aload rfl rfl ?_
            refine ec_getI (ci := 4) (j := 4) ⟨rfl, rfl, rfl⟩ g1 rfl ?_
            refine ec_iconst cst_4 rfl ?_
            rcases gi h with ⟨c39, h⟩ | ⟨c39, h⟩
            · refine en_icmp_lt_t c39 rfl ?_
              refine en_aload rfl rfl ?_
              refine ec_getI (ci := 4) (j := 4) ⟨rfl, rfl, rfl⟩ g1 rfl ?_
              refine ec_iconst cst_2 rfl ?_
              rcases gi h with ⟨c40, h⟩ | ⟨c40, h⟩
              · refine en_icmp_lt_t c40 rfl ?_
                refine ec_iconst cst_1 rfl ?_
                refine en_istore (l' := [(5, .int (1 : Int32)), (0, .ref a0), (1, .ref a1), (2, .ref a2), (3, .int a3), (4, .ref a4)]) rfl rfl ?_
                refine en_iload rfl rfl ?_
                refine en_istore (l' := [(6, .int (1 : Int32)), (5, .int (1 : Int32)), (0, .ref a0), (1, .ref a1), (2, .ref a2), (3, .int a3), (4, .ref a4)]) rfl rfl ?_
                obtain ⟨⟨q41, C43⟩, e42, h⟩ := gb h
                refine en_sub [2, 3, 4, 0] rfl rfl (lt_61_85 n _ _ _ _ _ _ e42 _ _ ?_)
                dsimp only at h ⊢
                cases h
                exact en_vret rfl
              · refine en_icmp_lt_f c40 rfl ?_
                refine ec_iconst cst_2 rfl ?_
                refine en_goto rfl ?_
                refine en_istore (l' := [(5, .int (2 : Int32)), (0, .ref a0), (1, .ref a1), (2, .ref a2), (3, .int a3), (4, .ref a4)]) rfl rfl ?_
                refine en_iload rfl rfl ?_
                refine en_istore (l' := [(6, .int (2 : Int32)), (5, .int (2 : Int32)), (0, .ref a0), (1, .ref a1), (2, .ref a2), (3, .int a3), (4, .ref a4)]) rfl rfl ?_
                obtain ⟨⟨q44, C46⟩, e45, h⟩ := gb h
                refine en_sub [2, 3, 4, 0] rfl rfl (lt_61_85 n _ _ _ _ _ _ e45 _ _ ?_)
                dsimp only at h ⊢
                cases h
                exact en_vret rfl
            · refine en_icmp_lt_f c39 rfl ?_
              refine ec_iconst cst_3 rfl ?_
              refine en_goto rfl ?_
              refine en_istore (l' := [(5, .int (3 : Int32)), (0, .ref a0), (1, .ref a1), (2, .ref a2), (3, .int a3), (4, .ref a4)]) rfl rfl ?_
              refine en_iload rfl rfl ?_
              refine en_istore (l' := [(6, .int (3 : Int32)), (5, .int (3 : Int32)), (0, .ref a0), (1, .ref a1), (2, .ref a2), (3, .int a3), (4, .ref a4)]) rfl rfl ?_
              obtain ⟨⟨q47, C49⟩, e48, h⟩ := gb h
              refine en_sub [2, 3, 4, 0] rfl rfl (lt_61_85 n _ _ _ _ _ _ e48 _ _ ?_)
              dsimp only at h ⊢
              cases h
              exact en_vret rfl
          · refine en_if_ne_f c38 rfl ?_
            cases h
            exact en_vret rfl
      · refine en_if_eq_f c14 rfl ?_
        refine ec_iconst cst_2 rfl ?_
        refine en_goto rfl ?_
        refine en_iadd rfl ?_
        refine ec_putI (ci := 4) (j := 4) ⟨rfl, rfl, rfl⟩ g1 rfl ?_
        refine en_aload rfl rfl ?_
        refine en_dup rfl rfl ?_
        refine ec_getI (ci := 4) (j := 4) ⟨rfl, rfl, rfl⟩ g1 rfl ?_
        refine en_aload rfl rfl ?_
        refine en_aload rfl rfl ?_
        obtain ⟨⟨q50, C51⟩, e52, h⟩ := gb h
        dsimp only at h
        refine ec_callS1 (k' := 68) (n := 2) (as := [.ref a1, .ref a2]) rfl rfl rfl (Nat.le_of_ble_eq_true rfl) (Nat.le_of_ble_eq_true rfl) (Nat.le_of_ble_eq_true rfl) rfl (t_68 e52) ?_
        rcases gi h with ⟨c53, h⟩ | ⟨c53, h⟩
        · refine en_if_eq_t c53 rfl ?_
          refine ec_iconst cst_0 rfl ?_
          refine en_iadd rfl ?_
          refine ec_putI (ci := 4) (j := 4) ⟨rfl, rfl, rfl⟩ g1 rfl ?_
          refine en_aload rfl rfl ?_
          refine ec_iconst cst_0 rfl ?_
          refine ec_putI (ci := 4) (j := 5) ⟨rfl, rfl, rfl⟩ g1 rfl ?_
          refine en_aload rfl rfl ?_
          refine ec_iconst cst_0 rfl ?_
          refine ec_putI (ci := 4) (j := 6) ⟨rfl, rfl, rfl⟩ g1 rfl ?_
          refine en_aload rfl rfl ?_
          refine ec_getI (ci := 4) (j := 4) ⟨rfl, rfl, rfl⟩ g1 rfl ?_
          rcases gi h with ⟨c54, h⟩ | ⟨c54, h⟩
          · refine en_if_ne_t c54 rfl ?_
            refine en_aload rfl rfl ?_
            refine ec_getI (ci := 4) (j := 4) ⟨rfl, rfl, rfl⟩ g1 rfl ?_
            refine ec_iconst cst_4 rfl ?_
            rcases gi h with ⟨c55, h⟩ | ⟨c55, h⟩
            · refine en_icmp_lt_t c55 rfl ?_
              refine en_aload rfl rfl ?_
              refine ec_getI (ci := 4) (j := 4) ⟨rfl, rfl, rfl⟩ g1 rfl ?_
              refine ec_iconst cst_2 rfl ?_
              rcases gi h with ⟨c56, h⟩ | ⟨c56, h⟩
              · refine en_icmp_lt_t c56 rfl ?_
                refine ec_iconst cst_1 rfl ?_
                refine en_istore (l' := [(5, .int (1 : Int32)), (0, .ref a0), (1, .ref a1), (2, .ref a2), (3, .int a3), (4, .ref a4)]) rfl rfl ?_
                refine en_iload rfl rfl ?_
                refine en_istore (l' := [(6, .int (1 : Int32)), (5, .int (1 : Int32)), (0, .ref a0), (1, .ref a1), (2, .ref a2), (3, .int a3), (4, .ref a4)]) rfl rfl ?_
                obtain ⟨⟨q57, C59⟩, e58, h⟩ := gb h
                refine en_sub [2, 3, 4, 0] rfl rfl (lt_61_85 n _ _ _ _ _ _ e58 _ _ ?_)
                dsimp only at h ⊢
                cases h
                exact en_vret rfl
              · refine en_icmp_lt_f c56 rfl ?_
                refine ec_iconst cst_2 rfl ?_
                refine en_goto rfl ?_
                refine en_istore (l' := [(5, .int (2 : Int32)), (0, .ref a0), (1, .ref a1), (2, .ref a2), (3, .int a3), (4, .ref a4)]) rfl rfl ?_
                refine en_iload rfl rfl ?_
                refine en_istore (l' := [(6, .int (2 : Int32)), (5, .int (2 : Int32)), (0, .ref a0), (1, .ref a1), (2, .ref a2), (3, .int a3), (4, .ref a4)]) rfl rfl ?_
                obtain ⟨⟨q60, C62⟩, e61, h⟩ := gb h
                refine en_sub [2, 3, 4, 0] rfl rfl (lt_61_85 n _ _ _ _ _ _ e61 _ _ ?_)
                dsimp only at h ⊢
                cases h
                exact en_vret rfl
            · refine en_icmp_lt_f c55 rfl ?_
              refine ec_iconst cst_3 rfl ?_
              refine en_goto rfl ?_
              refine en_istore (l' := [(5, .int (3 : Int32)), (0, .ref a0), (1, .ref a1), (2, .ref a2), (3, .int a3), (4, .ref a4)]) rfl rfl ?_
              refine en_iload rfl rfl ?_
              refine en_istore (l' := [(6, .int (3 : Int32)), (5, .int (3 : Int32)), (0, .ref a0), (1, .ref a1), (2, .ref a2), (3, .int a3), (4, .ref a4)]) rfl rfl ?_
              obtain ⟨⟨q63, C65⟩, e64, h⟩ := gb h
              refine en_sub [2, 3, 4, 0] rfl rfl (lt_61_85 n _ _ _ _ _ _ e64 _ _ ?_)
              dsimp only at h ⊢
              cases h
              exact en_vret rfl
          · refine en_if_ne_f c54 rfl ?_
            cases h
            exact en_vret rfl
        · refine en_if_eq_f c53 rfl ?_
          refine ec_iconst cst_4 rfl ?_
          refine en_goto rfl ?_
          refine en_iadd rfl ?_
          refine ec_putI (ci := 4) (j := 4) ⟨rfl, rfl, rfl⟩ g1 rfl ?_
          refine en_aload rfl rfl ?_
          refine ec_iconst cst_0 rfl ?_
          refine ec_putI (ci := 4) (j := 5) ⟨rfl, rfl, rfl⟩ g1 rfl ?_
          refine en_aload rfl rfl ?_
          refine ec_iconst cst_0 rfl ?_
          refine ec_putI (ci := 4) (j := 6) ⟨rfl, rfl, rfl⟩ g1 rfl ?_
          refine en_aload rfl rfl ?_
          refine ec_getI (ci := 4) (j := 4) ⟨rfl, rfl, rfl⟩ g1 rfl ?_
          rcases gi h with ⟨c66, h⟩ | ⟨c66, h⟩
          · refine en_if_ne_t c66 rfl ?_
            refine en_aload rfl rfl ?_
            refine ec_getI (ci := 4) (j := 4) ⟨rfl, rfl, rfl⟩ g1 rfl ?_
            refine ec_iconst cst_4 rfl ?_
            rcases gi h with ⟨c67, h⟩ | ⟨c67, h⟩
            · refine en_icmp_lt_t c67 rfl ?_
              refine en_aload rfl rfl ?_
              refine ec_getI (ci := 4) (j := 4) ⟨rfl, rfl, rfl⟩ g1 rfl ?_
              refine ec_iconst cst_2 rfl ?_
              rcases gi h with ⟨c68, h⟩ | ⟨c68, h⟩
              · refine en_icmp_lt_t c68 rfl ?_
                refine ec_iconst cst_1 rfl ?_
                refine en_istore (l' := [(5, .int (1 : Int32)), (0, .ref a0), (1, .ref a1), (2, .ref a2), (3, .int a3), (4, .ref a4)]) rfl rfl ?_
                refine en_iload rfl rfl ?_
                refine en_istore (l' := [(6, .int (1 : Int32)), (5, .int (1 : Int32)), (0, .ref a0), (1, .ref a1), (2, .ref a2), (3, .int a3), (4, .ref a4)]) rfl rfl ?_
                obtain ⟨⟨q69, C71⟩, e70, h⟩ := gb h
                refine en_sub [2, 3, 4, 0] rfl rfl (lt_61_85 n _ _ _ _ _ _ e70 _ _ ?_)
                dsimp only at h ⊢
                cases h
                exact en_vret rfl
              · refine en_icmp_lt_f c68 rfl ?_
                refine ec_iconst cst_2 rfl ?_
                refine en_goto rfl ?_
                refine en_istore (l' := [(5, .int (2 : Int32)), (0, .ref a0), (1, .ref a1), (2, .ref a2), (3, .int a3), (4, .ref a4)]) rfl rfl ?_
                refine en_iload rfl rfl ?_
                refine en_istore (l' := [(6, .int (2 : Int32)), (5, .int (2 : Int32)), (0, .ref a0), (1, .ref a1), (2, .ref a2), (3, .int a3), (4, .ref a4)]) rfl rfl ?_
                obtain ⟨⟨q72, C74⟩, e73, h⟩ := gb h
                refine en_sub [2, 3, 4, 0] rfl rfl (lt_61_85 n _ _ _ _ _ _ e73 _ _ ?_)
                dsimp only at h ⊢
                cases h
                exact en_vret rfl
            · refine en_icmp_lt_f c67 rfl ?_
              refine ec_iconst cst_3 rfl ?_
              refine en_goto rfl ?_
              refine en_istore (l' := [(5, .int (3 : Int32)), (0, .ref a0), (1, .ref a1), (2, .ref a2), (3, .int a3), (4, .ref a4)]) rfl rfl ?_
              refine en_iload rfl rfl ?_
              refine en_istore (l' := [(6, .int (3 : Int32)), (5, .int (3 : Int32)), (0, .ref a0), (1, .ref a1), (2, .ref a2), (3, .int a3), (4, .ref a4)]) rfl rfl ?_
              obtain ⟨⟨q75, C77⟩, e76, h⟩ := gb h
              refine en_sub [2, 3, 4, 0] rfl rfl (lt_61_85 n _ _ _ _ _ _ e76 _ _ ?_)
              dsimp only at h ⊢
              cases h
              exact en_vret rfl
          · refine en_if_ne_f c66 rfl ?_
            cases h
            exact en_vret rfl
    · refine en_if_eq_f c10 rfl ?_
      refine ec_iconst cst_1 rfl ?_
      refine en_goto rfl ?_
      refine ec_putI (ci := 4) (j := 4) ⟨rfl, rfl, rfl⟩ g1 rfl ?_
      refine en_aload rfl rfl ?_
      refine en_dup rfl rfl ?_
      refine ec_getI (ci := 4) (j := 4) ⟨rfl, rfl, rfl⟩ g1 rfl ?_
      refine en_aload rfl rfl ?_
      refine en_aload rfl rfl ?_
      obtain ⟨⟨q78, C79⟩, e80, h⟩ := gb h
      dsimp only at h
      refine ec_callS1 (k' := 67) (n := 2) (as := [.ref a1, .ref a2]) rfl rfl rfl (Nat.le_of_ble_eq_true rfl) (Nat.le_of_ble_eq_true rfl) (Nat.le_of_ble_eq_true rfl) rfl (t_67 e80) ?_
      rcases gi h with ⟨c81, h⟩ | ⟨c81, h⟩
      · refine en_if_eq_t c81 rfl ?_
        refine ec_iconst cst_0 rfl ?_
        refine en_iadd rfl ?_
        refine ec_putI (ci := 4) (j := 4) ⟨rfl, rfl, rfl⟩ g1 rfl ?_
        refine en_aload rfl rfl ?_
        refine en_dup rfl rfl ?_
        refine ec_getI (ci := 4) (j := 4) ⟨rfl, rfl, rfl⟩ g1 rfl ?_
        refine en_aload rfl rfl ?_
        refine en_aload rfl rfl ?_
        obtain ⟨⟨q82, C83⟩, e84, h⟩ := gb h
        dsimp only at h
        refine ec_callS1 (k' := 68) (n := 2) (as := [.ref a1, .ref a2]) rfl rfl rfl (Nat.le_of_ble_eq_true rfl) (Nat.le_of_ble_eq_true rfl) (Nat.le_of_ble_eq_true rfl) rfl (t_68 e84) ?_
        rcases gi h with ⟨c85, h⟩ | ⟨c85, h⟩
        · refine en_if_eq_t c85 rfl ?_
          refine ec_iconst cst_0 rfl ?_
          refine en_iadd rfl ?_
          refine ec_putI (ci := 4) (j := 4) ⟨rfl, rfl, rfl⟩ g1 rfl ?_
          refine en_aload rfl rfl ?_
          refine ec_iconst cst_0 rfl ?_
          refine ec_putI (ci := 4) (j := 5) ⟨rfl, rfl, rfl⟩ g1 rfl ?_
          refine en_aload rfl rfl ?_
          refine ec_iconst cst_0 rfl ?_
          refine ec_putI (ci := 4) (j := 6) ⟨rfl, rfl, rfl⟩ g1 rfl ?_
          refine en_aload rfl rfl ?_
          refine ec_getI (ci := 4) (j := 4) ⟨rfl, rfl, rfl⟩ g1 rfl ?_
          rcases gi h with ⟨c86, h⟩ | ⟨c86, h⟩
          · refine en_if_ne_t c86 rfl ?_
            refine en_aload rfl rfl ?_
            refine ec_getI (ci := 4) (j := 4) ⟨rfl, rfl, rfl⟩ g1 rfl ?_
            refine ec_iconst cst_4 rfl ?_
            rcases gi h with ⟨c87, h⟩ | ⟨c87, h⟩
            · refine en_icmp_lt_t c87 rfl ?_
              refine en_aload rfl rfl ?_
              refine ec_getI (ci := 4) (j := 4) ⟨rfl, rfl, rfl⟩ g1 rfl ?_
              refine ec_iconst cst_2 rfl ?_
              rcases gi h with ⟨c88, h⟩ | ⟨c88, h⟩
              · refine en_icmp_lt_t c88 rfl ?_
                refine ec_iconst cst_1 rfl ?_
                refine en_istore (l' := [(5, .int (1 : Int32)), (0, .ref a0), (1, .ref a1), (2, .ref a2), (3, .int a3), (4, .ref a4)]) rfl rfl ?_
                refine en_iload rfl rfl ?_
                refine en_istore (l' := [(6, .int (1 : Int32)), (5, .int (1 : Int32)), (0, .ref a0), (1, .ref a1), (2, .ref a2), (3, .int a3), (4, .ref a4)]) rfl rfl ?_
                obtain ⟨⟨q89, C91⟩, e90, h⟩ := gb h
                refine en_sub [2, 3, 4, 0] rfl rfl (lt_61_85 n _ _ _ _ _ _ e90 _ _ ?_)
                dsimp only at h ⊢
                cases h
                exact en_vret rfl
              · refine en_icmp_lt_f c88 rfl ?_
                refine ec_iconst cst_2 rfl ?_
                refine en_goto rfl ?_
                refine en_istore (l' := [(5, .int (2 : Int32)), (0, .ref a0), (1, .ref a1), (2, .ref a2), (3, .int a3), (4, .ref a4)]) rfl rfl ?_
                refine en_iload rfl rfl ?_
                refine en_istore (l' := [(6, .int (2 : Int32)), (5, .int (2 : Int32)), (0, .ref a0), (1, .ref a1), (2, .ref a2), (3, .int a3), (4, .ref a4)]) rfl rfl ?_
                obtain ⟨⟨q92, C94⟩, e93, h⟩ := gb h
                refine en_sub [2, 3, 4, 0] rfl rfl (lt_61_85 n _ _ _ _ _ _ e93 _ _ ?_)
                dsimp only at h ⊢
                cases h
                exact en_vret rfl
            · refine en_icmp_lt_f c87 rfl ?_
              refine ec_iconst cst_3 rfl ?_
              refine en_goto rfl ?_
              refine en_istore (l' := [(5, .int (3 : Int32)), (0, .ref a0), (1, .ref a1), (2, .ref a2), (3, .int a3), (4, .ref a4)]) rfl rfl ?_
              refine en_iload rfl rfl ?_
              refine en_istore (l' := [(6, .int (3 : Int32)), (5, .int (3 : Int32)), (0, .ref a0), (1, .ref a1), (2, .ref a2), (3, .int a3), (4, .ref a4)]) rfl rfl ?_
              obtain ⟨⟨q95, C97⟩, e96, h⟩ := gb h
              refine en_sub [2, 3, 4, 0] rfl rfl (lt_61_85 n _ _ _ _ _ _ e96 _ _ ?_)
              dsimp only at h ⊢
              cases h
              exact en_vret rfl
          · refine en_if_ne_f c86 rfl ?_
            cases h
            exact en_vret rfl
        · refine en_if_eq_f c85 rfl ?_
          refine ec_iconst cst_4 rfl ?_
          refine en_goto rfl ?_
          refine en_iadd rfl ?_
          refine ec_putI (ci := 4) (j := 4) ⟨rfl, rfl, rfl⟩ g1 rfl ?_
          refine en_aload rfl rfl ?_
          refine ec_iconst cst_0 rfl ?_
          refine ec_putI (ci := 4) (j := 5) ⟨rfl, rfl, rfl⟩ g1 rfl ?_
          refine en_aload rfl rfl ?_
          refine ec_iconst cst_0 rfl ?_
          refine ec_putI (ci := 4) (j := 6) ⟨rfl, rfl, rfl⟩ g1 rfl ?_
          refine en_aload rfl rfl ?_
          refine ec_getI (ci := 4) (j := 4) ⟨rfl, rfl, rfl⟩ g1 rfl ?_
          rcases gi h with ⟨c98, h⟩ | ⟨c98, h⟩
          · refine en_if_ne_t c98 rfl ?_
            refine en_aload rfl rfl ?_
            refine ec_getI (ci := 4) (j := 4) ⟨rfl, rfl, rfl⟩ g1 rfl ?_
            refine ec_iconst cst_4 rfl ?_
            rcases gi h with ⟨c99, h⟩ | ⟨c99, h⟩
            · refine en_icmp_lt_t c99 rfl ?_
              refine en_aload rfl rfl ?_
              refine ec_getI (ci := 4) (j := 4) ⟨rfl, rfl, rfl⟩ g1 rfl ?_
              refine ec_iconst cst_2 rfl ?_
              rcases gi h with ⟨c100, h⟩ | ⟨c100, h⟩
              · refine en_icmp_lt_t c100 rfl ?_
                refine ec_iconst cst_1 rfl ?_
                refine en_istore (l' := [(5, .int (1 : Int32)), (0, .ref a0), (1, .ref a1), (2, .ref a2), (3, .int a3), (4, .ref a4)]) rfl rfl ?_
                refine en_iload rfl rfl ?_
                refine en_istore (l' := [(6, .int (1 : Int32)), (5, .int (1 : Int32)), (0, .ref a0), (1, .ref a1), (2, .ref a2), (3, .int a3), (4, .ref a4)]) rfl rfl ?_
                obtain ⟨⟨q101, C103⟩, e102, h⟩ := gb h
                refine en_sub [2, 3, 4, 0] rfl rfl (lt_61_85 n _ _ _ _ _ _ e102 _ _ ?_)
                dsimp only at h ⊢
                cases h
                exact en_vret rfl
              · refine en_icmp_lt_f c100 rfl ?_
                refine ec_iconst cst_2 rfl ?_
                refine en_goto rfl ?_
                refine en_istore (l' := [(5, .int (2 : Int32)), (0, .ref a0), (1, .ref a1), (2, .ref a2), (3, .int a3), (4, .ref a4)]) rfl rfl ?_
                refine en_iload rfl rfl ?_
                refine en_istore (l' := [(6, .int (2 : Int32)), (5, .int (2 : Int32)), (0, .ref a0), (1, .ref a1), (2, .ref a2), (3, .int a3), (4, .ref a4)]) rfl rfl ?_
                obtain ⟨⟨q104, C106⟩, e105, h⟩ := gb h
                refine en_sub [2, 3, 4, 0] rfl rfl (lt_61_85 n _ _ _ _ _ _ e105 _ _ ?_)
                dsimp only at h ⊢
                cases h
                exact en_vret rfl
            · refine en_icmp_lt_f c99 rfl ?_
              refine ec_iconst cst_3 rfl ?_
              refine en_goto rfl ?_
              refine en_istore (l' := [(5, .int (3 : Int32)), (0, .ref a0), (1, .ref a1), (2, .ref a2), (3, .int a3), (4, .ref a4)]) rfl rfl ?_
              refine en_iload rfl rfl ?_
              refine en_istore (l' := [(6, .int (3 : Int32)), (5, .int (3 : Int32)), (0, .ref a0), (1, .ref a1), (2, .ref a2), (3, .int a3), (4, .ref a4)]) rfl rfl ?_
              obtain ⟨⟨q107, C109⟩, e108, h⟩ := gb h
              refine en_sub [2, 3, 4, 0] rfl rfl (lt_61_85 n _ _ _ _ _ _ e108 _ _ ?_)
              dsimp only at h ⊢
              cases h
              exact en_vret rfl
          · refine en_if_ne_f c98 rfl ?_
            cases h
            exact en_vret rfl
      · refine en_if_eq_f c81 rfl ?_
        refine ec_iconst cst_2 rfl ?_
        refine en_goto rfl ?_
        refine en_iadd rfl ?_
        refine ec_putI (ci := 4) (j := 4) ⟨rfl, rfl, rfl⟩ g1 rfl ?_
        refine en_aload rfl rfl ?_
        refine en_dup rfl rfl ?_
        refine ec_getI (ci := 4) (j := 4) ⟨rfl, rfl, rfl⟩ g1 rfl ?_
        refine en_aload rfl rfl ?_
        refine en_aload rfl rfl ?_
        obtain ⟨⟨q110, C111⟩, e112, h⟩ := gb h
        dsimp only at h
        refine ec_callS1 (k' := 68) (n := 2) (as := [.ref a1, .ref a2]) rfl rfl rfl (Nat.le_of_ble_eq_true rfl) (Nat.le_of_ble_eq_true rfl) (Nat.le_of_ble_eq_true rfl) rfl (t_68 e112) ?_
        rcases gi h with ⟨c113, h⟩ | ⟨c113, h⟩
        · refine en_if_eq_t c113 rfl ?_
          refine ec_iconst cst_0 rfl ?_
          refine en_iadd rfl ?_
          refine ec_putI (ci := 4) (j := 4) ⟨rfl, rfl, rfl⟩ g1 rfl ?_
          refine en_aload rfl rfl ?_
          refine ec_iconst cst_0 rfl ?_
          refine ec_putI (ci := 4) (j := 5) ⟨rfl, rfl, rfl⟩ g1 rfl ?_
          refine en_aload rfl rfl ?_
          refine ec_iconst cst_0 rfl ?_
          refine ec_putI (ci := 4) (j := 6) ⟨rfl, rfl, rfl⟩ g1 rfl ?_
          refine en_aload rfl rfl ?_
          refine ec_getI (ci := 4) (j := 4) ⟨rfl, rfl, rfl⟩ g1 rfl ?_
          rcases gi h with ⟨c114, h⟩ | ⟨c114, h⟩
          · refine en_if_ne_t c114 rfl ?_
            refine en_aload rfl rfl ?_
            refine ec_getI (ci := 4) (j := 4) ⟨rfl, rfl, rfl⟩ g1 rfl ?_
            refine ec_iconst cst_4 rfl ?_
            rcases gi h with ⟨c115, h⟩ | ⟨c115, h⟩
            · refine en_icmp_lt_t c115 rfl ?_
              refine en_aload rfl rfl ?_
              refine ec_getI (ci := 4) (j := 4) ⟨rfl, rfl, rfl⟩ g1 rfl ?_
              refine ec_iconst cst_2 rfl ?_
              rcases gi h with ⟨c116, h⟩ | ⟨c116, h⟩
              · refine en_icmp_lt_t c116 rfl ?_
                refine ec_iconst cst_1 rfl ?_
                refine en_istore (l' := [(5, .int (1 : Int32)), (0, .ref a0), (1, .ref a1), (2, .ref a2), (3, .int a3), (4, .ref a4)]) rfl rfl ?_
                refine en_iload rfl rfl ?_
                refine en_istore (l' := [(6, .int (1 : Int32)), (5, .int (1 : Int32)), (0, .ref a0), (1, .ref a1), (2, .ref a2), (3, .int a3), (4, .ref a4)]) rfl rfl ?_
                obtain ⟨⟨q117, C119⟩, e118, h⟩ := gb h
                refine en_sub [2, 3, 4, 0] rfl rfl (lt_61_85 n _ _ _ _ _ _ e118 _ _ ?_)
                dsimp only at h ⊢
                cases h
                exact en_vret rfl
              · refine en_icmp_lt_f c116 rfl ?_
                refine ec_iconst cst_2 rfl ?_
                refine en_goto rfl ?_
                refine en_istore (l' := [(5, .int (2 : Int32)), (0, .ref a0), (1, .ref a1), (2, .ref a2), (3, .int a3), (4, .ref a4)]) rfl rfl ?_
                refine en_iload rfl rfl ?_
                refine en_istore (l' := [(6, .int (2 : Int32)), (5, .int (2 : Int32)), (0, .ref a0), (1, .ref a1), (2, .ref a2), (3, .int a3), (4, .ref a4)]) rfl rfl ?_
                obtain ⟨⟨q120, C122⟩, e121, h⟩ := gb h
                refine en_sub [2, 3, 4, 0] rfl rfl (lt_61_85 n _ _ _ _ _ _ e121 _ _ ?_)
                dsimp only at h ⊢
                cases h
                exact en_vret rfl
            · refine en_icmp_lt_f c115 rfl ?_
              refine ec_iconst cst_3 rfl ?_
              refine en_goto rfl ?_
              refine en_istore (l' := [(5, .int (3 : Int32)), (0, .ref a0), (1, .ref a1), (2, .ref a2), (3, .int a3), (4, .ref a4)]) rfl rfl ?_
              refine en_iload rfl rfl ?_
              refine en_istore (l' := [(6, .int (3 : Int32)), (5, .int (3 : Int32)), (0, .ref a0), (1, .ref a1), (2, .ref a2), (3, .int a3), (4, .ref a4)]) rfl rfl ?_
              obtain ⟨⟨q123, C125⟩, e124, h⟩ := gb h
              refine en_sub [2, 3, 4, 0] rfl rfl (lt_61_85 n _ _ _ _ _ _ e124 _ _ ?_)
              dsimp only at h ⊢
              cases h
              exact en_vret rfl
          · refine en_if_ne_f c114 rfl ?_
            cases h
            exact en_vret rfl
        · refine en_if_eq_f c113 rfl ?_
          refine ec_iconst cst_4 rfl ?_
          refine en_goto rfl ?_
          refine en_iadd rfl ?_
          refine ec_putI (ci := 4) (j := 4) ⟨rfl, rfl, rfl⟩ g1 rfl ?_
          refine en_aload rfl rfl ?_
          refine ec_iconst cst_0 rfl ?_
          refine ec_putI (ci := 4) (j := 5) ⟨rfl, rfl, rfl⟩ g1 rfl ?_
          refine en_aload rfl rfl ?_
          refine ec_iconst cst_0 rfl ?_
          refine ec_putI (ci := 4) (j := 6) ⟨rfl, rfl, rfl⟩ g1 rfl ?_
          refine en_aload rfl rfl ?_
          refine ec_getI (ci := 4) (j := 4) ⟨rfl, rfl, rfl⟩ g1 rfl ?_
          rcases gi h with ⟨c126, h⟩ | ⟨c126, h⟩
          · refine en_if_ne_t c126 rfl ?_
            refine en_aload rfl rfl ?_
            refine ec_getI (ci := 4) (j := 4) ⟨rfl, rfl, rfl⟩ g1 rfl ?_
            refine ec_iconst cst_4 rfl ?_
            rcases gi h with ⟨c127, h⟩ | ⟨c127, h⟩
            · refine en_icmp_lt_t c127 rfl ?_
              refine en_aload rfl rfl ?_
              refine ec_getI (ci := 4) (j := 4) ⟨rfl, rfl, rfl⟩ g1 rfl ?_
              refine ec_iconst cst_2 rfl ?_
              rcases gi h with ⟨c128, h⟩ | ⟨c128, h⟩
              · refine en_icmp_lt_t c128 rfl ?_
                refine ec_iconst cst_1 rfl ?_
                refine en_istore (l' := [(5, .int (1 : Int32)), (0, .ref a0), (1, .ref a1), (2, .ref a2), (3, .int a3), (4, .ref a4)]) rfl rfl ?_
                refine en_iload rfl rfl ?_
                refine en_istore (l' := [(6, .int (1 : Int32)), (5, .int (1 : Int32)), (0, .ref a0), (1, .ref a1), (2, .ref a2), (3, .int a3), (4, .ref a4)]) rfl rfl ?_
                obtain ⟨⟨q129, C131⟩, e130, h⟩ := gb h
                refine en_sub [2, 3, 4, 0] rfl rfl (lt_61_85 n _ _ _ _ _ _ e130 _ _ ?_)
                dsimp only at h ⊢
                cases h
                exact en_vret rfl
              · refine en_icmp_lt_f c128 rfl ?_
                refine ec_iconst cst_2 rfl ?_
                refine en_goto rfl ?_
                refine en_istore (l' := [(5, .int (2 : Int32)), (0, .ref a0), (1, .ref a1), (2, .ref a2), (3, .int a3), (4, .ref a4)]) rfl rfl ?_
                refine en_iload rfl rfl ?_
                refine en_istore (l' := [(6, .int (2 : Int32)), (5, .int (2 : Int32)), (0, .ref a0), (1, .ref a1), (2, .ref a2), (3, .int a3), (4, .ref a4)]) rfl rfl ?_
                obtain ⟨⟨q132, C134⟩, e133, h⟩ := gb h
                refine en_sub [2, 3, 4, 0] rfl rfl (lt_61_85 n _ _ _ _ _ _ e133 _ _ ?_)
                dsimp only at h ⊢
                cases h
                exact en_vret rfl
            · refine en_icmp_lt_f c127 rfl ?_
              refine ec_iconst cst_3 rfl ?_
              refine en_goto rfl ?_
              refine en_istore (l' := [(5, .int (3 : Int32)), (0, .ref a0), (1, .ref a1), (2, .ref a2), (3, .int a3), (4, .ref a4)]) rfl rfl ?_
              refine en_iload rfl rfl ?_
              refine en_istore (l' := [(6, .int (3 : Int32)), (5, .int (3 : Int32)), (0, .ref a0), (1, .ref a1), (2, .ref a2), (3, .int a3), (4, .ref a4)]) rfl rfl ?_
              obtain ⟨⟨q135, C137⟩, e136, h⟩ := gb h
              refine en_sub [2, 3, 4, 0] rfl rfl (lt_61_85 n _ _ _ _ _ _ e136 _ _ ?_)
              dsimp only at h ⊢
              cases h
              exact en_vret rfl
          · refine en_if_ne_f c126 rfl ?_
            cases h
            exact en_vret rfl
  · refine en_if_eq_f c3 rfl ?_
    refine en_aload rfl rfl ?_
    refine en_aload rfl rfl ?_
    refine en_aload rfl rfl ?_
    refine en_iload rfl rfl ?_
    refine en_aload rfl rfl ?_
    obtain ⟨⟨q138, C139⟩, e140, h⟩ := gb h
    dsimp only at h
    refine ec_callV0 (k' := 63) (n := 5) (rc := 4) (a := a0) (as := [.ref a1, .ref a2, .int a3, .ref a4]) ⟨rfl, rfl⟩ rfl rfl (Nat.le_of_ble_eq_true rfl) (Nat.le_of_ble_eq_true rfl) (Nat.le_of_ble_eq_true rfl) g1 rfl (t_63 e140) ?_
    refine en_goto rfl ?_
    refine en_aload rfl rfl ?_
    refine en_aload rfl rfl ?_
    refine en_aload rfl rfl ?_
    refine en_iload rfl rfl ?_
    obtain ⟨⟨q141, C142⟩, e143, h⟩ := gb h
    dsimp only at h
    refine ec_callS1 (k' := 65) (n := 3) (as := [.ref a1, .ref a2, .int a3]) rfl rfl rfl (Nat.le_of_ble_eq_true rfl) (Nat.le_of_ble_eq_true rfl) (Nat.le_of_ble_eq_true rfl) rfl (t_65 e143) ?_
    rcases gi h with ⟨c144, h⟩ | ⟨c144, h⟩
    · refine en_if_eq_t c144 rfl ?_
      refine ec_iconst cst_0 rfl ?_
      refine ec_putI (ci := 4) (j := 4) ⟨rfl, rfl, rfl⟩ g1 rfl ?_
      refine en_aload rfl rfl ?_
      refine en_dup rfl rfl ?_
      refine ec_getI (ci := 4) (j := 4) ⟨rfl, rfl, rfl⟩ g1 rfl ?_
      refine en_aload rfl rfl ?_
      refine en_aload rfl rfl ?_
      obtain ⟨⟨q145, C146⟩, e147, h⟩ := gb h
      dsimp only at h
      refine ec_callS1 (k' := 67) (n := 2) (as := [.ref a1, .ref a2]) rfl rfl rfl (Nat.le_of_ble_eq_true rfl) (Nat.le_of_ble_eq_true rfl) (Nat.le_of_ble_eq_true rfl) rfl (t_67 e147) ?_
      rcases gi h with ⟨c148, h⟩ | ⟨c148, h⟩
      · refine en_if_eq_t c148 rfl ?_
        refine ec_iconst cst_0 rfl ?_
        refine en_iadd rfl ?_
        refine ec_putI (ci := 4) (j := 4) ⟨rfl, rfl, rfl⟩ g1 rfl ?_
        refine en_aload rfl rfl ?_
        refine en_dup rfl rfl ?_
        refine ec_getI (ci := 4) (j := 4) ⟨rfl, rfl, rfl⟩ g1 rfl ?_
        refine en_aload rfl rfl ?_
        refine en_aload rfl rfl ?_
        obtain ⟨⟨q149, C150⟩, e151, h⟩ := gb h
        dsimp only at h
        refine ec_callS1 (k' := 68) (n := 2) (as := [.ref a1, .ref a2]) rfl rfl rfl (Nat.le_of_ble_eq_true rfl) (Nat.le_of_ble_eq_true rfl) (Nat.le_of_ble_eq_true rfl) rfl (t_68 e151) ?_
        rcases gi h with ⟨c152, h⟩ | ⟨c152, h⟩
        · refine en_if_eq_t c152 rfl ?_
          refine ec_iconst cst_0 rfl ?_
          refine en_iadd rfl ?_
          refine ec_putI (ci := 4) (j := 4) ⟨rfl, rfl, rfl⟩ g1 rfl ?_
          refine en_aload rfl rfl ?_
          refine ec_iconst cst_0 rfl ?_
          refine ec_putI (ci := 4) (j := 5) ⟨rfl, rfl, rfl⟩ g1 rfl ?_
          refine en_aload rfl rfl ?_
          refine ec_iconst cst_0 rfl ?_
          refine ec_putI (ci := 4) (j := 6) ⟨rfl, rfl, rfl⟩ g1 rfl ?_
          refine en_aload rfl rfl ?_
          refine ec_getI (ci := 4) (j := 4) ⟨rfl, rfl, rfl⟩ g1 rfl ?_
          rcases gi h with ⟨c153, h⟩ | ⟨c153, h⟩
          · refine en_if_ne_t c153 rfl ?_
            refine en_aload rfl rfl ?_
            refine ec_getI (ci := 4) (j := 4) ⟨rfl, rfl, rfl⟩ g1 rfl ?_
            refine ec_iconst cst_4 rfl ?_
            rcases gi h with ⟨c154, h⟩ | ⟨c154, h⟩
            · refine en_icmp_lt_t c154 rfl ?_
              refine en_aload rfl rfl ?_
              refine ec_getI (ci := 4) (j := 4) ⟨rfl, rfl, rfl⟩ g1 rfl ?_
              refine ec_iconst cst_2 rfl ?_
              rcases gi h with ⟨c155, h⟩ | ⟨c155, h⟩
              · refine en_icmp_lt_t c155 rfl ?_
                refine ec_iconst cst_1 rfl ?_
                refine en_istore (l' := [(5, .int (1 : Int32)), (0, .ref a0), (1, .ref a1), (2, .ref a2), (3, .int a3), (4, .ref a4)]) rfl rfl ?_
                refine en_iload rfl rfl ?_
                refine en_istore (l' := [(6, .int (1 : Int32)), (5, .int (1 : Int32)), (0, .ref a0), (1, .ref a1), (2, .ref a2), (3, .int a3), (4, .ref a4)]) rfl rfl ?_
                obtain ⟨⟨q156, C158⟩, e157, h⟩ := gb h
                refine en_sub [2, 3, 4, 0] rfl rfl (lt_61_85 n _ _ _ _ _ _ e157 _ _ ?_)
                dsimp only at h ⊢
                cases h
                exact en_vret rfl
              · refine en_icmp_lt_f c155 rfl ?_
                refine ec_iconst cst_2 rfl ?_
                refine en_goto rfl ?_
                refine en_istore (l' := [(5, .int (2 : Int32)), (0, .ref a0), (1, .ref a1), (2, .ref a2), (3, .int a3), (4, .ref a4)]) rfl rfl ?_
                refine en_iload rfl rfl ?_
                refine en_istore (l' := [(6, .int (2 : Int32)), (5, .int (2 : Int32)), (0, .ref a0), (1, .ref a1), (2, .ref a2), (3, .int a3), (4, .ref a4)]) rfl rfl ?_
                obtain ⟨⟨q159, C161⟩, e160, h⟩ := gb h
                refine en_sub [2, 3, 4, 0] rfl rfl (lt_61_85 n _ _ _ _ _ _ e160 _ _ ?_)
                dsimp only at h ⊢
                cases h
                exact en_vret rfl
            · refine en_icmp_lt_f c154 rfl ?_
              refine ec_iconst cst_3 rfl ?_
              refine en_goto rfl ?_
              refine en_istore (l' := [(5, .int (3 : Int32)), (0, .ref a0), (1, .ref a1), (2, .ref a2), (3, .int a3), (4, .ref a4)]) rfl rfl ?_
              refine en_iload rfl rfl ?_
              refine en_istore (l' := [(6, .int (3 : Int32)), (5, .int (3 : Int32)), (0, .ref a0), (1, .ref a1), (2, .ref a2), (3, .int a3), (4, .ref a4)]) rfl rfl ?_
              obtain ⟨⟨q162, C164⟩, e163, h⟩ := gb h
              refine en_sub [2, 3, 4, 0] rfl rfl (lt_61_85 n _ _ _ _ _ _ e163 _ _ ?_)
              dsimp only at h ⊢
              cases h
              exact en_vret rfl
          · refine en_if_ne_f c153 rfl ?_
            cases h
            exact en_vret rfl
        · refine en_if_eq_f c152 rfl ?_
          refine ec_iconst cst_4 rfl ?_
          refine en_goto rfl ?_
          refine en_iadd rfl ?_
          refine ec_putI (ci := 4) (j := 4) ⟨rfl, rfl, rfl⟩ g1 rfl ?_
          refine en_aload rfl rfl ?_
          refine ec_iconst cst_0 rfl ?_
          refine ec_putI (ci := 4) (j := 5) ⟨rfl, rfl, rfl⟩ g1 rfl ?_
          refine en_aload rfl rfl ?_
          refine ec_iconst cst_0 rfl ?_
          refine ec_putI (ci := 4) (j := 6) ⟨rfl, rfl, rfl⟩ g1 rfl ?_
          refine en_aload rfl rfl ?_
          refine ec_getI (ci := 4) (j := 4) ⟨rfl, rfl, rfl⟩ g1 rfl ?_
          rcases gi h with ⟨c165, h⟩ | ⟨c165, h⟩
          · refine en_if_ne_t c165 rfl ?_
            refine en_aload rfl rfl ?_
            refine ec_getI (ci := 4) (j := 4) ⟨rfl, rfl, rfl⟩ g1 rfl ?_
            refine ec_iconst cst_4 rfl ?_
            rcases gi h with ⟨c166, h⟩ | ⟨c166, h⟩
            · refine en_icmp_lt_t c166 rfl ?_
              refine en_aload rfl rfl ?_
              refine ec_getI (ci := 4) (j := 4) ⟨rfl, rfl, rfl⟩ g1 rfl ?_
              refine ec_iconst cst_2 rfl ?_
              rcases gi h with ⟨c167, h⟩ | ⟨c167, h⟩
              · refine en_icmp_lt_t c167 rfl ?_
                refine ec_iconst cst_1 rfl ?_
                refine en_istore (l' := [(5, .int (1 : Int32)), (0, .ref a0), (1, .ref a1), (2, .ref a2), (3, .int a3), (4, .ref a4)]) rfl rfl ?_
                refine en_iload rfl rfl ?_
                refine en_istore (l' := [(6, .int (1 : Int32)), (5, .int (1 : Int32)), (0, .ref a0), (1, .ref a1), (2, .ref a2), (3, .int a3), (4, .ref a4)]) rfl rfl ?_
                obtain ⟨⟨q168, C170⟩, e169, h⟩ := gb h
                refine en_sub [2, 3, 4, 0] rfl rfl (lt_61_85 n _ _ _ _ _ _ e169 _ _ ?_)
                dsimp only at h ⊢
                cases h
                exact en_vret rfl
              · refine en_icmp_lt_f c167 rfl ?_
                refine ec_iconst cst_2 rfl ?_
                refine en_goto rfl ?_
                refine en_istore (l' := [(5, .int (2 : Int32)), (0, .ref a0), (1, .ref a1), (2, .ref a2), (3, .int a3), (4, .ref a4)]) rfl rfl ?_
                refine en_iload rfl rfl ?_
                refine en_istore (l' := [(6, .int (2 : Int32)), (5, .int (2 : Int32)), (0, .ref a0), (1, .ref a1), (2, .ref a2), (3, .int a3), (4, .ref a4)]) rfl rfl ?_
                obtain ⟨⟨q171, C173⟩, e172, h⟩ := gb h
                refine en_sub [2, 3, 4, 0] rfl rfl (lt_61_85 n _ _ _ _ _ _ e172 _ _ ?_)
                dsimp only at h ⊢
                cases h
                exact en_vret rfl
            · refine en_icmp_lt_f c166 rfl ?_
              refine ec_iconst cst_3 rfl ?_
              refine en_goto rfl ?_
              refine en_istore (l' := [(5, .int (3 : Int32)), (0, .ref a0), (1, .ref a1), (2, .ref a2), (3, .int a3), (4, .ref a4)]) rfl rfl ?_
              refine en_iload rfl rfl ?_
              refine en_istore (l' := [(6, .int (3 : Int32)), (5, .int (3 : Int32)), (0, .ref a0), (1, .ref a1), (2, .ref a2), (3, .int a3), (4, .ref a4)]) rfl rfl ?_
              obtain ⟨⟨q174, C176⟩, e175, h⟩ := gb h
              refine en_sub [2, 3, 4, 0] rfl rfl (lt_61_85 n _ _ _ _ _ _ e175 _ _ ?_)
              dsimp only at h ⊢
              cases h
              exact en_vret rfl
          · refine en_if_ne_f c165 rfl ?_
            cases h
            exact en_vret rfl
      · refine en_if_eq_f c148 rfl ?_
        refine ec_iconst cst_2 rfl ?_
        refine en_goto rfl ?_
        refine en_iadd rfl ?_
        refine ec_putI (ci := 4) (j := 4) ⟨rfl, rfl, rfl⟩ g1 rfl ?_
        refine en_aload rfl rfl ?_
        refine en_dup rfl rfl ?_
        refine ec_getI (ci := 4) (j := 4) ⟨rfl, rfl, rfl⟩ g1 rfl ?_
        refine en_aload rfl rfl ?_
        refine en_aload rfl rfl ?_
        obtain ⟨⟨q177, C178⟩, e179, h⟩ := gb h
        dsimp only at h
        refine ec_callS1 (k' := 68) (n := 2) (as := [.ref a1, .ref a2]) rfl rfl rfl (Nat.le_of_ble_eq_true rfl) (Nat.le_of_ble_eq_true rfl) (Nat.le_of_ble_eq_true rfl) rfl (t_68 e179) ?_
        rcases gi h with ⟨c180, h⟩ | ⟨c180, h⟩
        · refine en_if_eq_t c180 rfl ?_
          refine ec_iconst cst_0 rfl ?_
          refine en_iadd rfl ?_
          refine ec_putI (ci := 4) (j := 4) ⟨rfl, rfl, rfl⟩ g1 rfl ?_
          refine en_aload rfl rfl ?_
          refine ec_iconst cst_0 rfl ?_
          refine ec_putI (ci := 4) (j := 5) ⟨rfl, rfl, rfl⟩ g1 rfl ?_
          refine en_aload rfl rfl ?_
          refine ec_iconst cst_0 rfl ?_
          refine ec_putI (ci := 4) (j := 6) ⟨rfl, rfl, rfl⟩ g1 rfl ?_
          refine en_aload rfl rfl ?_
          refine ec_getI (ci := 4) (j := 4) ⟨rfl, rfl, rfl⟩ g1 rfl ?_
          rcases gi h with ⟨c181, h⟩ | ⟨c181, h⟩
          · refine en_if_ne_t c181 rfl ?_
            refine en_aload rfl rfl ?_
            refine ec_getI (ci := 4) (j := 4) ⟨rfl, rfl, rfl⟩ g1 rfl ?_
            refine ec_iconst cst_4 rfl ?_
            rcases gi h with ⟨c182, h⟩ | ⟨c182, h⟩
            · refine en_icmp_lt_t c182 rfl ?_
              refine en_aload rfl rfl ?_
              refine ec_getI (ci := 4) (j := 4) ⟨rfl, rfl, rfl⟩ g1 rfl ?_
              refine ec_iconst cst_2 rfl ?_
              rcases gi h with ⟨c183, h⟩ | ⟨c183, h⟩
              · refine en_icmp_lt_t c183 rfl ?_
                refine ec_iconst cst_1 rfl ?_
                refine en_istore (l' := [(5, .int (1 : Int32)), (0, .ref a0), (1, .ref a1), (2, .ref a2), (3, .int a3), (4, .ref a4)]) rfl rfl ?_
                refine en_iload rfl rfl ?_
                refine en_istore (l' := [(6, .int (1 : Int32)), (5, .int (1 : Int32)), (0, .ref a0), (1, .ref a1), (2, .ref a2), (3, .int a3), (4, .ref a4)]) rfl rfl ?_
                obtain ⟨⟨q184, C186⟩, e185, h⟩ := gb h
                refine en_sub [2, 3, 4, 0] rfl rfl (lt_61_85 n _ _ _ _ _ _ e185 _ _ ?_)
                dsimp only at h ⊢
                cases h
                exact en_vret rfl
              · refine en_icmp_lt_f c183 rfl ?_
                refine ec_iconst cst_2 rfl ?_
                refine en_goto rfl ?_
                refine en_istore (l' := [(5, .int (2 : Int32)), (0, .ref a0), (1, .ref a1), (2, .ref a2), (3, .int a3), (4, .ref a4)]) rfl rfl ?_
                refine en_iload rfl rfl ?_
                refine en_istore (l' := [(6, .int (2 : Int32)), (5, .int (2 : Int32)), (0, .ref a0), (1, .ref a1), (2, .ref a2), (3, .int a3), (4, .ref a4)]) rfl rfl ?_
                obtain ⟨⟨q187, C189⟩, e188, h⟩ := gb h
                refine en_sub [2, 3, 4, 0] rfl rfl (lt_61_85 n _ _ _ _ _ _ e188 _ _ ?_)
                dsimp only at h ⊢
                cases h
                exact en_vret rfl
            · refine en_icmp_lt_f c182 rfl ?_
              refine ec_iconst cst_3 rfl ?_
              refine en_goto rfl ?_
              refine en_istore (l' := [(5, .int (3 : Int32)), (0, .ref a0), (1, .ref a1), (2, .ref a2), (3, .int a3), (4, .ref a4)]) rfl rfl ?_
              refine en_iload rfl rfl ?_
              refine en_istore (l' := [(6, .int (3 : Int32)), (5, .int (3 : Int32)), (0, .ref a0), (1, .ref a1), (2, .ref a2), (3, .int a3), (4, .ref a4)]) rfl rfl ?_
              obtain ⟨⟨q190, C192⟩, e191, h⟩ := gb h
              refine en_sub [2, 3, 4, 0] rfl rfl (lt_61_85 n _ _ _ _ _ _ e191 _ _ ?_)
              dsimp only at h ⊢
              cases h
              exact en_vret rfl
          · refine en_if_ne_f c181 rfl ?_
            cases h
            exact en_vret rfl
        · refine en_if_eq_f c180 rfl ?_
          refine ec_iconst cst_4 rfl ?_
          refine en_goto rfl ?_
          refine en_iadd rfl ?_
          refine ec_putI (ci := 4) (j := 4) ⟨rfl, rfl, rfl⟩ g1 rfl ?_
          refine en_aload rfl rfl ?_
          refine ec_iconst cst_0 rfl ?_
          refine ec_putI (ci := 4) (j := 5) ⟨rfl, rfl, rfl⟩ g1 rfl ?_
          refine en_aload rfl rfl ?_
          refine ec_iconst cst_0 rfl ?_
          refine ec_putI (ci := 4) (j := 6) ⟨rfl, rfl, rfl⟩ g1 rfl ?_
          refine en_aload rfl rfl ?_
          refine ec_getI (ci := 4) (j := 4) ⟨rfl, rfl, rfl⟩ g1 rfl ?_
          rcases gi h with ⟨c193, h⟩ | ⟨c193, h⟩
          · refine en_if_ne_t c193 rfl ?_
            refine en_aload rfl rfl ?_
            refine ec_getI (ci := 4) (j := 4) ⟨rfl, rfl, rfl⟩ g1 rfl ?_
            refine ec_iconst cst_4 rfl ?_
            rcases gi h with ⟨c194, h⟩ | ⟨c194, h⟩
            · refine en_icmp_lt_t c194 rfl ?_
              refine en_aload rfl rfl ?_
              refine ec_getI (ci := 4) (j := 4) ⟨rfl, rfl, rfl⟩ g1 rfl ?_
              refine ec_iconst cst_2 rfl ?_
              rcases gi h with ⟨c195, h⟩ | ⟨c195, h⟩
              · refine en_icmp_lt_t c195 rfl ?_
                refine ec_iconst cst_1 rfl ?_
                refine en_istore (l' := [(5, .int (1 : Int32)), (0, .ref a0), (1, .ref a1), (2, .ref a2), (3, .int a3), (4, .ref a4)]) rfl rfl ?_
                refine en_iload rfl rfl ?_
                refine en_istore (l' := [(6, .int (1 : Int32)), (5, .int (1 : Int32)), (0, .ref a0), (1, .ref a1), (2, .ref a2), (3, .int a3), (4, .ref a4)]) rfl rfl ?_
                obtain ⟨⟨q196, C198⟩, e197, h⟩ := gb h
                refine en_sub [2, 3, 4, 0] rfl rfl (lt_61_85 n _ _ _ _ _ _ e197 _ _ ?_)
                dsimp only at h ⊢
                cases h
                exact en_vret rfl
              · refine en_icmp_lt_f c195 rfl ?_
                refine ec_iconst cst_2 rfl ?_
                refine en_goto rfl ?_
                refine en_istore (l' := [(5, .int (2 : Int32)), (0, .ref a0), (1, .ref a1), (2, .ref a2), (3, .int a3), (4, .ref a4)]) rfl rfl ?_
                refine en_iload rfl rfl ?_
                refine en_istore (l' := [(6, .int (2 : Int32)), (5, .int (2 : Int32)), (0, .ref a0), (1, .ref a1), (2, .ref a2), (3, .int a3), (4, .ref a4)]) rfl rfl ?_
                obtain ⟨⟨q199, C201⟩, e200, h⟩ := gb h
                refine en_sub [2, 3, 4, 0] rfl rfl (lt_61_85 n _ _ _ _ _ _ e200 _ _ ?_)
                dsimp only at h ⊢
                cases h
                exact en_vret rfl
            · refine en_icmp_lt_f c194 rfl ?_
              refine ec_iconst cst_3 rfl ?_
              refine en_goto rfl ?_
              refine en_istore (l' := [(5, .int (3 : Int32)), (0, .ref a0), (1, .ref a1), (2, .ref a2), (3, .int a3), (4, .ref a4)]) rfl rfl ?_
              refine en_iload rfl rfl ?_
              refine en_istore (l' := [(6, .int (3 : Int32)), (5, .int (3 : Int32)), (0, .ref a0), (1, .ref a1), (2, .ref a2), (3, .int a3), (4, .ref a4)]) rfl rfl ?_
              obtain ⟨⟨q202, C204⟩, e203, h⟩ := gb h
              refine en_sub [2, 3, 4, 0] rfl rfl (lt_61_85 n _ _ _ _ _ _ e203 _ _ ?_)
              dsimp only at h ⊢
              cases h
              exact en_vret rfl
          · refine en_if_ne_f c193 rfl ?_
            cases h
            exact en_vret rfl
    · refine en_if_eq_f c144 rfl ?_
      refine ec_iconst cst_1 rfl ?_
      refine en_goto rfl ?_
      refine ec_putI (ci := 4) (j := 4) ⟨rfl, rfl, rfl⟩ g1 rfl ?_
      refine en_aload rfl rfl ?_
      refine en_dup rfl rfl ?_
      refine ec_getI (ci := 4) (j := 4) ⟨rfl, rfl, rfl⟩ g1 rfl ?_
      refine en_aload rfl rfl ?_
      refine en_aload rfl rfl ?_
      obtain ⟨⟨q205, C206⟩, e207, h⟩ := gb h
      dsimp only at h
      refine ec_callS1 (k' := 67) (n := 2) (as := [.ref a1, .ref a2]) rfl rfl rfl (Nat.le_of_ble_eq_true rfl) (Nat.le_of_ble_eq_true rfl) (Nat.le_of_ble_eq_true rfl) rfl (t_67 e207) ?_
      rcases gi h with ⟨c208, h⟩ | ⟨c208, h⟩
      · refine en_if_eq_t c208 rfl ?_
        refine ec_iconst cst_0 rfl ?_
        refine en_iadd rfl ?_
        refine ec_putI (ci := 4) (j := 4) ⟨rfl, rfl, rfl⟩ g1 rfl ?_
        refine en_aload rfl rfl ?_
        refine en_dup rfl rfl ?_
        refine ec_getI (ci := 4) (j := 4) ⟨rfl, rfl, rfl⟩ g1 rfl ?_
        refine en_aload rfl rfl ?_
        refine en_aload rfl rfl ?_
        obtain ⟨⟨q209, C210⟩, e211, h⟩ := gb h
        dsimp only at h
        refine ec_callS1 (k' := 68) (n := 2) (as := [.ref a1, .ref a2]) rfl rfl rfl (Nat.le_of_ble_eq_true rfl) (Nat.le_of_ble_eq_true rfl) (Nat.le_of_ble_eq_true rfl) rfl (t_68 e211) ?_
        rcases gi h with ⟨c212, h⟩ | ⟨c212, h⟩
        · refine en_if_eq_t c212 rfl ?_
          refine ec_iconst cst_0 rfl ?_
          refine en_iadd rfl ?_
          refine ec_putI (ci := 4) (j := 4) ⟨rfl, rfl, rfl⟩ g1 rfl ?_
          refine en_aload rfl rfl ?_
          refine ec_iconst cst_0 rfl ?_
          refine ec_putI (ci := 4) (j := 5) ⟨rfl, rfl, rfl⟩ g1 rfl ?_
          refine en_aload rfl rfl ?_
          refine ec_iconst cst_0 rfl ?_
          refine ec_putI (ci := 4) (j := 6) ⟨rfl, rfl, rfl⟩ g1 rfl ?_
          refine en_aload rfl rfl ?_
          refine ec_getI (ci := 4) (j := 4) ⟨rfl, rfl, rfl⟩ g1 rfl ?_
          rcases gi h with ⟨c213, h⟩ | ⟨c213, h⟩
          · refine en_if_ne_t c213 rfl ?_
            refine en_aload rfl rfl ?_
            refine ec_getI (ci := 4) (j := 4) ⟨rfl, rfl, rfl⟩ g1 rfl ?_
            refine ec_iconst cst_4 rfl ?_
            rcases gi h with ⟨c214, h⟩ | ⟨c214, h⟩
            · refine en_icmp_lt_t c214 rfl ?_
              refine en_aload rfl rfl ?_
              refine ec_getI (ci := 4) (j := 4) ⟨rfl, rfl, rfl⟩ g1 rfl ?_
              refine ec_iconst cst_2 rfl ?_
              rcases gi h with ⟨c215, h⟩ | ⟨c215, h⟩
              · refine en_icmp_lt_t c215 rfl ?_
                refine ec_iconst cst_1 rfl ?_
                refine en_istore (l' := [(5, .int (1 : Int32)), (0, .ref a0), (1, .ref a1), (2, .ref a2), (3, .int a3), (4, .ref a4)]) rfl rfl ?_
                refine en_iload rfl rfl ?_
                refine en_istore (l' := [(6, .int (1 : Int32)), (5, .int (1 : Int32)), (0, .ref a0), (1, .ref a1), (2, .ref a2), (3, .int a3), (4, .ref a4)]) rfl rfl ?_
                obtain ⟨⟨q216, C218⟩, e217, h⟩ := gb h
                refine en_sub [2, 3, 4, 0] rfl rfl (lt_61_85 n _ _ _ _ _ _ e217 _ _ ?_)
                dsimp only at h ⊢
                cases h
                exact en_vret rfl
              · refine en_icmp_lt_f c215 rfl ?_
                refine ec_iconst cst_2 rfl ?_
                refine en_goto rfl ?_
                refine en_istore (l' := [(5, .int (2 : Int32)), (0, .ref a0), (1, .ref a1), (2, .ref a2), (3, .int a3), (4, .ref a4)]) rfl rfl ?_
                refine en_iload rfl rfl ?_
                refine en_istore (l' := [(6, .int (2 : Int32)), (5, .int (2 : Int32)), (0, .ref a0), (1, .ref a1), (2, .ref a2), (3, .int a3), (4, .ref a4)]) rfl rfl ?_
                obtain ⟨⟨q219, C221⟩, e220, h⟩ := gb h
                refine en_sub [2, 3, 4, 0] rfl rfl (lt_61_85 n _ _ _ _ _ _ e220 _ _ ?_)
                dsimp only at h ⊢
                cases h
                exact en_vret rfl
            · refine en_icmp_lt_f c214 rfl ?_
              refine ec_iconst cst_3 rfl ?_
              refine en_goto rfl ?_
              refine en_istore (l' := [(5, .int (3 : Int32)), (0, .ref a0), (1, .ref a1), (2, .ref a2), (3, .int a3), (4, .ref a4)]) rfl rfl ?_
              refine en_iload rfl rfl ?_
              refine en_istore (l' := [(6, .int (3 : Int32)), (5, .int (3 : Int32)), (0, .ref a0), (1, .ref a1), (2, .ref a2), (3, .int a3), (4, .ref a4)]) rfl rfl ?_
              obtain ⟨⟨q222, C224⟩, e223, h⟩ := gb h
              refine en_sub [2, 3, 4, 0] rfl rfl (lt_61_85 n _ _ _ _ _ _ e223 _ _ ?_)
              dsimp only at h ⊢
              cases h
              exact en_vret rfl
          · refine en_if_ne_f c213 rfl ?_
            cases h
            exact en_vret rfl
        · refine en_if_eq_f c212 rfl ?_
          refine ec_iconst cst_4 rfl ?_
          refine en_goto rfl ?_
          refine en_iadd rfl ?_
          refine ec_putI (ci := 4) (j := 4) ⟨rfl, rfl, rfl⟩ g1 rfl ?_
          refine en_aload rfl rfl ?_
          refine ec_iconst cst_0 rfl ?_
          refine ec_putI (ci := 4) (j := 5) ⟨rfl, rfl, rfl⟩ g1 rfl ?_
          refine en_aload rfl rfl ?_
          refine ec_iconst cst_0 rfl ?_
          refine ec_putI (ci := 4) (j := 6) ⟨rfl, rfl, rfl⟩ g1 rfl ?_
          refine en_aload rfl rfl ?_
          refine ec_getI (ci := 4) (j := 4) ⟨rfl, rfl, rfl⟩ g1 rfl ?_
          rcases gi h with ⟨c225, h⟩ | ⟨c225, h⟩
          · refine en_if_ne_t c225 rfl ?_
            refine en_aload rfl rfl ?_
            refine ec_getI (ci := 4) (j := 4) ⟨rfl, rfl, rfl⟩ g1 rfl ?_
            refine ec_iconst cst_4 rfl ?_
            rcases gi h with ⟨c226, h⟩ | ⟨c226, h⟩
            · refine en_icmp_lt_t c226 rfl ?_
              refine en_aload rfl rfl ?_
              refine ec_getI (ci := 4) (j := 4) ⟨rfl, rfl, rfl⟩ g1 rfl ?_
              refine ec_iconst cst_2 rfl ?_
              rcases gi h with ⟨c227, h⟩ | ⟨c227, h⟩
              · refine en_icmp_lt_t c227 rfl ?_
                refine ec_iconst cst_1 rfl ?_
                refine en_istore (l' := [(5, .int (1 : Int32)), (0, .ref a0), (1, .ref a1), (2, .ref a2), (3, .int a3), (4, .ref a4)]) rfl rfl ?_
                refine en_iload rfl rfl ?_
                refine en_istore (l' := [(6, .int (1 : Int32)), (5, .int (1 : Int32)), (0, .ref a0), (1, .ref a1), (2, .ref a2), (3, .int a3), (4, .ref a4)]) rfl rfl ?_
                obtain ⟨⟨q228, C230⟩, e229, h⟩ := gb h
                refine en_sub [2, 3, 4, 0] rfl rfl (lt_61_85 n _ _ _ _ _ _ e229 _ _ ?_)
                dsimp only at h ⊢
                cases h
                exact en_vret rfl
              · refine en_icmp_lt_f c227 rfl ?_
                refine ec_iconst cst_2 rfl ?_
                refine en_goto rfl ?_
                refine en_istore (l' := [(5, .int (2 : Int32)), (0, .ref a0), (1, .ref a1), (2, .ref a2), (3, .int a3), (4, .ref a4)]) rfl rfl ?_
                refine en_iload rfl rfl ?_
                refine en_istore (l' := [(6, .int (2 : Int32)), (5, .int (2 : Int32)), (0, .ref a0), (1, .ref a1), (2, .ref a2), (3, .int a3), (4, .ref a4)]) rfl rfl ?_
                obtain ⟨⟨q231, C233⟩, e232, h⟩ := gb h
                refine en_sub [2, 3, 4, 0] rfl rfl (lt_61_85 n _ _ _ _ _ _ e232 _ _ ?_)
                dsimp only at h ⊢
                cases h
                exact en_vret rfl
            · refine en_icmp_lt_f c226 rfl ?_
              refine ec_iconst cst_3 rfl ?_
              refine en_goto rfl ?_
              refine en_istore (l' := [(5, .int (3 : Int32)), (0, .ref a0), (1, .ref a1), (2, .ref a2), (3, .int a3), (4, .ref a4)]) rfl rfl ?_
              refine en_iload rfl rfl ?_
              refine en_istore (l' := [(6, .int (3 : Int32)), (5, .int (3 : Int32)), (0, .ref a0), (1, .ref a1), (2, .ref a2), (3, .int a3), (4, .ref a4)]) rfl rfl ?_
              obtain ⟨⟨q234, C236⟩, e235, h⟩ := gb h
              refine en_sub [2, 3, 4, 0] rfl rfl (lt_61_85 n _ _ _ _ _ _ e235 _ _ ?_)
              dsimp only at h ⊢
              cases h
              exact en_vret rfl
          · refine en_if_ne_f c225 rfl ?_
            cases h
            exact en_vret rfl
      · refine en_if_eq_f c208 rfl ?_
        refine ec_iconst cst_2 rfl ?_
        refine en_goto rfl ?_
        refine en_iadd rfl ?_
        refine ec_putI (ci := 4) (j := 4) ⟨rfl, rfl, rfl⟩ g1 rfl ?_
        refine en_aload rfl rfl ?_
        refine en_dup rfl rfl ?_
        refine ec_getI (ci := 4) (j := 4) ⟨rfl, rfl, rfl⟩ g1 rfl ?_
        refine en_aload rfl rfl ?_
        refine en_aload rfl rfl ?_
        obtain ⟨⟨q237, C238⟩, e239, h⟩ := gb h
        dsimp only at h
        refine ec_callS1 (k' := 68) (n := 2) (as := [.ref a1, .ref a2]) rfl rfl rfl (Nat.le_of_ble_eq_true rfl) (Nat.le_of_ble_eq_true rfl) (Nat.le_of_ble_eq_true rfl) rfl (t_68 e239) ?_
        rcases gi h with ⟨c240, h⟩ | ⟨c240, h⟩
        · refine en_if_eq_t c240 rfl ?_
          refine ec_iconst cst_0 rfl ?_
          refine en_iadd rfl ?_
          refine ec_putI (ci := 4) (j := 4) ⟨rfl, rfl, rfl⟩ g1 rfl ?_
          refine en_aload rfl rfl ?_
          refine ec_iconst cst_0 rfl ?_
          refine ec_putI (ci := 4) (j := 5) ⟨rfl, rfl, rfl⟩ g1 rfl ?_
          refine en_aload rfl rfl ?_
          refine ec_iconst cst_0 rfl ?_
          refine ec_putI (ci := 4) (j := 6) ⟨rfl, rfl, rfl⟩ g1 rfl ?_
          refine en_aload rfl rfl ?_
          refine ec_getI (ci := 4) (j := 4) ⟨rfl, rfl, rfl⟩ g1 rfl ?_
          rcases gi h with ⟨c241, h⟩ | ⟨c241, h⟩
          · refine en_if_ne_t c241 rfl ?_
            refine en_aload rfl rfl ?_
            refine ec_getI (ci := 4) (j := 4) ⟨rfl, rfl, rfl⟩ g1 rfl ?_
            refine ec_iconst cst_4 rfl ?_
            rcases gi h with ⟨c242, h⟩ | ⟨c242, h⟩
            · refine en_icmp_lt_t c242 rfl ?_
              refine en_aload rfl rfl ?_
              refine ec_getI (ci := 4) (j := 4) ⟨rfl, rfl, rfl⟩ g1 rfl ?_
              refine ec_iconst cst_2 rfl ?_
              rcases gi h with ⟨c243, h⟩ | ⟨c243, h⟩
              · refine en_icmp_lt_t c243 rfl ?_
                refine ec_iconst cst_1 rfl ?_
                refine en_istore (l' := [(5, .int (1 : Int32)), (0, .ref a0), (1, .ref a1), (2, .ref a2), (3, .int a3), (4, .ref a4)]) rfl rfl ?_
                refine en_iload rfl rfl ?_
                refine en_istore (l' := [(6, .int (1 : Int32)), (5, .int (1 : Int32)), (0, .ref a0), (1, .ref a1), (2, .ref a2), (3, .int a3), (4, .ref a4)]) rfl rfl ?_
                obtain ⟨⟨q244, C246⟩, e245, h⟩ := gb h
                refine en_sub [2, 3, 4, 0] rfl rfl (lt_61_85 n _ _ _ _ _ _ e245 _ _ ?_)
                dsimp only at h ⊢
                cases h
                exact en_vret rfl
              · refine en_icmp_lt_f c243 rfl ?_
                refine ec_iconst cst_2 rfl ?_
                refine en_goto rfl ?_
                refine en_istore (l' := [(5, .int (2 : Int32)), (0, .ref a0), (1, .ref a1), (2, .ref a2), (3, .int a3), (4, .ref a4)]) rfl rfl ?_
                refine en_iload rfl rfl ?_
                refine en_istore (l' := [(6, .int (2 : Int32)), (5, .int (2 : Int32)), (0, .ref a0), (1, .ref a1), (2, .ref a2), (3, .int a3), (4, .ref a4)]) rfl rfl ?_
                obtain ⟨⟨q247, C249⟩, e248, h⟩ := gb h
                refine en_sub [2, 3, 4, 0] rfl rfl (lt_61_85 n _ _ _ _ _ _ e248 _ _ ?_)
                dsimp only at h ⊢
                cases h
                exact en_vret rfl
            · refine en_icmp_lt_f c242 rfl ?_
              refine ec_iconst cst_3 rfl ?_
              refine en_goto rfl ?_
              refine en_istore (l' := [(5, .int (3 : Int32)), (0, .ref a0), (1, .ref a1), (2, .ref a2), (3, .int a3), (4, .ref a4)]) rfl rfl ?_
              refine en_iload rfl rfl ?_
              refine en_istore (l' := [(6, .int (3 : Int32)), (5, .int (3 : Int32)), (0, .ref a0), (1, .ref a1), (2, .ref a2), (3, .int a3), (4, .ref a4)]) rfl rfl ?_
              obtain ⟨⟨q250, C252⟩, e251, h⟩ := gb h
              refine en_sub [2, 3, 4, 0] rfl rfl (lt_61_85 n _ _ _ _ _ _ e251 _ _ ?_)
              dsimp only at h ⊢
              cases h
              exact en_vret rfl
          · refine en_if_ne_f c241 rfl ?_
            cases h
            exact en_vret rfl
        · refine en_if_eq_f c240 rfl ?_
          refine ec_iconst cst_4 rfl ?_
          refine en_goto rfl ?_
          refine en_iadd rfl ?_
          refine ec_putI (ci := 4) (j := 4) ⟨rfl, rfl, rfl⟩ g1 rfl ?_
          refine en_aload rfl rfl ?_
          refine ec_iconst cst_0 rfl ?_
          refine ec_putI (ci := 4) (j := 5) ⟨rfl, rfl, rfl⟩ g1 rfl ?_
          refine en_aload rfl rfl ?_
          refine ec_iconst cst_0 rfl ?_
          refine ec_putI (ci := 4) (j := 6) ⟨rfl, rfl, rfl⟩ g1 rfl ?_
          refine en_aload rfl rfl ?_
          refine ec_getI (ci := 4) (j := 4) ⟨rfl, rfl, rfl⟩ g1 rfl ?_
          rcases gi h with ⟨c253, h⟩ | ⟨c253, h⟩
          · refine en_if_ne_t c253 rfl ?_
            refine en_aload rfl rfl ?_
            refine ec_getI (ci := 4) (j := 4) ⟨rfl, rfl, rfl⟩ g1 rfl ?_
            refine ec_iconst cst_4 rfl ?_
            rcases gi h with ⟨c254, h⟩ | ⟨c254, h⟩
            · refine en_icmp_lt_t c254 rfl ?_
              refine en_aload rfl rfl ?_
              refine ec_getI (ci := 4) (j := 4) ⟨rfl, rfl, rfl⟩ g1 rfl ?_
              refine ec_iconst cst_2 rfl ?_
              rcases gi h with ⟨c255, h⟩ | ⟨c255, h⟩
              · refine en_icmp_lt_t c255 rfl ?_
                refine ec_iconst cst_1 rfl ?_
                refine en_istore (l' := [(5, .int (1 : Int32)), (0, .ref a0), (1, .ref a1), (2, .ref a2), (3, .int a3), (4, .ref a4)]) rfl rfl ?_
                refine en_iload rfl rfl ?_
                refine en_istore (l' := [(6, .int (1 : Int32)), (5, .int (1 : Int32)), (0, .ref a0), (1, .ref a1), (2, .ref a2), (3, .int a3), (4, .ref a4)]) rfl rfl ?_
                obtain ⟨⟨q256, C258⟩, e257, h⟩ := gb h
                refine en_sub [2, 3, 4, 0] rfl rfl (lt_61_85 n _ _ _ _ _ _ e257 _ _ ?_)
                dsimp only at h ⊢
                cases h
                exact en_vret rfl
              · refine en_icmp_lt_f c255 rfl ?_
                refine ec_iconst cst_2 rfl ?_
                refine en_goto rfl ?_
                refine en_istore (l' := [(5, .int (2 : Int32)), (0, .ref a0), (1, .ref a1), (2, .ref a2), (3, .int a3), (4, .ref a4)]) rfl rfl ?_
                refine en_iload rfl rfl ?_
                refine en_istore (l' := [(6, .int (2 : Int32)), (5, .int (2 : Int32)), (0, .ref a0), (1, .ref a1), (2, .ref a2), (3, .int a3), (4, .ref a4)]) rfl rfl ?_
                obtain ⟨⟨q259, C261⟩, e260, h⟩ := gb h
                refine en_sub [2, 3, 4, 0] rfl rfl (lt_61_85 n _ _ _ _ _ _ e260 _ _ ?_)
                dsimp only at h ⊢
                cases h
                exact en_vret rfl
            · refine en_icmp_lt_f c254 rfl ?_
              refine ec_iconst cst_3 rfl ?_
              refine en_goto rfl ?_
              refine en_istore (l' := [(5, .int (3 : Int32)), (0, .ref a0), (1, .ref a1), (2, .ref a2), (3, .int a3), (4, .ref a4)]) rfl rfl ?_
              refine en_iload rfl rfl ?_
              refine en_istore (l' := [(6, .int (3 : Int32)), (5, .int (3 : Int32)), (0, .ref a0), (1, .ref a1), (2, .ref a2), (3, .int a3), (4, .ref a4)]) rfl rfl ?_
              obtain ⟨⟨q262, C264⟩, e263, h⟩ := gb h
              refine en_sub [2, 3, 4, 0] rfl rfl (lt_61_85 n _ _ _ _ _ _ e263 _ _ ?_)
              dsimp only at h ⊢
              cases h
              exact en_vret rfl
          · refine en_if_ne_f c253 rfl ?_
            cases h
            exact en_vret rfl
/-- java/lang/Integer.bitCount(I)I -/
def f_288 (n : Nat) (a0 : Int32) (C : AmC) : Option (Int32 × AmC) := some (((((((((a0 - (((Int32.toUInt32 a0 >>> (Int32.toUInt32 (1 : Int32) &&& Int32.toUInt32 31)).toInt32) &&& (1431655765 : Int32))) &&& (858993459 : Int32)) + (((Int32.toUInt32 (a0 - (((Int32.toUInt32 a0 >>> (Int32.toUInt32 (1 : Int32) &&& Int32.toUInt32 31)).toInt32) &&& (1431655765 : Int32))) >>> (Int32.toUInt32 (2 : Int32) &&& Int32.toUInt32 31)).toInt32) &&& (858993459 : Int32))) + ((Int32.toUInt32 (((a0 - (((Int32.toUInt32 a0 >>> (Int32.toUInt32 (1 : Int32) &&& Int32.toUInt32 31)).toInt32) &&& (1431655765 : Int32))) &&& (858993459 : Int32)) + (((Int32.toUInt32 (a0 - (((Int32.toUInt32 a0 >>> (Int32.toUInt32 (1 : Int32) &&& Int32.toUInt32 31)).toInt32) &&& (1431655765 : Int32))) >>> (Int32.toUInt32 (2 : Int32) &&& Int32.toUInt32 31)).toInt32) &&& (858993459 : Int32))) >>> (Int32.toUInt32 (4 : Int32) &&& Int32.toUInt32 31)).toInt32)) &&& (252645135 : Int32)) + ((Int32.toUInt32 (((((a0 - (((Int32.toUInt32 a0 >>> (Int32.toUInt32 (1 : Int32) &&& Int32.toUInt32 31)).toInt32) &&& (1431655765 : Int32))) &&& (858993459 : Int32)) + (((Int32.toUInt32 (a0 - (((Int32.toUInt32 a0 >>> (Int32.toUInt32 (1 : Int32) &&& Int32.toUInt32 31)).toInt32) &&& (1431655765 : Int32))) >>> (Int32.toUInt32 (2 : Int32) &&& Int32.toUInt32 31)).toInt32) &&& (858993459 : Int32))) + ((Int32.toUInt32 (((a0 - (((Int32.toUInt32 a0 >>> (Int32.toUInt32 (1 : Int32) &&& Int32.toUInt32 31)).toInt32) &&& (1431655765 : Int32))) &&& (858993459 : Int32)) + (((Int32.toUInt32 (a0 - (((Int32.toUInt32 a0 >>> (Int32.toUInt32 (1 : Int32) &&& Int32.toUInt32 31)).toInt32) &&& (1431655765 : Int32))) >>> (Int32.toUInt32 (2 : Int32) &&& Int32.toUInt32 31)).toInt32) &&& (858993459 : Int32))) >>> (Int32.toUInt32 (4 : Int32) &&& Int32.toUInt32 31)).toInt32)) &&& (252645135 : Int32)) >>> (Int32.toUInt32 (8 : Int32) &&& Int32.toUInt32 31)).toInt32)) + ((Int32.toUInt32 ((((((a0 - (((Int32.toUInt32 a0 >>> (Int32.toUInt32 (1 : Int32) &&& Int32.toUInt32 31)).toInt32) &&& (1431655765 : Int32))) &&& (858993459 : Int32)) + (((Int32.toUInt32 (a0 - (((Int32.toUInt32 a0 >>> (Int32.toUInt32 (1 : Int32) &&& Int32.toUInt32 31)).toInt32) &&& (1431655765 : Int32))) >>> (Int32.toUInt32 (2 : Int32) &&& Int32.toUInt32 31)).toInt32) &&& (858993459 : Int32))) + ((Int32.toUInt32 (((a0 - (((Int32.toUInt32 a0 >>> (Int32.toUInt32 (1 : Int32) &&& Int32.toUInt32 31)).toInt32) &&& (1431655765 : Int32))) &&& (858993459 : Int32)) + (((Int32.toUInt32 (a0 - (((Int32.toUInt32 a0 >>> (Int32.toUInt32 (1 : Int32) &&& Int32.toUInt32 31)).toInt32) &&& (1431655765 : Int32))) >>> (Int32.toUInt32 (2 : Int32) &&& Int32.toUInt32 31)).toInt32) &&& (858993459 : Int32))) >>> (Int32.toUInt32 (4 : Int32) &&& Int32.toUInt32 31)).toInt32)) &&& (252645135 : Int32)) + ((Int32.toUInt32 (((((a0 - (((Int32.toUInt32 a0 >>> (Int32.toUInt32 (1 : Int32) &&& Int32.toUInt32 31)).toInt32) &&& (1431655765 : Int32))) &&& (858993459 : Int32)) + (((Int32.toUInt32 (a0 - (((Int32.toUInt32 a0 >>> (Int32.toUInt32 (1 : Int32) &&& Int32.toUInt32 31)).toInt32) &&& (1431655765 : Int32))) >>> (Int32.toUInt32 (2 : Int32) &&& Int32.toUInt32 31)).toInt32) &&& (858993459 : Int32))) + ((Int32.toUInt32 (((a0 - (((Int32.toUInt32 a0 >>> (Int32.toUInt32 (1 : Int32) &&& Int32.toUInt32 31)).toInt32) &&& (1431655765 : Int32))) &&& (858993459 : Int32)) + (((Int32.toUInt32 (a0 - (((Int32.toUInt32 a0 >>> (Int32.toUInt32 (1 : Int32) &&& Int32.toUInt32 31)).toInt32) &&& (1431655765 : Int32))) >>> (Int32.toUInt32 (2 : Int32) &&& Int32.toUInt32 31)).toInt32) &&& (858993459 : Int32))) >>> (Int32.toUInt32 (4 : Int32) &&& Int32.toUInt32 31)).toInt32)) &&& (252645135 : Int32)) >>> (Int32.toUInt32 (8 : Int32) &&& Int32.toUInt32 31)).toInt32)) >>> (Int32.toUInt32 (16 : Int32) &&& Int32.toUInt32 31)).toInt32)) &&& (63 : Int32)), C)
set_option maxRecDepth 20000 in
set_option maxHeartbeats 4000000 in
theorem t_288 {n : Nat} {a0 : Int32} {C : AmC} {r : Int32} {C' : AmC} (h : f_288 n a0 C = some (r, C')) : En false 288 0 [(0, .int a0)] [] (mkM C) (.inl (some (.int r))) (mkM C') := by
  unfold f_288 at h
  refine en_iload rfl rfl ?_
  refine en_iload rfl rfl ?_
  refine ec_iconst cst_1 rfl ?_
  refine en_iushr rfl ?_
  refine ec_iconst cst_1431655765 rfl ?_
  refine en_iand rfl ?_
  refine en_isub rfl ?_
  refine en_istore (l' := [(0, .int (a0 - (((Int32.toUInt32 a0 >>> (Int32.toUInt32 (1 : Int32) &&& Int32.toUInt32 31)).toInt32) &&& (1431655765 : Int32))))]) rfl rfl ?_
  refine en_iload rfl rfl ?_
  refine ec_iconst cst_858993459 rfl ?_
  refine en_iand rfl ?_
  refine en_iload rfl rfl ?_
  refine ec_iconst cst_2 rfl ?_
  refine en_iushr rfl ?_
  refine ec_iconst cst_858993459 rfl ?_
  refine en_iand rfl ?_
  refine en_iadd rfl ?_
  refine en_istore (l' := [(0, .int (((a0 - (((Int32.toUInt32 a0 >>> (Int32.toUInt32 (1 : Int32) &&& Int32.toUInt32 31)).toInt32) &&& (1431655765 : Int32))) &&& (858993459 : Int32)) + (((Int32.toUInt32 (a0 - (((Int32.toUInt32 a0 >>> (Int32.toUInt32 (1 : Int32) &&& Int32.toUInt32 31)).toInt32) &&& (1431655765 : Int32))) >>> (Int32.toUInt32 (2 : Int32) &&& Int32.toUInt32 31)).toInt32) &&& (858993459 : Int32))))]) rfl rfl ?_
  refine en_iload rfl rfl ?_
  refine en_iload rfl rfl ?_
  refine ec_iconst cst_4 rfl ?_
  refine en_iushr rfl ?_
  refine en_iadd rfl ?_
  refine ec_iconst cst_252645135 rfl ?_
  refine en_iand rfl ?_
  refine en_istore (l' := [(0, .int (((((a0 - (((Int32.toUInt32 a0 >>> (Int32.toUInt32 (1 : Int32) &&& Int32.toUInt32 31)).toInt32) &&& (1431655765 : Int32))) &&& (858993459 : Int32)) + (((Int32.toUInt32 (a0 - (((Int32.toUInt32 a0 >>> (Int32.toUInt32 (1 : Int32) &&& Int32.toUInt32 31)).toInt32) &&& (1431655765 : Int32))) >>> (Int32.toUInt32 (2 : Int32) &&& Int32.toUInt32 31)).toInt32) &&& (858993459 : Int32))) + ((Int32.toUInt32 (((a0 - (((Int32.toUInt32 a0 >>> (Int32.toUInt32 (1 : Int32) &&& Int32.toUInt32 31)).toInt32) &&& (1431655765 : Int32))) &&& (858993459 : Int32)) + (((Int32.toUInt32 (a0 - (((Int32.toUInt32 a0 >>> (Int32.toUInt32 (1 : Int32) &&& Int32.toUInt32 31)).toInt32) &&& (1431655765 : Int32))) >>> (Int32.toUInt32 (2 : Int32) &&& Int32.toUInt32 31)).toInt32) &&& (858993459 : Int32))) >>> (Int32.toUInt32 (4 : Int32) &&& Int32.toUInt32 31)).toInt32)) &&& (252645135 : Int32)))]) rfl rfl ?_
  refine en_iload rfl rfl ?_
  refine en_iload rfl rfl ?_
  refine ec_iconst cst_8 rfl ?_
  refine en_iushr rfl ?_
  refine en_iadd rfl ?_
  refine en_istore (l' := [(0, .int ((((((a0 - (((Int32.toUInt32 a0 >>> (Int32.toUInt32 (1 : Int32) &&& Int32.toUInt32 31)).toInt32) &&& (1431655765 : Int32))) &&& (858993459 : Int32)) + (((Int32.toUInt32 (a0 - (((Int32.toUInt32 a0 >>> (Int32.toUInt32 (1 : Int32) &&& Int32.toUInt32 31)).toInt32) &&& (1431655765 : Int32))) >>> (Int32.toUInt32 (2 : Int32) &&& Int32.toUInt32 31)).toInt32) &&& (858993459 : Int32))) + ((Int32.toUInt32 (((a0 - (((Int32.toUInt32 a0 >>> (Int32.toUInt32 (1 : Int32) &&& Int32.toUInt32 31)).toInt32) &&& (1431655765 : Int32))) &&& (858993459 : Int32)) + (((Int32.toUInt32 (a0 - (((Int32.toUInt32 a0 >>> (Int32.toUInt32 (1 : Int32) &&& Int32.toUInt32 31)).toInt32) &&& (1431655765 : Int32))) >>> (Int32.toUInt32 (2 : Int32) &&& Int32.toUInt32 31)).toInt32) &&& (858993459 : Int32))) >>> (Int32.toUInt32 (4 : Int32) &&& Int32.toUInt32 31)).toInt32)) &&& (252645135 : Int32)) + ((Int32.toUInt32 (((((a0 - (((Int32.toUInt32 a0 >>> (Int32.toUInt32 (1 : Int32) &&& Int32.toUInt32 31)).toInt32) &&& (1431655765 : Int32))) &&& (858993459 : Int32)) + (((Int32.toUInt32 (a0 - (((Int32.toUInt32 a0 >>> (Int32.toUInt32 (1 : Int32) &&& Int32.toUInt32 31)).toInt32) &&& (1431655765 : Int32))) >>> (Int32.toUInt32 (2 : Int32) &&& Int32.toUInt32 31)).toInt32) &&& (858993459 : Int32))) + ((Int32.toUInt32 (((a0 - (((Int32.toUInt32 a0 >>> (Int32.toUInt32 (1 : Int32) &&& Int32.toUInt32 31)).toInt32) &&& (1431655765 : Int32))) &&& (858993459 : Int32)) + (((Int32.toUInt32 (a0 - (((Int32.toUInt32 a0 >>> (Int32.toUInt32 (1 : Int32) &&& Int32.toUInt32 31)).toInt32) &&& (1431655765 : Int32))) >>> (Int32.toUInt32 (2 : Int32) &&& Int32.toUInt32 31)).toInt32) &&& (858993459 : Int32))) >>> (Int32.toUInt32 (4 : Int32) &&& Int32.toUInt32 31)).toInt32)) &&& (252645135 : Int32)) >>> (Int32.toUInt32 (8 : Int32) &&& Int32.toUInt32 31)).toInt32)))]) rfl rfl ?_
  refine en_iload rfl rfl ?_
  refine en_iload rfl rfl ?_
  refine ec_iconst cst_16 rfl ?_
  refine en_iushr rfl ?_
  refine en_iadd rfl ?_
  refine en_istore (l' := [(0, .int (((((((a0 - (((Int32.toUInt32 a0 >>> (Int32.toUInt32 (1 : Int32) &&& Int32.toUInt32 31)).toInt32) &&& (1431655765 : Int32))) &&& (858993459 : Int32)) + (((Int32.toUInt32 (a0 - (((Int32.toUInt32 a0 >>> (Int32.toUInt32 (1 : Int32) &&& Int32.toUInt32 31)).toInt32) &&& (1431655765 : Int32))) >>> (Int32.toUInt32 (2 : Int32) &&& Int32.toUInt32 31)).toInt32) &&& (858993459 : Int32))) + ((Int32.toUInt32 (((a0 - (((Int32.toUInt32 a0 >>> (Int32.toUInt32 (1 : Int32) &&& Int32.toUInt32 31)).toInt32) &&& (1431655765 : Int32))) &&& (858993459 : Int32)) + (((Int32.toUInt32 (a0 - (((Int32.toUInt32 a0 >>> (Int32.toUInt32 (1 : Int32) &&& Int32.toUInt32 31)).toInt32) &&& (1431655765 : Int32))) >>> (Int32.toUInt32 (2 : Int32) &&& Int32.toUInt32 31)).toInt32) &&& (858993459 : Int32))) >>> (Int32.toUInt32 (4 : Int32) &&& Int32.toUInt32 31)).toInt32)) &&& (252645135 : Int32)) + ((Int32.toUInt32 (((((a0 - (((Int32.toUInt32 a0 >>> (Int32.toUInt32 (1 : Int32) &&& Int32.toUInt32 31)).toInt32) &&& (1431655765 : Int32))) &&& (858993459 : Int32)) + (((Int32.toUInt32 (a0 - (((Int32.toUInt32 a0 >>> (Int32.toUInt32 (1 : Int32) &&& Int32.toUInt32 31)).toInt32) &&& (1431655765 : Int32))) >>> (Int32.toUInt32 (2 : Int32) &&& Int32.toUInt32 31)).toInt32) &&& (858993459 : Int32))) + ((Int32.toUInt32 (((a0 - (((Int32.toUInt32 a0 >>> (Int32.toUInt32 (1 : Int32) &&& Int32.toUInt32 31)).toInt32) &&& (1431655765 : Int32))) &&& (858993459 : Int32)) + (((Int32.toUInt32 (a0 - (((Int32.toUInt32 a0 >>> (Int32.toUInt32 (1 : Int32) &&& Int32.toUInt32 31)).toInt32) &&& (1431655765 : Int32))) >>> (Int32.toUInt32 (2 : Int32) &&& Int32.toUInt32 31)).toInt32) &&& (858993459 : Int32))) >>> (Int32.toUInt32 (4 : Int32) &&& Int32.toUInt32 31)).toInt32)) &&& (252645135 : Int32)) >>> (Int32.toUInt32 (8 : Int32) &&& Int32.toUInt32 31)).toInt32)) + ((Int32.toUInt32 ((((((a0 - (((Int32.toUInt32 a0 >>> (Int32.toUInt32 (1 : Int32) &&& Int32.toUInt32 31)).toInt32) &&& (1431655765 : Int32))) &&& (858993459 : Int32)) + (((Int32.toUInt32 (a0 - (((Int32.toUInt32 a0 >>> (Int32.toUInt32 (1 : Int32) &&& Int32.toUInt32 31)).toInt32) &&& (1431655765 : Int32))) >>> (Int32.toUInt32 (2 : Int32) &&& Int32.toUInt32 31)).toInt32) &&& (858993459 : Int32))) + ((Int32.toUInt32 (((a0 - (((Int32.toUInt32 a0 >>> (Int32.toUInt32 (1 : Int32) &&& Int32.toUInt32 31)).toInt32) &&& (1431655765 : Int32))) &&& (858993459 : Int32)) + (((Int32.toUInt32 (a0 - (((Int32.toUInt32 a0 >>> (Int32.toUInt32 (1 : Int32) &&& Int32.toUInt32 31)).toInt32) &&& (1431655765 : Int32))) >>> (Int32.toUInt32 (2 : Int32) &&& Int32.toUInt32 31)).toInt32) &&& (858993459 : Int32))) >>> (Int32.toUInt32 (4 : Int32) &&& Int32.toUInt32 31)).toInt32)) &&& (252645135 : Int32)) + ((Int32.toUInt32 (((((a0 - (((Int32.toUInt32 a0 >>> (Int32.toUInt32 (1 : Int32) &&& Int32.toUInt32 31)).toInt32) &&& (1431655765 : Int32))) &&& (858993459 : Int32)) + (((Int32.toUInt32 (a0 - (((Int32.toUInt32 a0 >>> (Int32.toUInt32 (1 : Int32) &&& Int32.toUInt32 31)).toInt32) &&& (1431655765 : Int32))) >>> (Int32.toUInt32 (2 : Int32) &&& Int32.toUInt32 31)).toInt32) &&& (858993459 : Int32))) + ((Int32.toUInt32 (((a0 - (((Int32.toUInt32 a0 >>> (Int32.toUInt32 (1 : Int32) &&& Int32.toUInt32 31)).toInt32) &&& (1431655765 : Int32))) &&& (858993459 : Int32)) + (((Int32.toUInt32 (a0 - (((Int32.toUInt32 a0 >>> (Int32.toUInt32 (1 : Int32) &&& Int32.toUInt32 31)).toInt32) &&& (1431655765 : Int32))) >>> (Int32.toUInt32 (2 : Int32) &&& Int32.toUInt32 31)).toInt32) &&& (858993459 : Int32))) >>> (Int32.toUInt32 (4 : Int32) &&& Int32.toUInt32 31)).toInt32)) &&& (252645135 : Int32)) >>> (Int32.toUInt32 (8 : Int32) &&& Int32.toUInt32 31)).toInt32)) >>> (Int32.toUInt32 (16 : Int32) &&& Int32.toUInt32 31)).toInt32)))]) rfl rfl ?_
  refine en_iload rfl rfl ?_
  refine ec_iconst cst_63 rfl ?_
  refine en_iand rfl ?_
  cases h
  exact en_iret rfl
/-- BulkWriter$Rows.size()I -/
def f_81 (n : Nat) (a0 : Nat) (C : AmC) : Option (Int32 × AmC) := if isK a0 5 = true then (f_288 n (cI C a0 1) C).bind (fun z => match z with | (q2, C3) => some (q2, C3)) else none
set_option maxRecDepth 20000 in
set_option maxHeartbeats 4000000 in
theorem t_81 {n : Nat} {a0 : Nat} {C : AmC} {r : Int32} {C' : AmC} (h : f_81 n a0 C = some (r, C')) : En false 81 0 [(0, .ref a0)] [] (mkM C) (.inl (some (.int r))) (mkM C') := by
  unfold f_81 at h
  refine en_aload rfl rfl ?_
  obtain ⟨g1, h⟩ := gd h
  refine ec_getI (ci := 5) (j := 1) ⟨rfl, rfl, rfl⟩ g1 rfl ?_
  obtain ⟨⟨q2, C3⟩, e4, h⟩ := gb h
  dsimp only at h
  refine ec_callS1 (k' := 288) (n := 1) (as := [.int (cI C a0 1)]) rfl rfl rfl (Nat.le_of_ble_eq_true rfl) (Nat.le_of_ble_eq_true rfl) (Nat.le_of_ble_eq_true rfl) rfl (t_288 e4) ?_
  cases h
  exact en_iret rfl
def lp_84_2 : Nat → Nat → Int32 → Nat → Int32 → Int32 → Int32 → AmC → Option (((Unit) ⊕ (Unit)) × AmC)
  | 0, _, _, _, _, _, _, _ => none
  | n + 1, p0, p1, p2, p3, p4, p5, C => (if p4 ≤ p5 then some ((.inr ()), C) else if isK p0 5 = true then (f_76 n p0 p1 p5 C).bind (fun z => match z with | (q3, C4) => if isK p2 5 = true then (f_76 n p2 p3 p5 C4).bind (fun z => match z with | (q7, C8) => (if q3 = q7 then lp_84_2 n p0 p1 p2 p3 p4 (p5 + (1 : Int32)) C8 else some ((.inl ()), C8))) else none) else none)
set_option maxRecDepth 20000 in
set_option maxHeartbeats 4000000 in
theorem lt_84_2 : ∀ (n : Nat) (p0 : Nat) (p1 : Int32) (p2 : Nat) (p3 : Int32) (p4 : Int32) (p5 : Int32) (C : AmC) (r : ((Unit) ⊕ (Unit)) × AmC), lp_84_2 n p0 p1 p2 p3 p4 p5 C = some r → ∀ (o : AmO) (M' : AmM), (match r with
        | ((.inl _), C') => En false 84 14 [] [] (mkM C') o M'
        | ((.inr _), C') => En false 84 18 [] [] (mkM C') o M') → En false 84 2 [(0, .ref p0), (1, .int p1), (2, .ref p2), (3, .int p3), (4, .int p4), (5, .int p5)] [] (mkM C) o M' := by
  intro n
  induction n with
  | zero => intro p0 p1 p2 p3 p4 p5 C r h; cases h
  | succ n ih =>
    intro p0 p1 p2 p3 p4 p5 C r h o M' hk
    unfold lp_84_2 at h
    refine en_iload rfl rfl ?_
    refine en_iload rfl rfl ?_
    rcases gi h with ⟨c1, h⟩ | ⟨c1, h⟩
    · refine en_icmp_ge_t c1 rfl ?_
      cases h
      exact en_sub [] rfl rfl hk
    · refine en_icmp_ge_f c1 rfl ?_
      refine en_aload rfl rfl ?_
      refine en_iload rfl rfl ?_
      refine en_iload rfl rfl ?_
      obtain ⟨g2, h⟩ := gd h
      obtain ⟨⟨q3, C4⟩, e5, h⟩ := gb h
      dsimp only at h
      refine ec_callV1 (k' := 76) (n := 3) (rc := 5) (a := p0) (as := [.int p1, .int p5]) ⟨rfl, rfl⟩ rfl rfl (Nat.le_of_ble_eq_true rfl) (Nat.le_of_ble_eq_true rfl) (Nat.le_of_ble_eq_true rfl) g2 rfl (t_76 e5) ?_
      refine en_aload rfl rfl ?_
      refine en_iload rfl rfl ?_
      refine en_iload rfl rfl ?_
      obtain ⟨g6, h⟩ := gd h
      obtain ⟨⟨q7, C8⟩, e9, h⟩ := gb h
      dsimp only at h
      refine ec_callV1 (k' := 76) (n := 3) (rc := 5) (a := p2) (as := [.int p3, .int p5]) ⟨rfl, rfl⟩ rfl rfl (Nat.le_of_ble_eq_true rfl) (Nat.le_of_ble_eq_true rfl) (Nat.le_of_ble_eq_true rfl) g6 rfl (t_76 e9) ?_
      rcases gi h with ⟨c10, h⟩ | ⟨c10, h⟩
      · refine en_icmp_eq_t c10 rfl ?_
        refine ec_iinc (l' := [(5, .int (p5 + (1 : Int32))), (0, .ref p0), (1, .int p1), (2, .ref p2), (3, .int p3), (4, .int p4)]) rfl cst_1 rfl rfl ?_
        refine en_goto rfl ?_
        refine en_sub [1, 2, 3, 4, 5, 0] rfl rfl ?_
        exact ih _ _ _ _ _ _ _ _ h o M' hk
      · refine en_icmp_eq_f c10 rfl ?_
        cases h
        exact en_sub [] rfl rfl hk
/-- BulkWriter$Rows.isLike(ILBulkWriter$Rows;II)Z -/
def f_84 (n : Nat) (a0 : Nat) (a1 : Int32) (a2 : Nat) (a3 : Int32) (a4 : Int32) (C : AmC) : Option (Int32 × AmC) := (lp_84_2 n a0 a1 a2 a3 a4 (0 : Int32) C).bind (fun q => match q with | ((.inl _), C13) => some ((0 : Int32), C13) | ((.inr _), C13) => some ((1 : Int32), C13))
set_option maxRecDepth 20000 in
set_option maxHeartbeats 4000000 in
theorem t_84 {n : Nat} {a0 : Nat} {a1 : Int32} {a2 : Nat} {a3 : Int32} {a4 : Int32} {C : AmC} {r : Int32} {C' : AmC} (h : f_84 n a0 a1 a2 a3 a4 C = some (r, C')) : En false 84 0 [(0, .ref a0), (1, .int a1), (2, .ref a2), (3, .int a3), (4, .int a4)] [] (mkM C) (.inl (some (.int r))) (mkM C') := by
  unfold f_84 at h
  refine ec_iconst cst_0 rfl ?_
  refine en_istore (l' := [(5, .int (0 : Int32)), (0, .ref a0), (1, .int a1), (2, .ref a2), (3, .int a3), (4, .int a4)]) rfl rfl ?_
  obtain ⟨⟨q11, C13⟩, e12, h⟩ := gb h
  refine en_sub [1, 2, 3, 4, 5, 0] rfl rfl (lt_84_2 n _ _ _ _ _ _ _ _ e12 _ _ ?_)
  rcases q11 with ⟨⟩ | ⟨⟩
  · dsimp only at h ⊢
    refine ec_iconst cst_0 rfl ?_
    cases h
    exact en_zret (Or.inl rfl) rfl
  · dsimp only at h ⊢
    refine ec_iconst cst_1 rfl ?_
    cases h
    exact en_zret (Or.inr rfl) rfl
def lp_83_22 : Nat → Nat → Nat → Int32 → Int32 → Int32 → Int32 → Int32 → Int32 → AmC → Option (((Nat × Nat × Int32 × Int32 × Int32 × Int32 × Int32)) × AmC)
  | 0, _, _, _, _, _, _, _, _, _ => none
  | n + 1, p0, p1, p2, p3, p4, p5, p6, p7, C => (if (30 : Int32) ≤ p7 then some ((p0, p1, p2, p3, p4, p5, p6), C) else (if ¬ p6 = (-1 : Int32) then some ((p0, p1, p2, p3, p4, p5, p6), C) else (if ¬ (((Int32.toUInt32 p3 >>> (Int32.toUInt32 p7 &&& Int32.toUInt32 31)).toInt32) &&& (1 : Int32)) = (1 : Int32) then lp_83_22 n p0 p1 p2 p3 p4 p5 p6 (p7 + (1 : Int32)) C else if isK p0 5 = true then (f_84 n p0 p5 p1 p7 p2 C).bind (fun z => match z with | (q9, C10) => (if q9 = 0 then lp_83_22 n p0 p1 p2 p3 p4 p5 p6 (p7 + (1 : Int32)) C10 else lp_83_22 n p0 p1 p2 p3 p4 p5 p7 (p7 + (1 : Int32)) C10)) else none)))
set_option maxRecDepth 20000 in
set_option maxHeartbeats 4000000 in
theorem lt_83_22 : ∀ (n : Nat) (p0 : Nat) (p1 : Nat) (p2 : Int32) (p3 : Int32) (p4 : Int32) (p5 : Int32) (p6 : Int32) (p7 : Int32) (C : AmC) (r : ((Nat × Nat × Int32 × Int32 × Int32 × Int32 × Int32)) × AmC), lp_83_22 n p0 p1 p2 p3 p4 p5 p6 p7 C = some r → ∀ (o : AmO) (M' : AmM), (match r with
        | ((w0, w1, w2, w3, w4, w5, w6), C') => En false 83 46 [(0, .ref w0), (1, .ref w1), (2, .int w2), (3, .int w3), (4, .int w4), (5, .int w5), (6, .int w6)] [] (mkM C') o M') → En false 83 22 [(0, .ref p0), (1, .ref p1), (2, .int p2), (3, .int p3), (4, .int p4), (5, .int p5), (6, .int p6), (7, .int p7)] [] (mkM C) o M' := by
  intro n
  induction n with
  | zero => intro p0 p1 p2 p3 p4 p5 p6 p7 C r h; cases h
  | succ n ih =>
    intro p0 p1 p2 p3 p4 p5 p6 p7 C r h o M' hk
    unfold lp_83_22 at h
    refine en_iload rfl rfl ?_
    refine ec_iconst cst_30 rfl ?_
    rcases gi h with ⟨c5, h⟩ | ⟨c5, h⟩
    · refine en_icmp_ge_t c5 rfl ?_
      cases h
      exact en_sub [0, 1, 2, 3, 4, 5, 6] rfl rfl hk
    · refine en_icmp_ge_f c5 rfl ?_
      refine en_iload rfl rfl ?_
      refine ec_iconst cst_m1 rfl ?_
      rcases gi h with ⟨c6, h⟩ | ⟨c6, h⟩
      · refine en_icmp_ne_t c6 rfl ?_
        cases h
        exact en_sub [0, 1, 2, 3, 4, 5, 6] rfl rfl hk
      · refine en_icmp_ne_f c6 rfl ?_
        refine en_iload rfl rfl ?_
        refine en_iload rfl rfl ?_
        refine en_iushr rfl ?_
        refine ec_iconst cst_1 rfl ?_
        refine en_iand rfl ?_
        refine ec_iconst cst_1 rfl ?_
        rcases gi h with ⟨c7, h⟩ | ⟨c7, h⟩
        · refine en_icmp_ne_t c7 rfl ?_
          refine ec_iinc (l' := [(7, .int (p7 + (1 : Int32))), (0, .ref p0), (1, .ref p1), (2, .int p2), (3, .int p3), (4, .int p4), (5, .int p5), (6, .int p6)]) rfl cst_1 rfl rfl ?_
          refine en_goto rfl ?_
          refine en_sub [1, 2, 3, 4, 5, 6, 7, 0] rfl rfl ?_
          exact ih _ _ _ _ _ _ _ _ _ _ h o M' hk
        · refine en_icmp_ne_f c7 rfl ?_
          refine en_aload rfl rfl ?_
          refine en_iload rfl rfl ?_
          refine en_aload rfl rfl ?_
          refine en_iload rfl rfl ?_
          refine en_iload rfl rfl ?_
          obtain ⟨g8, h⟩ := gd h
          obtain ⟨⟨q9, C10⟩, e11, h⟩ := gb h
          dsimp only at h
          refine ec_callV1 (k' := 84) (n := 5) (rc := 5) (a := p0) (as := [.int p5, .ref p1, .int p7, .int p2]) ⟨rfl, rfl⟩ rfl rfl (Nat.le_of_ble_eq_true rfl) (Nat.le_of_ble_eq_true rfl) (Nat.le_of_ble_eq_true rfl) g8 rfl (t_84 e11) ?_
          rcases gi h with ⟨c12, h⟩ | ⟨c12, h⟩
          · refine en_if_eq_t c12 rfl ?_
            refine ec_iinc (l' := [(7, .int (p7 + (1 : Int32))), (0, .ref p0), (1, .ref p1), (2, .int p2), (3, .int p3), (4, .int p4), (5, .int p5), (6, .int p6)]) rfl cst_1 rfl rfl ?_
            refine en_goto rfl ?_
            refine en_sub [1, 2, 3, 4, 5, 6, 7, 0] rfl rfl ?_
            exact ih _ _ _ _ _ _ _ _ _ _ h o M' hk
          · refine en_if_eq_f c12 rfl ?_
            refine en_iload rfl rfl ?_
            refine en_istore (l' := [(6, .int p7), (0, .ref p0), (1, .ref p1), (2, .int p2), (3, .int p3), (4, .int p4), (5, .int p5), (7, .int p7)]) rfl rfl ?_
            refine ec_iinc (l' := [(7, .int (p7 + (1 : Int32))), (6, .int p7), (0, .ref p0), (1, .ref p1), (2, .int p2), (3, .int p3), (4, .int p4), (5, .int p5)]) rfl cst_1 rfl rfl ?_
            refine en_goto rfl ?_
            refine en_sub [2, 3, 4, 5, 6, 7, 1, 0] rfl rfl ?_
            exact ih _ _ _ _ _ _ _ _ _ _ h o M' hk
def lp_83_7 : Nat → Nat → Nat → Int32 → Int32 → Int32 → Int32 → AmC → Option (((Int32)) × AmC)
  | 0, _, _, _, _, _, _, _ => none
  | n + 1, p0, p1, p2, p3, p4, p5, C => (if (30 : Int32) ≤ p5 then some (p4, C) else if isK p0 5 = true then (if ¬ (((Int32.toUInt32 (cI C p0 1) >>> (Int32.toUInt32 p5 &&& Int32.toUInt32 31)).toInt32) &&& (1 : Int32)) = 0 then (lp_83_22 n p0 p1 p2 p3 p4 p5 (-1 : Int32) (0 : Int32) C).bind (fun q => match q with | ((u16, u17, u18, u19, u20, u21, u22), C15) => (if ¬ u22 = (-1 : Int32) then lp_83_7 n u16 u17 u18 (u19 &&& (((1 : Int32) <<< (u22 &&& 31)) ^^^ (-1 : Int32))) u20 (u21 + (1 : Int32)) C15 else lp_83_7 n u16 u17 u18 u19 (u20 + (1 : Int32)) (u21 + (1 : Int32)) C15)) else lp_83_7 n p0 p1 p2 p3 p4 (p5 + (1 : Int32)) C) else none)
set_option maxRecDepth 20000 in
set_option maxHeartbeats 4000000 in
theorem lt_83_7 : ∀ (n : Nat) (p0 : Nat) (p1 : Nat) (p2 : Int32) (p3 : Int32) (p4 : Int32) (p5 : Int32) (C : AmC) (r : ((Int32)) × AmC), lp_83_7 n p0 p1 p2 p3 p4 p5 C = some r → ∀ (o : AmO) (M' : AmM), (match r with
        | (w4, C') => En false 83 61 [(4, .int w4)] [] (mkM C') o M') → En false 83 7 [(0, .ref p0), (1, .ref p1), (2, .int p2), (3, .int p3), (4, .int p4), (5, .int p5)] [] (mkM C) o M' := by
  intro n
  induction n with
  | zero => intro p0 p1 p2 p3 p4 p5 C r h; cases h
  | succ n ih =>
    intro p0 p1 p2 p3 p4 p5 C r h o M' hk
    unfold lp_83_7 at h
    refine en_iload rfl rfl ?_
    refine ec_iconst cst_30 rfl ?_
    rcases gi h with ⟨c2, h⟩ | ⟨c2, h⟩
    · refine en_icmp_ge_t c2 rfl ?_
      cases h
      exact en_sub [4] rfl rfl hk
    · refine en_icmp_ge_f c2 rfl ?_
      refine en_aload rfl rfl ?_
      obtain ⟨g3, h⟩ := gd h
      refine ec_getI (ci := 5) (j := 1) ⟨rfl, rfl, rfl⟩ g3 rfl ?_
      refine en_iload rfl rfl ?_
      refine en_iushr rfl ?_
      refine ec_iconst cst_1 rfl ?_
      refine en_iand rfl ?_
      rcases gi h with ⟨c4, h⟩ | ⟨c4, h⟩
      · refine en_if_ne_t c4 rfl ?_
        refine ec_iconst cst_m1 rfl ?_
        refine en_istore (l' := [(6, .int (-1 : Int32)), (0, .ref p0), (1, .ref p1), (2, .int p2), (3, .int p3), (4, .int p4), (5, .int p5)]) rfl rfl ?_
        refine ec_iconst cst_0 rfl ?_
        refine en_istore (l' := [(7, .int (0 : Int32)), (6, .int (-1 : Int32)), (0, .ref p0), (1, .ref p1), (2, .int p2), (3, .int p3), (4, .int p4), (5, .int p5)]) rfl rfl ?_
        obtain ⟨⟨q13, C15⟩, e14, h⟩ := gb h
        refine en_sub [2, 3, 4, 5, 6, 7, 1, 0] rfl rfl (lt_83_22 n _ _ _ _ _ _ _ _ _ _ e14 o M' ?_)
        obtain ⟨u16, u17, u18, u19, u20, u21, u22⟩ := q13
        dsimp only at h ⊢
        refine en_iload rfl rfl ?_
        refine ec_iconst cst_m1 rfl ?_
        rcases gi h with ⟨c23, h⟩ | ⟨c23, h⟩
        · refine en_icmp_ne_t c23 rfl ?_
          refine en_iload rfl rfl ?_
          refine ec_iconst cst_1 rfl ?_
          refine en_iload rfl rfl ?_
          refine en_ishl rfl ?_
          refine ec_iconst cst_m1 rfl ?_
          refine en_ixor rfl ?_
          refine en_iand rfl ?_
          refine en_istore (l' := [(3, .int (u19 &&& (((1 : Int32) <<< (u22 &&& 31)) ^^^ (-1 : Int32)))), (0, .ref u16), (1, .ref u17), (2, .int u18), (4, .int u20), (5, .int u21), (6, .int u22)]) rfl rfl ?_
          refine ec_iinc (l' := [(5, .int (u21 + (1 : Int32))), (3, .int (u19 &&& (((1 : Int32) <<< (u22 &&& 31)) ^^^ (-1 : Int32)))), (0, .ref u16), (1, .ref u17), (2, .int u18), (4, .int u20), (6, .int u22)]) rfl cst_1 rfl rfl ?_
          refine en_goto rfl ?_
          refine en_sub [2, 3, 4, 1, 5, 0] rfl rfl ?_
          exact ih _ _ _ _ _ _ _ _ h o M' hk
        · refine en_icmp_ne_f c23 rfl ?_
          refine ec_iinc (l' := [(4, .int (u20 + (1 : Int32))), (0, .ref u16), (1, .ref u17), (2, .int u18), (3, .int u19), (5, .int u21), (6, .int u22)]) rfl cst_1 rfl rfl ?_
          refine en_goto rfl ?_
          refine ec_iinc (l' := [(5, .int (u21 + (1 : Int32))), (4, .int (u20 + (1 : Int32))), (0, .ref u16), (1, .ref u17), (2, .int u18), (3, .int u19), (6, .int u22)]) rfl cst_1 rfl rfl ?_
          refine en_goto rfl ?_
          refine en_sub [2, 3, 4, 5, 1, 0] rfl rfl ?_
          exact ih _ _ _ _ _ _ _ _ h o M' hk
      · refine en_if_ne_f c4 rfl ?_
        refine en_goto rfl ?_
        refine ec_iinc (l' := [(5, .int (p5 + (1 : Int32))), (0, .ref p0), (1, .ref p1), (2, .int p2), (3, .int p3), (4, .int p4)]) rfl cst_1 rfl rfl ?_
        refine en_goto rfl ?_
        refine en_sub [1, 2, 3, 4, 5, 0] rfl rfl ?_
        exact ih _ _ _ _ _ _ _ _ h o M' hk
/-- BulkWriter$Rows.lacking(LBulkWriter$Rows;I)I -/
def f_83 (n : Nat) (a0 : Nat) (a1 : Nat) (a2 : Int32) (C : AmC) : Option (Int32 × AmC) := if isK a1 5 = true then (lp_83_7 n a0 a1 a2 (cI C a1 1) (0 : Int32) (0 : Int32) C).bind (fun q => match q with | (u27, C26) => some (u27, C26)) else none
set_option maxRecDepth 20000 in
set_option maxHeartbeats 4000000 in
theorem t_83 {n : Nat} {a0 : Nat} {a1 : Nat} {a2 : Int32} {C : AmC} {r : Int32} {C' : AmC} (h : f_83 n a0 a1 a2 C = some (r, C')) : En false 83 0 [(0, .ref a0), (1, .ref a1), (2, .int a2)] [] (mkM C) (.inl (some (.int r))) (mkM C') := by
  unfold f_83 at h
  refine en_aload rfl rfl ?_
  obtain ⟨g1, h⟩ := gd h
  refine ec_getI (ci := 5) (j := 1) ⟨rfl, rfl, rfl⟩ g1 rfl ?_
  refine en_istore (l' := [(3, .int (cI C a1 1)), (0, .ref a0), (1, .ref a1), (2, .int a2)]) rfl rfl ?_
  refine ec_iconst cst_0 rfl ?_
  refine en_istore (l' := [(4, .int (0 : Int32)), (3, .int (cI C a1 1)), (0, .ref a0), (1, .ref a1), (2, .int a2)]) rfl rfl ?_
  refine ec_iconst cst_0 rfl ?_
  refine en_istore (l' := [(5, .int (0 : Int32)), (4, .int (0 : Int32)), (3, .int (cI C a1 1)), (0, .ref a0), (1, .ref a1), (2, .int a2)]) rfl rfl ?_
  obtain ⟨⟨q24, C26⟩, e25, h⟩ := gb h
  refine en_sub [3, 4, 5, 2, 1, 0] rfl rfl (lt_83_7 n _ _ _ _ _ _ _ _ e25 _ _ ?_)
  revert h e25; revert q24; intro u27 e25 h
  dsimp only at h ⊢
  refine en_iload rfl rfl ?_
  cases h
  exact en_iret rfl
/-- BulkWriter$Script.paths()I -/
def f_87 (n : Nat) (a0 : Nat) (C : AmC) : Option (Int32 × AmC) := if isK a0 6 = true then some (((1 : Int32) + ((2 : Int32) * (cI C a0 2))), C) else none
set_option maxRecDepth 20000 in
set_option maxHeartbeats 4000000 in
theorem t_87 {n : Nat} {a0 : Nat} {C : AmC} {r : Int32} {C' : AmC} (h : f_87 n a0 C = some (r, C')) : En false 87 0 [(0, .ref a0)] [] (mkM C) (.inl (some (.int r))) (mkM C') := by
  unfold f_87 at h
  refine ec_iconst cst_1 rfl ?_
  refine ec_iconst cst_2 rfl ?_
  refine en_aload rfl rfl ?_
  obtain ⟨g1, h⟩ := gd h
  refine ec_getI (ci := 6) (j := 2) ⟨rfl, rfl, rfl⟩ g1 rfl ?_
  refine en_imul rfl ?_
  refine en_iadd rfl ?_
  cases h
  exact en_iret rfl
def lp_106_11 : Nat → Nat → Nat → Int32 → Int32 → Int32 → AmC → Option (((Unit) ⊕ (Nat × Nat × Int32 × Int32)) × AmC)
  | 0, _, _, _, _, _, _ => none
  | n + 1, p0, p1, p2, p3, p4, C => if isK p0 6 = true then (if (cI C p0 2) ≤ p4 then some ((.inr (p0, p1, p2, p3)), C) else if isK p1 5 = true then (f_75 n p1 p3 C).bind (fun z => match z with | (q10, C11) => (if q10 = 0 then some ((.inr (p0, p1, p2, p3)), C11) else (if p3 = p2 then some ((.inr (p0, p1, p2, p3)), C11) else (if ¬ (((Int32.toUInt32 (cI C11 p0 5) >>> (Int32.toUInt32 p4 &&& Int32.toUInt32 31)).toInt32) &&& (1 : Int32)) = (1 : Int32) then lp_106_11 n p0 p1 p2 p3 (p4 + (1 : Int32)) C11 else (f_104 n p0 p1 p2 p3 p4 C11).bind (fun z => match z with | (q16, C17) => (if q16 = 0 then lp_106_11 n p0 p1 p2 p3 (p4 + (1 : Int32)) C17 else some ((.inl ()), C17))))))) else none) else none
set_option maxRecDepth 20000 in
set_option maxHeartbeats 4000000 in
theorem lt_106_11 : ∀ (n : Nat) (p0 : Nat) (p1 : Nat) (p2 : Int32) (p3 : Int32) (p4 : Int32) (C : AmC) (r : ((Unit) ⊕ (Nat × Nat × Int32 × Int32)) × AmC), lp_106_11 n p0 p1 p2 p3 p4 C = some r → ∀ (o : AmO) (M' : AmM), (match r with
        | ((.inl _), C') => En false 106 37 [] [] (mkM C') o M'
        | ((.inr (w0, w1, w2, w3)), C') => En false 106 41 [(0, .ref w0), (1, .ref w1), (2, .int w2), (3, .int w3)] [] (mkM C') o M') → En false 106 11 [(0, .ref p0), (1, .ref p1), (2, .int p2), (3, .int p3), (4, .int p4)] [] (mkM C) o M' := by
  intro n
  induction n with
  | zero => intro p0 p1 p2 p3 p4 C r h; cases h
  | succ n ih =>
    intro p0 p1 p2 p3 p4 C r h o M' hk
    unfold lp_106_11 at h
    refine en_iload rfl rfl ?_
    refine en_aload rfl rfl ?_
    obtain ⟨g7, h⟩ := gd h
    refine ec_getI (ci := 6) (j := 2) ⟨rfl, rfl, rfl⟩ g7 rfl ?_
    rcases gi h with ⟨c8, h⟩ | ⟨c8, h⟩
    · refine en_icmp_ge_t c8 rfl ?_
      cases h
      exact en_sub [0, 1, 2, 3] rfl rfl hk
    · refine en_icmp_ge_f c8 rfl ?_
      refine en_aload rfl rfl ?_
      refine en_iload rfl rfl ?_
      obtain ⟨g9, h⟩ := gd h
      obtain ⟨⟨q10, C11⟩, e12, h⟩ := gb h
      dsimp only at h
      refine ec_callV1 (k' := 75) (n := 2) (rc := 5) (a := p1) (as := [.int p3]) ⟨rfl, rfl⟩ rfl rfl (Nat.le_of_ble_eq_true rfl) (Nat.le_of_ble_eq_true rfl) (Nat.le_of_ble_eq_true rfl) g9 rfl (t_75 e12) ?_
      rcases gi h with ⟨c13, h⟩ | ⟨c13, h⟩
      · refine en_if_eq_t c13 rfl ?_
        cases h
        exact en_sub [0, 1, 2, 3] rfl rfl hk
      · refine en_if_eq_f c13 rfl ?_
        refine en_iload rfl rfl ?_
        refine en_iload rfl rfl ?_
        rcases gi h with ⟨c14, h⟩ | ⟨c14, h⟩
        · refine en_icmp_eq_t c14 rfl ?_
          cases h
          exact en_sub [0, 1, 2, 3] rfl rfl hk
        · refine en_icmp_eq_f c14 rfl ?_
          refine en_aload rfl rfl ?_
          refine ec_getI (ci := 6) (j := 5) ⟨rfl, rfl, rfl⟩ g7 rfl ?_
          refine en_iload rfl rfl ?_
          refine en_iushr rfl ?_
          refine ec_iconst cst_1 rfl ?_
          refine en_iand rfl ?_
          refine ec_iconst cst_1 rfl ?_
          rcases gi h with ⟨c15, h⟩ | ⟨c15, h⟩
          · refine en_icmp_ne_t c15 rfl ?_
            refine ec_iinc (l' := [(4, .int (p4 + (1 : Int32))), (0, .ref p0), (1, .ref p1), (2, .int p2), (3, .int p3)]) rfl cst_1 rfl rfl ?_
            refine en_goto rfl ?_
            refine en_sub [1, 2, 3, 4, 0] rfl rfl ?_
            exact ih _ _ _ _ _ _ _ h o M' hk
          · refine en_icmp_ne_f c15 rfl ?_
            refine en_aload rfl rfl ?_
            refine en_aload rfl rfl ?_
            refine en_iload rfl rfl ?_
            refine en_iload rfl rfl ?_
            refine en_iload rfl rfl ?_
            obtain ⟨⟨q16, C17⟩, e18, h⟩ := gb h
            dsimp only at h
            refine ec_callV1 (k' := 104) (n := 5) (rc := 6) (a := p0) (as := [.ref p1, .int p2, .int p3, .int p4]) ⟨rfl, rfl⟩ rfl rfl (Nat.le_of_ble_eq_true rfl) (Nat.le_of_ble_eq_true rfl) (Nat.le_of_ble_eq_true rfl) g7 rfl (t_104 e18) ?_
            rcases gi h with ⟨c19, h⟩ | ⟨c19, h⟩
            · refine en_if_eq_t c19 rfl ?_
              refine ec_iinc (l' := [(4, .int (p4 + (1 : Int32))), (0, .ref p0), (1, .ref p1), (2, .int p2), (3, .int p3)]) rfl cst_1 rfl rfl ?_
              refine en_goto rfl ?_
              refine en_sub [1, 2, 3, 4, 0] rfl rfl ?_
              exact ih _ _ _ _ _ _ _ h o M' hk
            · refine en_if_eq_f c19 rfl ?_
              cases h
              exact en_sub [] rfl rfl hk
def lp_106_2 : Nat → Nat → Nat → Int32 → Int32 → AmC → Option (((Unit) ⊕ (Unit)) × AmC)
  | 0, _, _, _, _, _ => none
  | n + 1, p0, p1, p2, p3, C => (if (30 : Int32) ≤ p3 then some ((.inr ()), C) else if isK p1 5 = true then (f_75 n p1 p2 C).bind (fun z => match z with | (q3, C4) => (if q3 = 0 then some ((.inr ()), C4) else (lp_106_11 n p0 p1 p2 p3 (0 : Int32) C4).bind (fun q => match q with | ((.inl _), C22) => some ((.inl ()), C22) | ((.inr (u23, u24, u25, u26)), C22) => lp_106_2 n u23 u24 u25 (u26 + (1 : Int32)) C22))) else none)
set_option maxRecDepth 20000 in
set_option maxHeartbeats 4000000 in
theorem lt_106_2 : ∀ (n : Nat) (p0 : Nat) (p1 : Nat) (p2 : Int32) (p3 : Int32) (C : AmC) (r : ((Unit) ⊕ (Unit)) × AmC), lp_106_2 n p0 p1 p2 p3 C = some r → ∀ (o : AmO) (M' : AmM), (match r with
        | ((.inl _), C') => En false 106 37 [] [] (mkM C') o M'
        | ((.inr _), C') => En false 106 43 [] [] (mkM C') o M') → En false 106 2 [(0, .ref p0), (1, .ref p1), (2, .int p2), (3, .int p3)] [] (mkM C) o M' := by
  intro n
  induction n with
  | zero => intro p0 p1 p2 p3 C r h; cases h
  | succ n ih =>
    intro p0 p1 p2 p3 C r h o M' hk
    unfold lp_106_2 at h
    refine en_iload rfl rfl ?_
    refine ec_iconst cst_30 rfl ?_
    rcases gi h with ⟨c1, h⟩ | ⟨c1, h⟩
    · refine en_icmp_ge_t c1 rfl ?_
      cases h
      exact en_sub [] rfl rfl hk
    · refine en_icmp_ge_f c1 rfl ?_
      refine en_aload rfl rfl ?_
      refine en_iload rfl rfl ?_
      obtain ⟨g2, h⟩ := gd h
      obtain ⟨⟨q3, C4⟩, e5, h⟩ := gb h
      dsimp only at h
      refine ec_callV1 (k' := 75) (n := 2) (rc := 5) (a := p1) (as := [.int p2]) ⟨rfl, rfl⟩ rfl rfl (Nat.le_of_ble_eq_true rfl) (Nat.le_of_ble_eq_true rfl) (Nat.le_of_ble_eq_true rfl) g2 rfl (t_75 e5) ?_
      rcases gi h with ⟨c6, h⟩ | ⟨c6, h⟩
      · refine en_if_eq_t c6 rfl ?_
        cases h
        exact en_sub [] rfl rfl hk
      · refine en_if_eq_f c6 rfl ?_
        refine ec_iconst cst_0 rfl ?_
        refine en_istore (l' := [(4, .int (0 : Int32)), (0, .ref p0), (1, .ref p1), (2, .int p2), (3, .int p3)]) rfl rfl ?_
        obtain ⟨⟨q20, C22⟩, e21, h⟩ := gb h
        refine en_sub [1, 2, 3, 4, 0] rfl rfl (lt_106_11 n _ _ _ _ _ _ _ e21 o M' ?_)
        rcases q20 with ⟨⟩ | ⟨u23, u24, u25, u26⟩
        · dsimp only at h ⊢
          cases h
          exact en_sub [] rfl rfl hk
        · dsimp only at h ⊢
          refine ec_iinc (l' := [(3, .int (u26 + (1 : Int32))), (0, .ref u23), (1, .ref u24), (2, .int u25)]) rfl cst_1 rfl rfl ?_
          refine en_goto rfl ?_
          refine en_sub [1, 2, 3, 0] rfl rfl ?_
          exact ih _ _ _ _ _ _ h o M' hk
/-- BulkWriter$Script.hasTwin(LBulkWriter$Rows;I)Z -/
def f_106 (n : Nat) (a0 : Nat) (a1 : Nat) (a2 : Int32) (C : AmC) : Option (Int32 × AmC) := (lp_106_2 n a0 a1 a2 (0 : Int32) C).bind (fun q => match q with | ((.inl _), C29) => some ((1 : Int32), C29) | ((.inr _), C29) => some ((0 : Int32), C29))
set_option maxRecDepth 20000 in
set_option maxHeartbeats 4000000 in
theorem t_106 {n : Nat} {a0 : Nat} {a1 : Nat} {a2 : Int32} {C : AmC} {r : Int32} {C' : AmC} (h : f_106 n a0 a1 a2 C = some (r, C')) : En false 106 0 [(0, .ref a0), (1, .ref a1), (2, .int a2)] [] (mkM C) (.inl (some (.int r))) (mkM C') := by
  unfold f_106 at h
  refine ec_iconst cst_0 rfl ?_
  refine en_istore (l' := [(3, .int (0 : Int32)), (0, .ref a0), (1, .ref a1), (2, .int a2)]) rfl rfl ?_
  obtain ⟨⟨q27, C29⟩, e28, h⟩ := gb h
  refine en_sub [1, 2, 3, 0] rfl rfl (lt_106_2 n _ _ _ _ _ _ e28 _ _ ?_)
  rcases q27 with ⟨⟩ | ⟨⟩
  · dsimp only at h ⊢
    refine ec_iconst cst_1 rfl ?_
    cases h
    exact en_zret (Or.inr rfl) rfl
  · dsimp only at h ⊢
    refine ec_iconst cst_0 rfl ?_
    cases h
    exact en_zret (Or.inl rfl) rfl
/-- BulkWriter$State.begin(LBulkWriter$Rows;)V -/
def f_109 (n : Nat) (a0 : Nat) (a1 : Nat) (C : AmC) : Option (Unit × AmC) := if isK a0 7 = true then (cP C a0 0).bind (fun r2 => if isK r2 5 = true then (f_72 n r2 a1 C).bind (fun z => match z with | (_, C6) => (cP C6 a0 1).bind (fun r8 => if isK r8 1 = true then (f_9 n r8 C6).bind (fun z => match z with | (_, C12) => some ((), uI C12 a0 5 (0 : Int32))) else none)) else none) else none
set_option maxRecDepth 20000 in
set_option maxHeartbeats 4000000 in
theorem t_109 {n : Nat} {a0 : Nat} {a1 : Nat} {C : AmC} {r : Unit} {C' : AmC} (h : f_109 n a0 a1 C = some (r, C')) : En false 109 0 [(0, .ref a0), (1, .ref a1)] [] (mkM C) (.inl none) (mkM C') := by
  unfold f_109 at h
  refine en_aload rfl rfl ?_
  obtain ⟨g1, h⟩ := gd h
  obtain ⟨r2, e3, h⟩ := gb h
  refine ec_getP (ci := 7) (j := 0) ⟨rfl, rfl, rfl⟩ g1 e3 rfl ?_
  refine en_aload rfl rfl ?_
  obtain ⟨g4, h⟩ := gd h
  obtain ⟨⟨q5, C6⟩, e7, h⟩ := gb h
  dsimp only at h
  refine ec_callV0 (k' := 72) (n := 2) (rc := 5) (a := r2) (as := [.ref a1]) ⟨rfl, rfl⟩ rfl rfl (Nat.le_of_ble_eq_true rfl) (Nat.le_of_ble_eq_true rfl) (Nat.le_of_ble_eq_true rfl) g4 rfl (t_72 e7) ?_
  refine en_aload rfl rfl ?_
  obtain ⟨r8, e9, h⟩ := gb h
  refine ec_getP (ci := 7) (j := 1) ⟨rfl, rfl, rfl⟩ g1 e9 rfl ?_
  obtain ⟨g10, h⟩ := gd h
  obtain ⟨⟨q11, C12⟩, e13, h⟩ := gb h
  dsimp only at h
  refine ec_callV0 (k' := 9) (n := 1) (rc := 1) (a := r8) (as := []) ⟨rfl, rfl⟩ rfl rfl (Nat.le_of_ble_eq_true rfl) (Nat.le_of_ble_eq_true rfl) (Nat.le_of_ble_eq_true rfl) g10 rfl (t_9 e13) ?_
  refine en_aload rfl rfl ?_
  refine ec_iconst cst_0 rfl ?_
  refine ec_putI (ci := 7) (j := 5) ⟨rfl, rfl, rfl⟩ g1 rfl ?_
  cases h
  exact en_vret rfl
/-- BulkWriter$State.copyFrom(LBulkWriter$State;)V -/
def f_110 (n : Nat) (a0 : Nat) (a1 : Nat) (C : AmC) : Option (Unit × AmC) := if isK a0 7 = true then (cP C a0 0).bind (fun r2 => if isK a1 7 = true then (cP C a1 0).bind (fun r5 => if isK r2 5 = true then (f_72 n r2 r5 C).bind (fun z => match z with | (_, C9) => (cP C9 a0 1).bind (fun r11 => (cP C9 a1 1).bind (fun r13 => if isK r11 1 = true then (f_10 n r11 r13 C9).bind (fun z => match z with | (_, C17) => (cP C17 a1 2).bind (fun r19 => (cP C17 a0 2).bind (fun r21 => if isK r19 12 = true then if isK r21 12 = true then if ¬ (0 : Int32) < 0 ∧ ¬ (0 : Int32) < 0 ∧ ¬ (8 : Int32) < 0 ∧ Int32.toNatClampNeg (0 : Int32) + Int32.toNatClampNeg (8 : Int32) ≤ aLen r19 ∧ Int32.toNatClampNeg (0 : Int32) + Int32.toNatClampNeg (8 : Int32) ≤ aLen r21 then (cP (uA C17 r21 (va_cpy (cI C17 r19) (cI C17 r21) (Int32.toNatClampNeg (0 : Int32)) (Int32.toNatClampNeg (0 : Int32)) (Int32.toNatClampNeg (8 : Int32)))) a1 3).bind (fun r26 => (cP (uA C17 r21 (va_cpy (cI C17 r19) (cI C17 r21) (Int32.toNatClampNeg (0 : Int32)) (Int32.toNatClampNeg (0 : Int32)) (Int32.toNatClampNeg (8 : Int32)))) a0 3).bind (fun r28 => if isK r26 12 = true then if isK r28 12 = true then if ¬ (0 : Int32) < 0 ∧ ¬ (0 : Int32) < 0 ∧ ¬ (8 : Int32) < 0 ∧ Int32.toNatClampNeg (0 : Int32) + Int32.toNatClampNeg (8 : Int32) ≤ aLen r26 ∧ Int32.toNatClampNeg (0 : Int32) + Int32.toNatClampNeg (8 : Int32) ≤ aLen r28 then (cP (uA (uA C17 r21 (va_cpy (cI C17 r19) (cI C17 r21) (Int32.toNatClampNeg (0 : Int32)) (Int32.toNatClampNeg (0 : Int32)) (Int32.toNatClampNeg (8 : Int32)))) r28 (va_cpy (cI (uA C17 r21 (va_cpy (cI C17 r19) (cI C17 r21) (Int32.toNatClampNeg (0 : Int32)) (Int32.toNatClampNeg (0 : Int32)) (Int32.toNatClampNeg (8 : Int32)))) r26) (cI (uA C17 r21 (va_cpy (cI C17 r19) (cI C17 r21) (Int32.toNatClampNeg (0 : Int32)) (Int32.toNatClampNeg (0 : Int32)) (Int32.toNatClampNeg (8 : Int32)))) r28) (Int32.toNatClampNeg (0 : Int32)) (Int32.toNatClampNeg (0 : Int32)) (Int32.toNatClampNeg (8 : Int32)))) a1 4).bind (fun r33 => (cP (uA (uA C17 r21 (va_cpy (cI C17 r19) (cI C17 r21) (Int32.toNatClampNeg (0 : Int32)) (Int32.toNatClampNeg (0 : Int32)) (Int32.toNatClampNeg (8 : Int32)))) r28 (va_cpy (cI (uA C17 r21 (va_cpy (cI C17 r19) (cI C17 r21) (Int32.toNatClampNeg (0 : Int32)) (Int32.toNatClampNeg (0 : Int32)) (Int32.toNatClampNeg (8 : Int32)))) r26) (cI (uA C17 r21 (va_cpy (cI C17 r19) (cI C17 r21) (Int32.toNatClampNeg (0 : Int32)) (Int32.toNatClampNeg (0 : Int32)) (Int32.toNatClampNeg (8 : Int32)))) r28) (Int32.toNatClampNeg (0 : Int32)) (Int32.toNatClampNeg (0 : Int32)) (Int32.toNatClampNeg (8 : Int32)))) a0 4).bind (fun r35 => if isK r33 12 = true then if isK r35 12 = true then if ¬ (0 : Int32) < 0 ∧ ¬ (0 : Int32) < 0 ∧ ¬ (8 : Int32) < 0 ∧ Int32.toNatClampNeg (0 : Int32) + Int32.toNatClampNeg (8 : Int32) ≤ aLen r33 ∧ Int32.toNatClampNeg (0 : Int32) + Int32.toNatClampNeg (8 : Int32) ≤ aLen r35 then (cP (uI (uA (uA (uA C17 r21 (va_cpy (cI C17 r19) (cI C17 r21) (Int32.toNatClampNeg (0 : Int32)) (Int32.toNatClampNeg (0 : Int32)) (Int32.toNatClampNeg (8 : Int32)))) r28 (va_cpy (cI (uA C17 r21 (va_cpy (cI C17 r19) (cI C17 r21) (Int32.toNatClampNeg (0 : Int32)) (Int32.toNatClampNeg (0 : Int32)) (Int32.toNatClampNeg (8 : Int32)))) r26) (cI (uA C17 r21 (va_cpy (cI C17 r19) (cI C17 r21) (Int32.toNatClampNeg (0 : Int32)) (Int32.toNatClampNeg (0 : Int32)) (Int32.toNatClampNeg (8 : Int32)))) r28) (Int32.toNatClampNeg (0 : Int32)) (Int32.toNatClampNeg (0 : Int32)) (Int32.toNatClampNeg (8 : Int32)))) r35 (va_cpy (cI (uA (uA C17 r21 (va_cpy (cI C17 r19) (cI C17 r21) (Int32.toNatClampNeg (0 : Int32)) (Int32.toNatClampNeg (0 : Int32)) (Int32.toNatClampNeg (8 : Int32)))) r28 (va_cpy (cI (uA C17 r21 (va_cpy (cI C17 r19) (cI C17 r21) (Int32.toNatClampNeg (0 : Int32)) (Int32.toNatClampNeg (0 : Int32)) (Int32.toNatClampNeg (8 : Int32)))) r26) (cI (uA C17 r21 (va_cpy (cI C17 r19) (cI C17 r21) (Int32.toNatClampNeg (0 : Int32)) (Int32.toNatClampNeg (0 : Int32)) (Int32.toNatClampNeg (8 : Int32)))) r28) (Int32.toNatClampNeg (0 : Int32)) (Int32.toNatClampNeg (0 : Int32)) (Int32.toNatClampNeg (8 : Int32)))) r33) (cI (uA (uA C17 r21 (va_cpy (cI C17 r19) (cI C17 r21) (Int32.toNatClampNeg (0 : Int32)) (Int32.toNatClampNeg (0 : Int32)) (Int32.toNatClampNeg (8 : Int32)))) r28 (va_cpy (cI (uA C17 r21 (va_cpy (cI C17 r19) (cI C17 r21) (Int32.toNatClampNeg (0 : Int32)) (Int32.toNatClampNeg (0 : Int32)) (Int32.toNatClampNeg (8 : Int32)))) r26) (cI (uA C17 r21 (va_cpy (cI C17 r19) (cI C17 r21) (Int32.toNatClampNeg (0 : Int32)) (Int32.toNatClampNeg (0 : Int32)) (Int32.toNatClampNeg (8 : Int32)))) r28) (Int32.toNatClampNeg (0 : Int32)) (Int32.toNatClampNeg (0 : Int32)) (Int32.toNatClampNeg (8 : Int32)))) r35) (Int32.toNatClampNeg (0 : Int32)) (Int32.toNatClampNeg (0 : Int32)) (Int32.toNatClampNeg (8 : Int32)))) a0 5 (cI (uA (uA (uA C17 r21 (va_cpy (cI C17 r19) (cI C17 r21) (Int32.toNatClampNeg (0 : Int32)) (Int32.toNatClampNeg (0 : Int32)) (Int32.toNatClampNeg (8 : Int32)))) r28 (va_cpy (cI (uA C17 r21 (va_cpy (cI C17 r19) (cI C17 r21) (Int32.toNatClampNeg (0 : Int32)) (Int32.toNatClampNeg (0 : Int32)) (Int32.toNatClampNeg (8 : Int32)))) r26) (cI (uA C17 r21 (va_cpy (cI C17 r19) (cI C17 r21) (Int32.toNatClampNeg (0 : Int32)) (Int32.toNatClampNeg (0 : Int32)) (Int32.toNatClampNeg (8 : Int32)))) r28) (Int32.toNatClampNeg (0 : Int32)) (Int32.toNatClampNeg (0 : Int32)) (Int32.toNatClampNeg (8 : Int32)))) r35 (va_cpy (cI (uA (uA C17 r21 (va_cpy (cI C17 r19) (cI C17 r21) (Int32.toNatClampNeg (0 : Int32)) (Int32.toNatClampNeg (0 : Int32)) (Int32.toNatClampNeg (8 : Int32)))) r28 (va_cpy (cI (uA C17 r21 (va_cpy (cI C17 r19) (cI C17 r21) (Int32.toNatClampNeg (0 : Int32)) (Int32.toNatClampNeg (0 : Int32)) (Int32.toNatClampNeg (8 : Int32)))) r26) (cI (uA C17 r21 (va_cpy (cI C17 r19) (cI C17 r21) (Int32.toNatClampNeg (0 : Int32)) (Int32.toNatClampNeg (0 : Int32)) (Int32.toNatClampNeg (8 : Int32)))) r28) (Int32.toNatClampNeg (0 : Int32)) (Int32.toNatClampNeg (0 : Int32)) (Int32.toNatClampNeg (8 : Int32)))) r33) (cI (uA (uA C17 r21 (va_cpy (cI C17 r19) (cI C17 r21) (Int32.toNatClampNeg (0 : Int32)) (Int32.toNatClampNeg (0 : Int32)) (Int32.toNatClampNeg (8 : Int32)))) r28 (va_cpy (cI (uA C17 r21 (va_cpy (cI C17 r19) (cI C17 r21) (Int32.toNatClampNeg (0 : Int32)) (Int32.toNatClampNeg (0 : Int32)) (Int32.toNatClampNeg (8 : Int32)))) r26) (cI (uA C17 r21 (va_cpy (cI C17 r19) (cI C17 r21) (Int32.toNatClampNeg (0 : Int32)) (Int32.toNatClampNeg (0 : Int32)) (Int32.toNatClampNeg (8 : Int32)))) r28) (Int32.toNatClampNeg (0 : Int32)) (Int32.toNatClampNeg (0 : Int32)) (Int32.toNatClampNeg (8 : Int32)))) r35) (Int32.toNatClampNeg (0 : Int32)) (Int32.toNatClampNeg (0 : Int32)) (Int32.toNatClampNeg (8 : Int32)))) a1 5)) a1 6).bind (fun r40 => (cP (uI (uA (uA (uA C17 r21 (va_cpy (cI C17 r19) (cI C17 r21) (Int32.toNatClampNeg (0 : Int32)) (Int32.toNatClampNeg (0 : Int32)) (Int32.toNatClampNeg (8 : Int32)))) r28 (va_cpy (cI (uA C17 r21 (va_cpy (cI C17 r19) (cI C17 r21) (Int32.toNatClampNeg (0 : Int32)) (Int32.toNatClampNeg (0 : Int32)) (Int32.toNatClampNeg (8 : Int32)))) r26) (cI (uA C17 r21 (va_cpy (cI C17 r19) (cI C17 r21) (Int32.toNatClampNeg (0 : Int32)) (Int32.toNatClampNeg (0 : Int32)) (Int32.toNatClampNeg (8 : Int32)))) r28) (Int32.toNatClampNeg (0 : Int32)) (Int32.toNatClampNeg (0 : Int32)) (Int32.toNatClampNeg (8 : Int32)))) r35 (va_cpy (cI (uA (uA C17 r21 (va_cpy (cI C17 r19) (cI C17 r21) (Int32.toNatClampNeg (0 : Int32)) (Int32.toNatClampNeg (0 : Int32)) (Int32.toNatClampNeg (8 : Int32)))) r28 (va_cpy (cI (uA C17 r21 (va_cpy (cI C17 r19) (cI C17 r21) (Int32.toNatClampNeg (0 : Int32)) (Int32.toNatClampNeg (0 : Int32)) (Int32.toNatClampNeg (8 : Int32)))) r26) (cI (uA C17 r21 (va_cpy (cI C17 r19) (cI C17 r21) (Int32.toNatClampNeg (0 : Int32)) (Int32.toNatClampNeg (0 : Int32)) (Int32.toNatClampNeg (8 : Int32)))) r28) (Int32.toNatClampNeg (0 : Int32)) (Int32.toNatClampNeg (0 : Int32)) (Int32.toNatClampNeg (8 : Int32)))) r33) (cI (uA (uA C17 r21 (va_cpy (cI C17 r19) (cI C17 r21) (Int32.toNatClampNeg (0 : Int32)) (Int32.toNatClampNeg (0 : Int32)) (Int32.toNatClampNeg (8 : Int32)))) r28 (va_cpy (cI (uA C17 r21 (va_cpy (cI C17 r19) (cI C17 r21) (Int32.toNatClampNeg (0 : Int32)) (Int32.toNatClampNeg (0 : Int32)) (Int32.toNatClampNeg (8 : Int32)))) r26) (cI (uA C17 r21 (va_cpy (cI C17 r19) (cI C17 r21) (Int32.toNatClampNeg (0 : Int32)) (Int32.toNatClampNeg (0 : Int32)) (Int32.toNatClampNeg (8 : Int32)))) r28) (Int32.toNatClampNeg (0 : Int32)) (Int32.toNatClampNeg (0 : Int32)) (Int32.toNatClampNeg (8 : Int32)))) r35) (Int32.toNatClampNeg (0 : Int32)) (Int32.toNatClampNeg (0 : Int32)) (Int32.toNatClampNeg (8 : Int32)))) a0 5 (cI (uA (uA (uA C17 r21 (va_cpy (cI C17 r19) (cI C17 r21) (Int32.toNatClampNeg (0 : Int32)) (Int32.toNatClampNeg (0 : Int32)) (Int32.toNatClampNeg (8 : Int32)))) r28 (va_cpy (cI (uA C17 r21 (va_cpy (cI C17 r19) (cI C17 r21) (Int32.toNatClampNeg (0 : Int32)) (Int32.toNatClampNeg (0 : Int32)) (Int32.toNatClampNeg (8 : Int32)))) r26) (cI (uA C17 r21 (va_cpy (cI C17 r19) (cI C17 r21) (Int32.toNatClampNeg (0 : Int32)) (Int32.toNatClampNeg (0 : Int32)) (Int32.toNatClampNeg (8 : Int32)))) r28) (Int32.toNatClampNeg (0 : Int32)) (Int32.toNatClampNeg (0 : Int32)) (Int32.toNatClampNeg (8 : Int32)))) r35 (va_cpy (cI (uA (uA C17 r21 (va_cpy (cI C17 r19) (cI C17 r21) (Int32.toNatClampNeg (0 : Int32)) (Int32.toNatClampNeg (0 : Int32)) (Int32.toNatClampNeg (8 : Int32)))) r28 (va_cpy (cI (uA C17 r21 (va_cpy (cI C17 r19) (cI C17 r21) (Int32.toNatClampNeg (0 : Int32)) (Int32.toNatClampNeg (0 : Int32)) (Int32.toNatClampNeg (8 : Int32)))) r26) (cI (uA C17 r21 (va_cpy (cI C17 r19) (cI C17 r21) (Int32.toNatClampNeg (0 : Int32)) (Int32.toNatClampNeg (0 : Int32)) (Int32.toNatClampNeg (8 : Int32)))) r28) (Int32.toNatClampNeg (0 : Int32)) (Int32.toNatClampNeg (0 : Int32)) (Int32.toNatClampNeg (8 : Int32)))) r33) (cI (uA (uA C17 r21 (va_cpy (cI C17 r19) (cI C17 r21) (Int32.toNatClampNeg (0 : Int32)) (Int32.toNatClampNeg (0 : Int32)) (Int32.toNatClampNeg (8 : Int32)))) r28 (va_cpy (cI (uA C17 r21 (va_cpy (cI C17 r19) (cI C17 r21) (Int32.toNatClampNeg (0 : Int32)) (Int32.toNatClampNeg (0 : Int32)) (Int32.toNatClampNeg (8 : Int32)))) r26) (cI (uA C17 r21 (va_cpy (cI C17 r19) (cI C17 r21) (Int32.toNatClampNeg (0 : Int32)) (Int32.toNatClampNeg (0 : Int32)) (Int32.toNatClampNeg (8 : Int32)))) r28) (Int32.toNatClampNeg (0 : Int32)) (Int32.toNatClampNeg (0 : Int32)) (Int32.toNatClampNeg (8 : Int32)))) r35) (Int32.toNatClampNeg (0 : Int32)) (Int32.toNatClampNeg (0 : Int32)) (Int32.toNatClampNeg (8 : Int32)))) a1 5)) a0 6).bind (fun r42 => (cP (uI (uA (uA (uA C17 r21 (va_cpy (cI C17 r19) (cI C17 r21) (Int32.toNatClampNeg (0 : Int32)) (Int32.toNatClampNeg (0 : Int32)) (Int32.toNatClampNeg (8 : Int32)))) r28 (va_cpy (cI (uA C17 r21 (va_cpy (cI C17 r19) (cI C17 r21) (Int32.toNatClampNeg (0 : Int32)) (Int32.toNatClampNeg (0 : Int32)) (Int32.toNatClampNeg (8 : Int32)))) r26) (cI (uA C17 r21 (va_cpy (cI C17 r19) (cI C17 r21) (Int32.toNatClampNeg (0 : Int32)) (Int32.toNatClampNeg (0 : Int32)) (Int32.toNatClampNeg (8 : Int32)))) r28) (Int32.toNatClampNeg (0 : Int32)) (Int32.toNatClampNeg (0 : Int32)) (Int32.toNatClampNeg (8 : Int32)))) r35 (va_cpy (cI (uA (uA C17 r21 (va_cpy (cI C17 r19) (cI C17 r21) (Int32.toNatClampNeg (0 : Int32)) (Int32.toNatClampNeg (0 : Int32)) (Int32.toNatClampNeg (8 : Int32)))) r28 (va_cpy (cI (uA C17 r21 (va_cpy (cI C17 r19) (cI C17 r21) (Int32.toNatClampNeg (0 : Int32)) (Int32.toNatClampNeg (0 : Int32)) (Int32.toNatClampNeg (8 : Int32)))) r26) (cI (uA C17 r21 (va_cpy (cI C17 r19) (cI C17 r21) (Int32.toNatClampNeg (0 : Int32)) (Int32.toNatClampNeg (0 : Int32)) (Int32.toNatClampNeg (8 : Int32)))) r28) (Int32.toNatClampNeg (0 : Int32)) (Int32.toNatClampNeg (0 : Int32)) (Int32.toNatClampNeg (8 : Int32)))) r33) (cI (uA (uA C17 r21 (va_cpy (cI C17 r19) (cI C17 r21) (Int32.toNatClampNeg (0 : Int32)) (Int32.toNatClampNeg (0 : Int32)) (Int32.toNatClampNeg (8 : Int32)))) r28 (va_cpy (cI (uA C17 r21 (va_cpy (cI C17 r19) (cI C17 r21) (Int32.toNatClampNeg (0 : Int32)) (Int32.toNatClampNeg (0 : Int32)) (Int32.toNatClampNeg (8 : Int32)))) r26) (cI (uA C17 r21 (va_cpy (cI C17 r19) (cI C17 r21) (Int32.toNatClampNeg (0 : Int32)) (Int32.toNatClampNeg (0 : Int32)) (Int32.toNatClampNeg (8 : Int32)))) r28) (Int32.toNatClampNeg (0 : Int32)) (Int32.toNatClampNeg (0 : Int32)) (Int32.toNatClampNeg (8 : Int32)))) r35) (Int32.toNatClampNeg (0 : Int32)) (Int32.toNatClampNeg (0 : Int32)) (Int32.toNatClampNeg (8 : Int32)))) a0 5 (cI (uA (uA (uA C17 r21 (va_cpy (cI C17 r19) (cI C17 r21) (Int32.toNatClampNeg (0 : Int32)) (Int32.toNatClampNeg (0 : Int32)) (Int32.toNatClampNeg (8 : Int32)))) r28 (va_cpy (cI (uA C17 r21 (va_cpy (cI C17 r19) (cI C17 r21) (Int32.toNatClampNeg (0 : Int32)) (Int32.toNatClampNeg (0 : Int32)) (Int32.toNatClampNeg (8 : Int32)))) r26) (cI (uA C17 r21 (va_cpy (cI C17 r19) (cI C17 r21) (Int32.toNatClampNeg (0 : Int32)) (Int32.toNatClampNeg (0 : Int32)) (Int32.toNatClampNeg (8 : Int32)))) r28) (Int32.toNatClampNeg (0 : Int32)) (Int32.toNatClampNeg (0 : Int32)) (Int32.toNatClampNeg (8 : Int32)))) r35 (va_cpy (cI (uA (uA C17 r21 (va_cpy (cI C17 r19) (cI C17 r21) (Int32.toNatClampNeg (0 : Int32)) (Int32.toNatClampNeg (0 : Int32)) (Int32.toNatClampNeg (8 : Int32)))) r28 (va_cpy (cI (uA C17 r21 (va_cpy (cI C17 r19) (cI C17 r21) (Int32.toNatClampNeg (0 : Int32)) (Int32.toNatClampNeg (0 : Int32)) (Int32.toNatClampNeg (8 : Int32)))) r26) (cI (uA C17 r21 (va_cpy (cI C17 r19) (cI C17 r21) (Int32.toNatClampNeg (0 : Int32)) (Int32.toNatClampNeg (0 : Int32)) (Int32.toNatClampNeg (8 : Int32)))) r28) (Int32.toNatClampNeg (0 : Int32)) (Int32.toNatClampNeg (0 : Int32)) (Int32.toNatClampNeg (8 : Int32)))) r33) (cI (uA (uA C17 r21 (va_cpy (cI C17 r19) (cI C17 r21) (Int32.toNatClampNeg (0 : Int32)) (Int32.toNatClampNeg (0 : Int32)) (Int32.toNatClampNeg (8 : Int32)))) r28 (va_cpy (cI (uA C17 r21 (va_cpy (cI C17 r19) (cI C17 r21) (Int32.toNatClampNeg (0 : Int32)) (Int32.toNatClampNeg (0 : Int32)) (Int32.toNatClampNeg (8 : Int32)))) r26) (cI (uA C17 r21 (va_cpy (cI C17 r19) (cI C17 r21) (Int32.toNatClampNeg (0 : Int32)) (Int32.toNatClampNeg (0 : Int32)) (Int32.toNatClampNeg (8 : Int32)))) r28) (Int32.toNatClampNeg (0 : Int32)) (Int32.toNatClampNeg (0 : Int32)) (Int32.toNatClampNeg (8 : Int32)))) r35) (Int32.toNatClampNeg (0 : Int32)) (Int32.toNatClampNeg (0 : Int32)) (Int32.toNatClampNeg (8 : Int32)))) a1 5)) a0 6).bind (fun r44 => if isK r44 12 = true then if isK r40 12 = true then if isK r42 12 = true then if ¬ (0 : Int32) < 0 ∧ ¬ (0 : Int32) < 0 ∧ ¬ (Int32.ofNat (aLen r44)) < 0 ∧ Int32.toNatClampNeg (0 : Int32) + Int32.toNatClampNeg (Int32.ofNat (aLen r44)) ≤ aLen r40 ∧ Int32.toNatClampNeg (0 : Int32) + Int32.toNatClampNeg (Int32.ofNat (aLen r44)) ≤ aLen r42 then some ((), uA (uI (uA (uA (uA C17 r21 (va_cpy (cI C17 r19) (cI C17 r21) (Int32.toNatClampNeg (0 : Int32)) (Int32.toNatClampNeg (0 : Int32)) (Int32.toNatClampNeg (8 : Int32)))) r28 (va_cpy (cI (uA C17 r21 (va_cpy (cI C17 r19) (cI C17 r21) (Int32.toNatClampNeg (0 : Int32)) (Int32.toNatClampNeg (0 : Int32)) (Int32.toNatClampNeg (8 : Int32)))) r26) (cI (uA C17 r21 (va_cpy (cI C17 r19) (cI C17 r21) (Int32.toNatClampNeg (0 : Int32)) (Int32.toNatClampNeg (0 : Int32)) (Int32.toNatClampNeg (8 : Int32)))) r28) (Int32.toNatClampNeg (0 : Int32)) (Int32.toNatClampNeg (0 : Int32)) (Int32.toNatClampNeg (8 : Int32)))) r35 (va_cpy (cI (uA (uA C17 r21 (va_cpy (cI C17 r19) (cI C17 r21) (Int32.toNatClampNeg (0 : Int32)) (Int32.toNatClampNeg (0 : Int32)) (Int32.toNatClampNeg (8 : Int32)))) r28 (va_cpy (cI (uA C17 r21 (va_cpy (cI C17 r19) (cI C17 r21) (Int32.toNatClampNeg (0 : Int32)) (Int32.toNatClampNeg (0 : Int32)) (Int32.toNatClampNeg (8 : Int32)))) r26) (cI (uA C17 r21 (va_cpy (cI C17 r19) (cI C17 r21) (Int32.toNatClampNeg (0 : Int32)) (Int32.toNatClampNeg (0 : Int32)) (Int32.toNatClampNeg (8 : Int32)))) r28) (Int32.toNatClampNeg (0 : Int32)) (Int32.toNatClampNeg (0 : Int32)) (Int32.toNatClampNeg (8 : Int32)))) r33) (cI (uA (uA C17 r21 (va_cpy (cI C17 r19) (cI C17 r21) (Int32.toNatClampNeg (0 : Int32)) (Int32.toNatClampNeg (0 : Int32)) (Int32.toNatClampNeg (8 : Int32)))) r28 (va_cpy (cI (uA C17 r21 (va_cpy (cI C17 r19) (cI C17 r21) (Int32.toNatClampNeg (0 : Int32)) (Int32.toNatClampNeg (0 : Int32)) (Int32.toNatClampNeg (8 : Int32)))) r26) (cI (uA C17 r21 (va_cpy (cI C17 r19) (cI C17 r21) (Int32.toNatClampNeg (0 : Int32)) (Int32.toNatClampNeg (0 : Int32)) (Int32.toNatClampNeg (8 : Int32)))) r28) (Int32.toNatClampNeg (0 : Int32)) (Int32.toNatClampNeg (0 : Int32)) (Int32.toNatClampNeg (8 : Int32)))) r35) (Int32.toNatClampNeg (0 : Int32)) (Int32.toNatClampNeg (0 : Int32)) (Int32.toNatClampNeg (8 : Int32)))) a0 5 (cI (uA (uA (uA C17 r21 (va_cpy (cI C17 r19) (cI C17 r21) (Int32.toNatClampNeg (0 : Int32)) (Int32.toNatClampNeg (0 : Int32)) (Int32.toNatClampNeg (8 : Int32)))) r28 (va_cpy (cI (uA C17 r21 (va_cpy (cI C17 r19) (cI C17 r21) (Int32.toNatClampNeg (0 : Int32)) (Int32.toNatClampNeg (0 : Int32)) (Int32.toNatClampNeg (8 : Int32)))) r26) (cI (uA C17 r21 (va_cpy (cI C17 r19) (cI C17 r21) (Int32.toNatClampNeg (0 : Int32)) (Int32.toNatClampNeg (0 : Int32)) (Int32.toNatClampNeg (8 : Int32)))) r28) (Int32.toNatClampNeg (0 : Int32)) (Int32.toNatClampNeg (0 : Int32)) (Int32.toNatClampNeg (8 : Int32)))) r35 (va_cpy (cI (uA (uA C17 r21 (va_cpy (cI C17 r19) (cI C17 r21) (Int32.toNatClampNeg (0 : Int32)) (Int32.toNatClampNeg (0 : Int32)) (Int32.toNatClampNeg (8 : Int32)))) r28 (va_cpy (cI (uA C17 r21 (va_cpy (cI C17 r19) (cI C17 r21) (Int32.toNatClampNeg (0 : Int32)) (Int32.toNatClampNeg (0 : Int32)) (Int32.toNatClampNeg (8 : Int32)))) r26) (cI (uA C17 r21 (va_cpy (cI C17 r19) (cI C17 r21) (Int32.toNatClampNeg (0 : Int32)) (Int32.toNatClampNeg (0 : Int32)) (Int32.toNatClampNeg (8 : Int32)))) r28) (Int32.toNatClampNeg (0 : Int32)) (Int32.toNatClampNeg (0 : Int32)) (Int32.toNatClampNeg (8 : Int32)))) r33) (cI (uA (uA C17 r21 (va_cpy (cI C17 r19) (cI C17 r21) (Int32.toNatClampNeg (0 : Int32)) (Int32.toNatClampNeg (0 : Int32)) (Int32.toNatClampNeg (8 : Int32)))) r28 (va_cpy (cI (uA C17 r21 (va_cpy (cI C17 r19) (cI C17 r21) (Int32.toNatClampNeg (0 : Int32)) (Int32.toNatClampNeg (0 : Int32)) (Int32.toNatClampNeg (8 : Int32)))) r26) (cI (uA C17 r21 (va_cpy (cI C17 r19) (cI C17 r21) (Int32.toNatClampNeg (0 : Int32)) (Int32.toNatClampNeg (0 : Int32)) (Int32.toNatClampNeg (8 : Int32)))) r28) (Int32.toNatClampNeg (0 : Int32)) (Int32.toNatClampNeg (0 : Int32)) (Int32.toNatClampNeg (8 : Int32)))) r35) (Int32.toNatClampNeg (0 : Int32)) (Int32.toNatClampNeg (0 : Int32)) (Int32.toNatClampNeg (8 : Int32)))) a1 5)) r42 (va_cpy (cI (uI (uA (uA (uA C17 r21 (va_cpy (cI C17 r19) (cI C17 r21) (Int32.toNatClampNeg (0 : Int32)) (Int32.toNatClampNeg (0 : Int32)) (Int32.toNatClampNeg (8 : Int32)))) r28 (va_cpy (cI (uA C17 r21 (va_cpy (cI C17 r19) (cI C17 r21) (Int32.toNatClampNeg (0 : Int32)) (Int32.toNatClampNeg (0 : Int32)) (Int32.toNatClampNeg (8 : Int32)))) r26) (cI (uA C17 r21 (va_cpy (cI C17 r19) (cI C17 r21) (Int32.toNatClampNeg (0 : Int32)) (Int32.toNatClampNeg (0 : Int32)) (Int32.toNatClampNeg (8 : Int32)))) r28) (Int32.toNatClampNeg (0 : Int32)) (Int32.toNatClampNeg (0 : Int32)) (Int32.toNatClampNeg (8 : Int32)))) r35 (va_cpy (cI (uA (uA C17 r21 (va_cpy (cI C17 r19) (cI C17 r21) (Int32.toNatClampNeg (0 : Int32)) (Int32.toNatClampNeg (0 : Int32)) (Int32.toNatClampNeg (8 : Int32)))) r28 (va_cpy (cI (uA C17 r21 (va_cpy (cI C17 r19) (cI C17 r21) (Int32.toNatClampNeg (0 : Int32)) (Int32.toNatClampNeg (0 : Int32)) (Int32.toNatClampNeg (8 : Int32)))) r26) (cI (uA C17 r21 (va_cpy (cI C17 r19) (cI C17 r21) (Int32.toNatClampNeg (0 : Int32)) (Int32.toNatClampNeg (0 : Int32)) (Int32.toNatClampNeg (8 : Int32)))) r28) (Int32.toNatClampNeg (0 : Int32)) (Int32.toNatClampNeg (0 : Int32)) (Int32.toNatClampNeg (8 : Int32)))) r33) (cI (uA (uA C17 r21 (va_cpy (cI C17 r19) (cI C17 r21) (Int32.toNatClampNeg (0 : Int32)) (Int32.toNatClampNeg (0 : Int32)) (Int32.toNatClampNeg (8 : Int32)))) r28 (va_cpy (cI (uA C17 r21 (va_cpy (cI C17 r19) (cI C17 r21) (Int32.toNatClampNeg (0 : Int32)) (Int32.toNatClampNeg (0 : Int32)) (Int32.toNatClampNeg (8 : Int32)))) r26) (cI (uA C17 r21 (va_cpy (cI C17 r19) (cI C17 r21) (Int32.toNatClampNeg (0 : Int32)) (Int32.toNatClampNeg (0 : Int32)) (Int32.toNatClampNeg (8 : Int32)))) r28) (Int32.toNatClampNeg (0 : Int32)) (Int32.toNatClampNeg (0 : Int32)) (Int32.toNatClampNeg (8 : Int32)))) r35) (Int32.toNatClampNeg (0 : Int32)) (Int32.toNatClampNeg (0 : Int32)) (Int32.toNatClampNeg (8 : Int32)))) a0 5 (cI (uA (uA (uA C17 r21 (va_cpy (cI C17 r19) (cI C17 r21) (Int32.toNatClampNeg (0 : Int32)) (Int32.toNatClampNeg (0 : Int32)) (Int32.toNatClampNeg (8 : Int32)))) r28 (va_cpy (cI (uA C17 r21 (va_cpy (cI C17 r19) (cI C17 r21) (Int32.toNatClampNeg (0 : Int32)) (Int32.toNatClampNeg (0 : Int32)) (Int32.toNatClampNeg (8 : Int32)))) r26) (cI (uA C17 r21 (va_cpy (cI C17 r19) (cI C17 r21) (Int32.toNatClampNeg (0 : Int32)) (Int32.toNatClampNeg (0 : Int32)) (Int32.toNatClampNeg (8 : Int32)))) r28) (Int32.toNatClampNeg (0 : Int32)) (Int32.toNatClampNeg (0 : Int32)) (Int32.toNatClampNeg (8 : Int32)))) r35 (va_cpy (cI (uA (uA C17 r21 (va_cpy (cI C17 r19) (cI C17 r21) (Int32.toNatClampNeg (0 : Int32)) (Int32.toNatClampNeg (0 : Int32)) (Int32.toNatClampNeg (8 : Int32)))) r28 (va_cpy (cI (uA C17 r21 (va_cpy (cI C17 r19) (cI C17 r21) (Int32.toNatClampNeg (0 : Int32)) (Int32.toNatClampNeg (0 : Int32)) (Int32.toNatClampNeg (8 : Int32)))) r26) (cI (uA C17 r21 (va_cpy (cI C17 r19) (cI C17 r21) (Int32.toNatClampNeg (0 : Int32)) (Int32.toNatClampNeg (0 : Int32)) (Int32.toNatClampNeg (8 : Int32)))) r28) (Int32.toNatClampNeg (0 : Int32)) (Int32.toNatClampNeg (0 : Int32)) (Int32.toNatClampNeg (8 : Int32)))) r33) (cI (uA (uA C17 r21 (va_cpy (cI C17 r19) (cI C17 r21) (Int32.toNatClampNeg (0 : Int32)) (Int32.toNatClampNeg (0 : Int32)) (Int32.toNatClampNeg (8 : Int32)))) r28 (va_cpy (cI (uA C17 r21 (va_cpy (cI C17 r19) (cI C17 r21) (Int32.toNatClampNeg (0 : Int32)) (Int32.toNatClampNeg (0 : Int32)) (Int32.toNatClampNeg (8 : Int32)))) r26) (cI (uA C17 r21 (va_cpy (cI C17 r19) (cI C17 r21) (Int32.toNatClampNeg (0 : Int32)) (Int32.toNatClampNeg (0 : Int32)) (Int32.toNatClampNeg (8 : Int32)))) r28) (Int32.toNatClampNeg (0 : Int32)) (Int32.toNatClampNeg (0 : Int32)) (Int32.toNatClampNeg (8 : Int32)))) r35) (Int32.toNatClampNeg (0 : Int32)) (Int32.toNatClampNeg (0 : Int32)) (Int32.toNatClampNeg (8 : Int32)))) a1 5)) r40) (cI (uI (uA (uA (uA C17 r21 (va_cpy (cI C17 r19) (cI C17 r21) (Int32.toNatClampNeg (0 : Int32)) (Int32.toNatClampNeg (0 : Int32)) (Int32.toNatClampNeg (8 : Int32)))) r28 (va_cpy (cI (uA C17 r21 (va_cpy (cI C17 r19) (cI C17 r21) (Int32.toNatClampNeg (0 : Int32)) (Int32.toNatClampNeg (0 : Int32)) (Int32.toNatClampNeg (8 : Int32)))) r26) (cI (uA C17 r21 (va_cpy (cI C17 r19) (cI C17 r21) (Int32.toNatClampNeg (0 : Int32)) (Int32.toNatClampNeg (0 : Int32)) (Int32.toNatClampNeg (8 : Int32)))) r28) (Int32.toNatClampNeg (0 : Int32)) (Int32.toNatClampNeg (0 : Int32)) (Int32.toNatClampNeg (8 : Int32)))) r35 (va_cpy (cI (uA (uA C17 r21 (va_cpy (cI C17 r19) (cI C17 r21) (Int32.toNatClampNeg (0 : Int32)) (Int32.toNatClampNeg (0 : Int32)) (Int32.toNatClampNeg (8 : Int32)))) r28 (va_cpy (cI (uA C17 r21 (va_cpy (cI C17 r19) (cI C17 r21) (Int32.toNatClampNeg (0 : Int32)) (Int32.toNatClampNeg (0 : Int32)) (Int32.toNatClampNeg (8 : Int32)))) r26) (cI (uA C17 r21 (va_cpy (cI C17 r19) (cI C17 r21) (Int32.toNatClampNeg (0 : Int32)) (Int32.toNatClampNeg (0 : Int32)) (Int32.toNatClampNeg (8 : Int32)))) r28) (Int32.toNatClampNeg (0 : Int32)) (Int32.toNatClampNeg (0 : Int32)) (Int32.toNatClampNeg (8 : Int32)))) r33) (cI (uA (uA C17 r21 (va_cpy (cI C17 r19) (cI C17 r21) (Int32.toNatClampNeg (0 : Int32)) (Int32.toNatClampNeg (0 : Int32)) (Int32.toNatClampNeg (8 : Int32)))) r28 (va_cpy (cI (uA C17 r21 (va_cpy (cI C17 r19) (cI C17 r21) (Int32.toNatClampNeg (0 : Int32)) (Int32.toNatClampNeg (0 : Int32)) (Int32.toNatClampNeg (8 : Int32)))) r26) (cI (uA C17 r21 (va_cpy (cI C17 r19) (cI C17 r21) (Int32.toNatClampNeg (0 : Int32)) (Int32.toNatClampNeg (0 : Int32)) (Int32.toNatClampNeg (8 : Int32)))) r28) (Int32.toNatClampNeg (0 : Int32)) (Int32.toNatClampNeg (0 : Int32)) (Int32.toNatClampNeg (8 : Int32)))) r35) (Int32.toNatClampNeg (0 : Int32)) (Int32.toNatClampNeg (0 : Int32)) (Int32.toNatClampNeg (8 : Int32)))) a0 5 (cI (uA (uA (uA C17 r21 (va_cpy (cI C17 r19) (cI C17 r21) (Int32.toNatClampNeg (0 : Int32)) (Int32.toNatClampNeg (0 : Int32)) (Int32.toNatClampNeg (8 : Int32)))) r28 (va_cpy (cI (uA C17 r21 (va_cpy (cI C17 r19) (cI C17 r21) (Int32.toNatClampNeg (0 : Int32)) (Int32.toNatClampNeg (0 : Int32)) (Int32.toNatClampNeg (8 : Int32)))) r26) (cI (uA C17 r21 (va_cpy (cI C17 r19) (cI C17 r21) (Int32.toNatClampNeg (0 : Int32)) (Int32.toNatClampNeg (0 : Int32)) (Int32.toNatClampNeg (8 : Int32)))) r28) (Int32.toNatClampNeg (0 : Int32)) (Int32.toNatClampNeg (0 : Int32)) (Int32.toNatClampNeg (8 : Int32)))) r35 (va_cpy (cI (uA (uA C17 r21 (va_cpy (cI C17 r19) (cI C17 r21) (Int32.toNatClampNeg (0 : Int32)) (Int32.toNatClampNeg (0 : Int32)) (Int32.toNatClampNeg (8 : Int32)))) r28 (va_cpy (cI (uA C17 r21 (va_cpy (cI C17 r19) (cI C17 r21) (Int32.toNatClampNeg (0 : Int32)) (Int32.toNatClampNeg (0 : Int32)) (Int32.toNatClampNeg (8 : Int32)))) r26) (cI (uA C17 r21 (va_cpy (cI C17 r19) (cI C17 r21) (Int32.toNatClampNeg (0 : Int32)) (Int32.toNatClampNeg (0 : Int32)) (Int32.toNatClampNeg (8 : Int32)))) r28) (Int32.toNatClampNeg (0 : Int32)) (Int32.toNatClampNeg (0 : Int32)) (Int32.toNatClampNeg (8 : Int32)))) r33) (cI (uA (uA C17 r21 (va_cpy (cI C17 r19) (cI C17 r21) (Int32.toNatClampNeg (0 : Int32)) (Int32.toNatClampNeg (0 : Int32)) (Int32.toNatClampNeg (8 : Int32)))) r28 (va_cpy (cI (uA C17 r21 (va_cpy (cI C17 r19) (cI C17 r21) (Int32.toNatClampNeg (0 : Int32)) (Int32.toNatClampNeg (0 : Int32)) (Int32.toNatClampNeg (8 : Int32)))) r26) (cI (uA C17 r21 (va_cpy (cI C17 r19) (cI C17 r21) (Int32.toNatClampNeg (0 : Int32)) (Int32.toNatClampNeg (0 : Int32)) (Int32.toNatClampNeg (8 : Int32)))) r28) (Int32.toNatClampNeg (0 : Int32)) (Int32.toNatClampNeg (0 : Int32)) (Int32.toNatClampNeg (8 : Int32)))) r35) (Int32.toNatClampNeg (0 : Int32)) (Int32.toNatClampNeg (0 : Int32)) (Int32.toNatClampNeg (8 : Int32)))) a1 5)) r42) (Int32.toNatClampNeg (0 : Int32)) (Int32.toNatClampNeg (0 : Int32)) (Int32.toNatClampNeg (Int32.ofNat (aLen r44))))) else none else none else none else none))) else none else none else none)) else none else none else none)) else none else none else none))) else none))) else none) else none) else none
set_option maxRecDepth 20000 in
set_option maxHeartbeats 4000000 in
theorem t_110 {n : Nat} {a0 : Nat} {a1 : Nat} {C : AmC} {r : Unit} {C' : AmC} (h : f_110 n a0 a1 C = some (r, C')) : En false 110 0 [(0, .ref a0), (1, .ref a1)] [] (mkM C) (.inl none) (mkM C') := by
  unfold f_110 at h
  refine en_aload rfl rfl ?_
  obtain ⟨g1, h⟩ := gd h
  obtain ⟨r2, e3, h⟩ := gb h
  refine ec_getP (ci := 7) (j := 0) ⟨rfl, rfl, rfl⟩ g1 e3 rfl ?_
  refine en_aload rfl rfl ?_
  obtain ⟨g4, h⟩ := gd h
  obtain ⟨r5, e6, h⟩ := gb h
  refine ec_getP (ci := 7) (j := 0) ⟨rfl, rfl, rfl⟩ g4 e6 rfl ?_
  obtain ⟨g7, h⟩ := gd h
  obtain ⟨⟨q8, C9⟩, e10, h⟩ := gb h
  dsimp only at h
  refine ec_callV0 (k' := 72) (n := 2) (rc := 5) (a := r2) (as := [.ref r5]) ⟨rfl, rfl⟩ rfl rfl (Nat.le_of_ble_eq_true rfl) (Nat.le_of_ble_eq_true rfl) (Nat.le_of_ble_eq_true rfl) g7 rfl (t_72 e10) ?_
  refine en_aload rfl rfl ?_
  obtain ⟨r11, e12, h⟩ := gb h
  refine ec_getP (ci := 7) (j := 1) ⟨rfl, rfl, rfl⟩ g1 e12 rfl ?_
  refine en_aload rfl rfl ?_
  obtain ⟨r13, e14, h⟩ := gb h
  refine ec_getP (ci := 7) (j := 1) ⟨rfl, rfl, rfl⟩ g4 e14 rfl ?_
  obtain ⟨g15, h⟩ := gd h
  obtain ⟨⟨q16, C17⟩, e18, h⟩ := gb h
  dsimp only at h
  refine ec_callV0 (k' := 10) (n := 2) (rc := 1) (a := r11) (as := [.ref r13]) ⟨rfl, rfl⟩ rfl rfl (Nat.le_of_ble_eq_true rfl) (Nat.le_of_ble_eq_true rfl) (Nat.le_of_ble_eq_true rfl) g15 rfl (t_10 e18) ?_
  refine en_aload rfl rfl ?_
  obtain ⟨r19, e20, h⟩ := gb h
  refine ec_getP (ci := 7) (j := 2) ⟨rfl, rfl, rfl⟩ g4 e20 rfl ?_
  refine ec_iconst cst_0 rfl ?_
  refine en_aload rfl rfl ?_
  obtain ⟨r21, e22, h⟩ := gb h
  refine ec_getP (ci := 7) (j := 2) ⟨rfl, rfl, rfl⟩ g1 e22 rfl ?_
  refine ec_iconst cst_0 rfl ?_
  refine ec_iconst cst_8 rfl ?_
  obtain ⟨g23, h⟩ := gd h
  obtain ⟨g24, h⟩ := gd h
  obtain ⟨g25, h⟩ := gd h
  refine ec_copy g23 g24 g25 (Nat.le_of_ble_eq_true rfl) rfl ?_
  refine en_aload rfl rfl ?_
  obtain ⟨r26, e27, h⟩ := gb h
  refine ec_getP (ci := 7) (j := 3) ⟨rfl, rfl, rfl⟩ g4 e27 rfl ?_
  refine ec_iconst cst_0 rfl ?_
  refine en_aload rfl rfl ?_
  obtain ⟨r28, e29, h⟩ := gb h
  refine ec_getP (ci := 7) (j := 3) ⟨rfl, rfl, rfl⟩ g1 e29 rfl ?_
  refine ec_iconst cst_0 rfl ?_
  refine ec_iconst cst_8 rfl ?_
  obtain ⟨g30, h⟩ := gd h
  obtain ⟨g31, h⟩ := gd h
  obtain ⟨g32, h⟩ := gd h
  refine ec_copy g30 g31 g32 (Nat.le_of_ble_eq_true rfl) rfl ?_
  refine en_aload rfl rfl ?_
  obtain ⟨r33, e34, h⟩ := gb h
  refine ec_getP (ci := 7) (j := 4) ⟨rfl, rfl, rfl⟩ g4 e34 rfl ?_
  refine ec_iconst cst_0 rfl ?_
  refine en_aload rfl rfl ?_
  obtain ⟨r35, e36, h⟩ := gb h
  refine ec_getP (ci := 7) (j := 4) ⟨rfl, rfl, rfl⟩ g1 e36 rfl ?_
  refine ec_iconst cst_0 rfl ?_
  refine ec_iconst cst_8 rfl ?_
  obtain ⟨g37, h⟩ := gd h
  obtain ⟨g38, h⟩ := gd h
  obtain ⟨g39, h⟩ := gd h
  refine ec_copy g37 g38 g39 (Nat.le_of_ble_eq_true rfl) rfl ?_
  refine en_aload rfl rfl ?_
  refine en_aload rfl rfl ?_
  refine ec_getI (ci := 7) (j := 5) ⟨rfl, rfl, rfl⟩ g4 rfl ?_
  refine ec_putI (ci := 7) (j := 5) ⟨rfl, rfl, rfl⟩ g1 rfl ?_
  refine en_aload rfl rfl ?_
  obtain ⟨r40, e41, h⟩ := gb h
  refine ec_getP (ci := 7) (j := 6) ⟨rfl, rfl, rfl⟩ g4 e41 rfl ?_
  refine ec_iconst cst_0 rfl ?_
  refine en_aload rfl rfl ?_
  obtain ⟨r42, e43, h⟩ := gb h
  refine ec_getP (ci := 7) (j := 6) ⟨rfl, rfl, rfl⟩ g1 e43 rfl ?_
  refine ec_iconst cst_0 rfl ?_
  refine en_aload rfl rfl ?_
  obtain ⟨r44, e45, h⟩ := gb h
  refine ec_getP (ci := 7) (j := 6) ⟨rfl, rfl, rfl⟩ g1 e45 rfl ?_
  obtain ⟨g46, h⟩ := gd h
  refine ec_alen g46 (by decide) rfl ?_
  obtain ⟨g47, h⟩ := gd h
  obtain ⟨g48, h⟩ := gd h
  obtain ⟨g49, h⟩ := gd h
  refine ec_copy g47 g48 g49 (Nat.le_of_ble_eq_true rfl) rfl ?_
  cases h
  exact en_vret rfl
/-- BulkWriter$State.addSeen(III)V -/
def f_111 (n : Nat) (a0 : Nat) (a1 : Int32) (a2 : Int32) (a3 : Int32) (C : AmC) : Option (Unit × AmC) := if isK a0 7 = true then (if (cI C a0 5) < 0 then some ((), C) else (if (cI C a0 5) < (8 : Int32) then (cP C a0 2).bind (fun r4 => if isK r4 12 = true then if amIn (cI C a0 5) (aLen r4) = true then (cP (uI C r4 (Int32.toNatClampNeg (cI C a0 5)) a1) a0 3).bind (fun r8 => if isK r8 12 = true then if amIn (cI (uI C r4 (Int32.toNatClampNeg (cI C a0 5)) a1) a0 5) (aLen r8) = true then (cP (uI (uI C r4 (Int32.toNatClampNeg (cI C a0 5)) a1) r8 (Int32.toNatClampNeg (cI (uI C r4 (Int32.toNatClampNeg (cI C a0 5)) a1) a0 5)) a2) a0 4).bind (fun r12 => if isK r12 12 = true then if amIn (cI (uI (uI C r4 (Int32.toNatClampNeg (cI C a0 5)) a1) r8 (Int32.toNatClampNeg (cI (uI C r4 (Int32.toNatClampNeg (cI C a0 5)) a1) a0 5)) a2) a0 5) (aLen r12) = true then some ((), uI (uI (uI (uI C r4 (Int32.toNatClampNeg (cI C a0 5)) a1) r8 (Int32.toNatClampNeg (cI (uI C r4 (Int32.toNatClampNeg (cI C a0 5)) a1) a0 5)) a2) r12 (Int32.toNatClampNeg (cI (uI (uI C r4 (Int32.toNatClampNeg (cI C a0 5)) a1) r8 (Int32.toNatClampNeg (cI (uI C r4 (Int32.toNatClampNeg (cI C a0 5)) a1) a0 5)) a2) a0 5)) a3) a0 5 ((cI (uI (uI (uI C r4 (Int32.toNatClampNeg (cI C a0 5)) a1) r8 (Int32.toNatClampNeg (cI (uI C r4 (Int32.toNatClampNeg (cI C a0 5)) a1) a0 5)) a2) r12 (Int32.toNatClampNeg (cI (uI (uI C r4 (Int32.toNatClampNeg (cI C a0 5)) a1) r8 (Int32.toNatClampNeg (cI (uI C r4 (Int32.toNatClampNeg (cI C a0 5)) a1) a0 5)) a2) a0 5)) a3) a0 5) + (1 : Int32))) else none else none) else none else none) else none else none) else some ((), C))) else none
set_option maxRecDepth 20000 in
set_option maxHeartbeats 4000000 in
theorem t_111 {n : Nat} {a0 : Nat} {a1 : Int32} {a2 : Int32} {a3 : Int32} {C : AmC} {r : Unit} {C' : AmC} (h : f_111 n a0 a1 a2 a3 C = some (r, C')) : En false 111 0 [(0, .ref a0), (1, .int a1), (2, .int a2), (3, .int a3)] [] (mkM C) (.inl none) (mkM C') := by
  unfold f_111 at h
  refine en_aload rfl rfl ?_
  obtain ⟨g1, h⟩ := gd h
  refine ec_getI (ci := 7) (j := 5) ⟨rfl, rfl, rfl⟩ g1 rfl ?_
  rcases gi h with ⟨c2, h⟩ | ⟨c2, h⟩
  · refine en_if_lt_t c2 rfl ?_
    cases h
    exact en_vret rfl
  · refine en_if_lt_f c2 rfl ?_
    refine en_aload rfl rfl ?_
    refine ec_getI (ci := 7) (j := 5) ⟨rfl, rfl, rfl⟩ g1 rfl ?_
    refine ec_iconst cst_8 rfl ?_
    rcases gi h with ⟨c3, h⟩ | ⟨c3, h⟩
    · refine en_icmp_lt_t c3 rfl ?_
      refine en_aload rfl rfl ?_
      obtain ⟨r4, e5, h⟩ := gb h
      refine ec_getP (ci := 7) (j := 2) ⟨rfl, rfl, rfl⟩ g1 e5 rfl ?_
      refine en_aload rfl rfl ?_
      refine ec_getI (ci := 7) (j := 5) ⟨rfl, rfl, rfl⟩ g1 rfl ?_
      refine en_iload rfl rfl ?_
      obtain ⟨g6, h⟩ := gd h
      obtain ⟨g7, h⟩ := gd h
      refine ec_iastore g6 g7 rfl ?_
      refine en_aload rfl rfl ?_
      obtain ⟨r8, e9, h⟩ := gb h
      refine ec_getP (ci := 7) (j := 3) ⟨rfl, rfl, rfl⟩ g1 e9 rfl ?_
      refine en_aload rfl rfl ?_
      refine ec_getI (ci := 7) (j := 5) ⟨rfl, rfl, rfl⟩ g1 rfl ?_
      refine en_iload rfl rfl ?_
      obtain ⟨g10, h⟩ := gd h
      obtain ⟨g11, h⟩ := gd h
      refine ec_iastore g10 g11 rfl ?_
      refine en_aload rfl rfl ?_
      obtain ⟨r12, e13, h⟩ := gb h
      refine ec_getP (ci := 7) (j := 4) ⟨rfl, rfl, rfl⟩ g1 e13 rfl ?_
      refine en_aload rfl rfl ?_
      refine ec_getI (ci := 7) (j := 5) ⟨rfl, rfl, rfl⟩ g1 rfl ?_
      refine en_iload rfl rfl ?_
      obtain ⟨g14, h⟩ := gd h
      obtain ⟨g15, h⟩ := gd h
      refine ec_iastore g14 g15 rfl ?_
      refine en_aload rfl rfl ?_
      refine en_dup rfl rfl ?_
      refine ec_getI (ci := 7) (j := 5) ⟨rfl, rfl, rfl⟩ g1 rfl ?_
      refine ec_iconst cst_1 rfl ?_
      refine en_iadd rfl ?_
      refine ec_putI (ci := 7) (j := 5) ⟨rfl, rfl, rfl⟩ g1 rfl ?_
      cases h
      exact en_vret rfl
    · refine en_icmp_lt_f c3 rfl ?_
      cases h
      exact en_vret rfl
def lp_112_2 : Nat → Nat → Nat → Int32 → AmC → Option (((Unit) ⊕ (Unit)) × AmC)
  | 0, _, _, _, _ => none
  | n + 1, p0, p1, p2, C => if isK p0 7 = true then (if (cI C p0 5) ≤ p2 then some ((.inr ()), C) else (if (8 : Int32) ≤ p2 then some ((.inr ()), C) else (cP C p0 2).bind (fun r4 => if isK r4 12 = true then if amIn p2 (aLen r4) = true then (cP C p0 3).bind (fun r8 => if isK r8 12 = true then if amIn p2 (aLen r8) = true then if isK p1 5 = true then (f_76 n p1 (cI C r4 (Int32.toNatClampNeg p2)) (cI C r8 (Int32.toNatClampNeg p2)) C).bind (fun z => match z with | (q13, C14) => (cP C14 p0 4).bind (fun r16 => if isK r16 12 = true then if amIn p2 (aLen r16) = true then (if q13 = (cI C14 r16 (Int32.toNatClampNeg p2)) then lp_112_2 n p0 p1 (p2 + (1 : Int32)) C14 else some ((.inl ()), C14)) else none else none)) else none else none else none) else none else none))) else none
set_option maxRecDepth 20000 in
set_option maxHeartbeats 4000000 in
theorem lt_112_2 : ∀ (n : Nat) (p0 : Nat) (p1 : Nat) (p2 : Int32) (C : AmC) (r : ((Unit) ⊕ (Unit)) × AmC), lp_112_2 n p0 p1 p2 C = some r → ∀ (o : AmO) (M' : AmM), (match r with
        | ((.inl _), C') => En false 112 24 [] [] (mkM C') o M'
        | ((.inr _), C') => En false 112 28 [] [] (mkM C') o M') → En false 112 2 [(0, .ref p0), (1, .ref p1), (2, .int p2)] [] (mkM C) o M' := by
  intro n
  induction n with
  | zero => intro p0 p1 p2 C r h; cases h
  | succ n ih =>
    intro p0 p1 p2 C r h o M' hk
    unfold lp_112_2 at h
    refine en_iload rfl rfl ?_
    refine en_aload rfl rfl ?_
    obtain ⟨g1, h⟩ := gd h
    refine ec_getI (ci := 7) (j := 5) ⟨rfl, rfl, rfl⟩ g1 rfl ?_
    rcases gi h with ⟨c2, h⟩ | ⟨c2, h⟩
    · refine en_icmp_ge_t c2 rfl ?_
      cases h
      exact en_sub [] rfl rfl hk
    · refine en_icmp_ge_f c2 rfl ?_
      refine en_iload rfl rfl ?_
      refine ec_iconst cst_8 rfl ?_
      rcases gi h with ⟨c3, h⟩ | ⟨c3, h⟩
      · refine en_icmp_ge_t c3 rfl ?_
        cases h
        exact en_sub [] rfl rfl hk
      · refine en_icmp_ge_f c3 rfl ?_
        refine en_aload rfl rfl ?_
        refine en_aload rfl rfl ?_
        obtain ⟨r4, e5, h⟩ := gb h
        refine ec_getP (ci := 7) (j := 2) ⟨rfl, rfl, rfl⟩ g1 e5 rfl ?_
        refine en_iload rfl rfl ?_
        obtain ⟨g6, h⟩ := gd h
        obtain ⟨g7, h⟩ := gd h
        refine ec_iaload g6 g7 rfl ?_
        refine en_aload rfl rfl ?_
        obtain ⟨r8, e9, h⟩ := gb h
        refine ec_getP (ci := 7) (j := 3) ⟨rfl, rfl, rfl⟩ g1 e9 rfl ?_
        refine en_iload rfl rfl ?_
        obtain ⟨g10, h⟩ := gd h
        obtain ⟨g11, h⟩ := gd h
        refine ec_iaload g10 g11 rfl ?_
        obtain ⟨g12, h⟩ := gd h
        obtain ⟨⟨q13, C14⟩, e15, h⟩ := gb h
        dsimp only at h
        refine ec_callV1 (k' := 76) (n := 3) (rc := 5) (a := p1) (as := [.int (cI C r4 (Int32.toNatClampNeg p2)), .int (cI C r8 (Int32.toNatClampNeg p2))]) ⟨rfl, rfl⟩ rfl rfl (Nat.le_of_ble_eq_true rfl) (Nat.le_of_ble_eq_true rfl) (Nat.le_of_ble_eq_true rfl) g12 rfl (t_76 e15) ?_
        refine en_aload rfl rfl ?_
        obtain ⟨r16, e17, h⟩ := gb h
        refine ec_getP (ci := 7) (j := 4) ⟨rfl, rfl, rfl⟩ g1 e17 rfl ?_
        refine en_iload rfl rfl ?_
        obtain ⟨g18, h⟩ := gd h
        obtain ⟨g19, h⟩ := gd h
        refine ec_iaload g18 g19 rfl ?_
        rcases gi h with ⟨c20, h⟩ | ⟨c20, h⟩
        · refine en_icmp_eq_t c20 rfl ?_
          refine ec_iinc (l' := [(2, .int (p2 + (1 : Int32))), (0, .ref p0), (1, .ref p1)]) rfl cst_1 rfl rfl ?_
          refine en_goto rfl ?_
          refine en_sub [1, 2, 0] rfl rfl ?_
          exact ih _ _ _ _ _ h o M' hk
        · refine en_icmp_eq_f c20 rfl ?_
          cases h
          exact en_sub [] rfl rfl hk
/-- BulkWriter$State.isSeenIn(LBulkWriter$Rows;)Z -/
def f_112 (n : Nat) (a0 : Nat) (a1 : Nat) (C : AmC) : Option (Int32 × AmC) := (lp_112_2 n a0 a1 (0 : Int32) C).bind (fun q => match q with | ((.inl _), C23) => some ((0 : Int32), C23) | ((.inr _), C23) => some ((1 : Int32), C23))
set_option maxRecDepth 20000 in
set_option maxHeartbeats 4000000 in
theorem t_112 {n : Nat} {a0 : Nat} {a1 : Nat} {C : AmC} {r : Int32} {C' : AmC} (h : f_112 n a0 a1 C = some (r, C')) : En false 112 0 [(0, .ref a0), (1, .ref a1)] [] (mkM C) (.inl (some (.int r))) (mkM C') := by
  unfold f_112 at h
  refine ec_iconst cst_0 rfl ?_
  refine en_istore (l' := [(2, .int (0 : Int32)), (0, .ref a0), (1, .ref a1)]) rfl rfl ?_
  obtain ⟨⟨q21, C23⟩, e22, h⟩ := gb h
  refine en_sub [1, 2, 0] rfl rfl (lt_112_2 n _ _ _ _ _ e22 _ _ ?_)
  rcases q21 with ⟨⟩ | ⟨⟩
  · dsimp only at h ⊢
    refine ec_iconst cst_0 rfl ?_
    cases h
    exact en_zret (Or.inl rfl) rfl
  · dsimp only at h ⊢
    refine ec_iconst cst_1 rfl ?_
    cases h
    exact en_zret (Or.inr rfl) rfl
def lp_142_2 : Nat → Nat → Int32 → Int32 → AmC → Option (((Unit)) × AmC)
  | 0, _, _, _, _ => none
  | n + 1, p0, p1, p2, C => (if p2 < 0 then some ((), C) else if isK p0 9 = true then (if (900 : Int32) ≤ (cI C p0 1) then some ((), C) else (cP C p0 0).bind (fun r4 => if isK r4 11 = true then if amIn (cI C p0 1) (aLen r4) = true then lp_142_2 n p0 p1 (p2 + (-8 : Int32)) (uI (uI C r4 (Int32.toNatClampNeg (cI C p0 1)) (Int32.toInt8 ((Int32.toInt8 ((Int32.toUInt32 p1 >>> (Int32.toUInt32 p2 &&& Int32.toUInt32 31)).toInt32)).toInt32)).toInt32) p0 1 ((cI (uI C r4 (Int32.toNatClampNeg (cI C p0 1)) (Int32.toInt8 ((Int32.toInt8 ((Int32.toUInt32 p1 >>> (Int32.toUInt32 p2 &&& Int32.toUInt32 31)).toInt32)).toInt32)).toInt32) p0 1) + (1 : Int32))) else none else none)) else none)
set_option maxRecDepth 20000 in
set_option maxHeartbeats 4000000 in
theorem lt_142_2 : ∀ (n : Nat) (p0 : Nat) (p1 : Int32) (p2 : Int32) (C : AmC) (r : ((Unit)) × AmC), lp_142_2 n p0 p1 p2 C = some r → ∀ (o : AmO) (M' : AmM), (match r with
        | (_, C') => En false 142 25 [] [] (mkM C') o M') → En false 142 2 [(0, .ref p0), (1, .int p1), (2, .int p2)] [] (mkM C) o M' := by
  intro n
  induction n with
  | zero => intro p0 p1 p2 C r h; cases h
  | succ n ih =>
    intro p0 p1 p2 C r h o M' hk
    unfold lp_142_2 at h
    refine en_iload rfl rfl ?_
    rcases gi h with ⟨c1, h⟩ | ⟨c1, h⟩
    · refine en_if_lt_t c1 rfl ?_
      cases h
      exact en_sub [] rfl rfl hk
    · refine en_if_lt_f c1 rfl ?_
      refine en_aload rfl rfl ?_
      obtain ⟨g2, h⟩ := gd h
      refine ec_getI (ci := 9) (j := 1) ⟨rfl, rfl, rfl⟩ g2 rfl ?_
      refine ec_iconst cst_900 rfl ?_
      rcases gi h with ⟨c3, h⟩ | ⟨c3, h⟩
      · refine en_icmp_ge_t c3 rfl ?_
        cases h
        exact en_sub [] rfl rfl hk
      · refine en_icmp_ge_f c3 rfl ?_
        refine en_aload rfl rfl ?_
        obtain ⟨r4, e5, h⟩ := gb h
        refine ec_getP (ci := 9) (j := 0) ⟨rfl, rfl, rfl⟩ g2 e5 rfl ?_
        refine en_aload rfl rfl ?_
        refine ec_getI (ci := 9) (j := 1) ⟨rfl, rfl, rfl⟩ g2 rfl ?_
        refine en_iload rfl rfl ?_
        refine en_iload rfl rfl ?_
        refine en_iushr rfl ?_
        refine en_i2b rfl ?_
        obtain ⟨g6, h⟩ := gd h
        obtain ⟨g7, h⟩ := gd h
        refine ec_bastore g6 g7 rfl ?_
        refine en_aload rfl rfl ?_
        refine en_dup rfl rfl ?_
        refine ec_getI (ci := 9) (j := 1) ⟨rfl, rfl, rfl⟩ g2 rfl ?_
        refine ec_iconst cst_1 rfl ?_
        refine en_iadd rfl ?_
        refine ec_putI (ci := 9) (j := 1) ⟨rfl, rfl, rfl⟩ g2 rfl ?_
        refine ec_iinc (l' := [(2, .int (p2 + (-8 : Int32))), (0, .ref p0), (1, .int p1)]) rfl cst_m8 rfl rfl ?_
        refine en_goto rfl ?_
        refine en_sub [1, 2, 0] rfl rfl ?_
        exact ih _ _ _ _ _ h o M' hk
/-- BulkWriter.tapeNumber(I)V -/
def f_142 (n : Nat) (a0 : Nat) (a1 : Int32) (C : AmC) : Option (Unit × AmC) := (lp_142_2 n a0 a1 (24 : Int32) C).bind (fun q => match q with | (_, C10) => some ((), C10))
set_option maxRecDepth 20000 in
set_option maxHeartbeats 4000000 in
theorem t_142 {n : Nat} {a0 : Nat} {a1 : Int32} {C : AmC} {r : Unit} {C' : AmC} (h : f_142 n a0 a1 C = some (r, C')) : En false 142 0 [(0, .ref a0), (1, .int a1)] [] (mkM C) (.inl none) (mkM C') := by
  unfold f_142 at h
  refine ec_iconst cst_24 rfl ?_
  refine en_istore (l' := [(2, .int (24 : Int32)), (0, .ref a0), (1, .int a1)]) rfl rfl ?_
  obtain ⟨⟨q8, C10⟩, e9, h⟩ := gb h
  refine en_sub [1, 2, 0] rfl rfl (lt_142_2 n _ _ _ _ _ e9 _ _ ?_)
  dsimp only at h ⊢
  cases h
  exact en_vret rfl
/-- BulkWriter.feed(IIIII)I -/
def f_118 (n : Nat) (a0 : Nat) (a1 : Int32) (a2 : Int32) (a3 : Int32) (a4 : Int32) (a5 : Int32) (C : AmC) : Option (Int32 × AmC) := if isK a0 9 = true then (if ((cI C a0 1) + (20 : Int32)) ≤ (900 : Int32) then (f_142 n a0 a1 C).bind (fun z => match z with | (_, C4) => (f_142 n a0 a2 C4).bind (fun z => match z with | (_, C7) => (f_142 n a0 a3 C7).bind (fun z => match z with | (_, C10) => (f_142 n a0 a4 C10).bind (fun z => match z with | (_, C13) => (f_142 n a0 a5 C13).bind (fun z => match z with | (_, C16) => some ((cI C16 a0 1), C16)))))) else some ((-1 : Int32), C)) else none
set_option maxRecDepth 20000 in
set_option maxHeartbeats 4000000 in
theorem t_118 {n : Nat} {a0 : Nat} {a1 : Int32} {a2 : Int32} {a3 : Int32} {a4 : Int32} {a5 : Int32} {C : AmC} {r : Int32} {C' : AmC} (h : f_118 n a0 a1 a2 a3 a4 a5 C = some (r, C')) : En false 118 0 [(0, .ref a0), (1, .int a1), (2, .int a2), (3, .int a3), (4, .int a4), (5, .int a5)] [] (mkM C) (.inl (some (.int r))) (mkM C') := by
  unfold f_118 at h
  refine en_aload rfl rfl ?_
  obtain ⟨g1, h⟩ := gd h
  refine ec_getI (ci := 9) (j := 1) ⟨rfl, rfl, rfl⟩ g1 rfl ?_
  refine ec_iconst cst_20 rfl ?_
  refine en_iadd rfl ?_
  refine ec_iconst cst_900 rfl ?_
  rcases gi h with ⟨c2, h⟩ | ⟨c2, h⟩
  · refine en_icmp_le_t c2 rfl ?_
    refine en_aload rfl rfl ?_
    refine en_iload rfl rfl ?_
    obtain ⟨⟨q3, C4⟩, e5, h⟩ := gb h
    dsimp only at h
    refine ec_callV0 (k' := 142) (n := 2) (rc := 9) (a := a0) (as := [.int a1]) ⟨rfl, rfl⟩ rfl rfl (Nat.le_of_ble_eq_true rfl) (Nat.le_of_ble_eq_true rfl) (Nat.le_of_ble_eq_true rfl) g1 rfl (t_142 e5) ?_
    refine en_aload rfl rfl ?_
    refine en_iload rfl rfl ?_
    obtain ⟨⟨q6, C7⟩, e8, h⟩ := gb h
    dsimp only at h
    refine ec_callV0 (k' := 142) (n := 2) (rc := 9) (a := a0) (as := [.int a2]) ⟨rfl, rfl⟩ rfl rfl (Nat.le_of_ble_eq_true rfl) (Nat.le_of_ble_eq_true rfl) (Nat.le_of_ble_eq_true rfl) g1 rfl (t_142 e8) ?_
    refine en_aload rfl rfl ?_
    refine en_iload rfl rfl ?_
    obtain ⟨⟨q9, C10⟩, e11, h⟩ := gb h
    dsimp only at h
    refine ec_callV0 (k' := 142) (n := 2) (rc := 9) (a := a0) (as := [.int a3]) ⟨rfl, rfl⟩ rfl rfl (Nat.le_of_ble_eq_true rfl) (Nat.le_of_ble_eq_true rfl) (Nat.le_of_ble_eq_true rfl) g1 rfl (t_142 e11) ?_
    refine en_aload rfl rfl ?_
    refine en_iload rfl rfl ?_
    obtain ⟨⟨q12, C13⟩, e14, h⟩ := gb h
    dsimp only at h
    refine ec_callV0 (k' := 142) (n := 2) (rc := 9) (a := a0) (as := [.int a4]) ⟨rfl, rfl⟩ rfl rfl (Nat.le_of_ble_eq_true rfl) (Nat.le_of_ble_eq_true rfl) (Nat.le_of_ble_eq_true rfl) g1 rfl (t_142 e14) ?_
    refine en_aload rfl rfl ?_
    refine en_iload rfl rfl ?_
    obtain ⟨⟨q15, C16⟩, e17, h⟩ := gb h
    dsimp only at h
    refine ec_callV0 (k' := 142) (n := 2) (rc := 9) (a := a0) (as := [.int a5]) ⟨rfl, rfl⟩ rfl rfl (Nat.le_of_ble_eq_true rfl) (Nat.le_of_ble_eq_true rfl) (Nat.le_of_ble_eq_true rfl) g1 rfl (t_142 e17) ?_
    refine en_aload rfl rfl ?_
    refine ec_getI (ci := 9) (j := 1) ⟨rfl, rfl, rfl⟩ g1 rfl ?_
    cases h
    exact en_iret rfl
  · refine en_icmp_le_f c2 rfl ?_
    refine ec_iconst cst_m1 rfl ?_
    cases h
    exact en_iret rfl
/-- BulkWriter.table(I)I -/
def f_119 (n : Nat) (a0 : Nat) (a1 : Int32) (C : AmC) : Option ((Int32 ⊕ Nat) × AmC) := (if a1 < 0 then some (.inr 1, C) else if isK a0 9 = true then (if a1 ≤ (cI C a0 1) then (cP (uI C a0 1 (0 : Int32)) a0 3).bind (fun r4 => (cP (uI C a0 1 (0 : Int32)) a0 0).bind (fun r6 => (cP (uI C a0 1 (0 : Int32)) a0 5).bind (fun r8 => if isK r4 2 = true then (f_14 n r4 r6 a1 r8 (uI C a0 1 (0 : Int32))).bind (fun z => match z with | (q11, C12) => (cP C12 a0 3).bind (fun r14 => if isK r14 2 = true then (if q11 = 0 then (cP (uI C12 a0 2 (cI C12 r14 7)) a0 4).bind (fun r18 => (cP (uI C12 a0 2 (cI C12 r14 7)) a0 5).bind (fun r20 => (cP (uP (uP (uI C12 a0 2 (cI C12 r14 7)) a0 4 r20) a0 5 r18) a0 6).bind (fun r22 => (cP (uP (uP (uI C12 a0 2 (cI C12 r14 7)) a0 4 r20) a0 5 r18) a0 4).bind (fun r24 => if isK r24 6 = true then (cP (uP (uP (uI C12 a0 2 (cI C12 r14 7)) a0 4 r20) a0 5 r18) r24 1).bind (fun r27 => if isK r22 7 = true then (f_109 n r22 r27 (uP (uP (uI C12 a0 2 (cI C12 r14 7)) a0 4 r20) a0 5 r18)).bind (fun z => match z with | (_, C31) => some (.inl (0 : Int32), uI C31 a0 8 (0 : Int32))) else none) else none)))) else (cP (uI C12 a0 2 (cI C12 r14 7)) a0 6).bind (fun r33 => if isK r33 7 = true then (cP (uI C12 a0 2 (cI C12 r14 7)) r33 6).bind (fun r36 => if isK r36 12 = true then if amIn (0 : Int32) (aLen r36) = true then if amIn (0 : Int32) (aLen r36) = true then some (.inl q11, uI (uI C12 a0 2 (cI C12 r14 7)) r36 (Int32.toNatClampNeg (0 : Int32)) ((cI (uI C12 a0 2 (cI C12 r14 7)) r36 (Int32.toNatClampNeg (0 : Int32))) + (1 : Int32))) else none else none else none) else none)) else none)) else none))) else some (.inr 1, C)) else none)
set_option maxRecDepth 20000 in
set_option maxHeartbeats 4000000 in
theorem t_119 {n : Nat} {a0 : Nat} {a1 : Int32} {C : AmC} {r : (Int32 ⊕ Nat)} {C' : AmC} (h : f_119 n a0 a1 C = some (r, C')) : En false 119 0 [(0, .ref a0), (1, .int a1)] [] (mkM C) (ovI r) (mkM C') := by
  unfold f_119 at h
  refine en_iload rfl rfl ?_
  rcases gi h with ⟨c1, h⟩ | ⟨c1, h⟩
  · refine en_if_lt_t c1 rfl ?_
    cases h
    exact en_throw (n := 1) rfl ⟨rfl, Nat.le_of_ble_eq_true rfl⟩
  · refine en_if_lt_f c1 rfl ?_
    refine en_iload rfl rfl ?_
    refine en_aload rfl rfl ?_
    obtain ⟨g2, h⟩ := gd h
    refine ec_getI (ci := 9) (j := 1) ⟨rfl, rfl, rfl⟩ g2 rfl ?_
    rcases gi h with ⟨c3, h⟩ | ⟨c3, h⟩
    · refine en_icmp_le_t c3 rfl ?_
      refine en_aload rfl rfl ?_
      refine ec_iconst cst_0 rfl ?_
      refine ec_putI (ci := 9) (j := 1) ⟨rfl, rfl, rfl⟩ g2 rfl ?_
      refine en_aload rfl rfl ?_
      obtain ⟨r4, e5, h⟩ := gb h
      refine ec_getP (ci := 9) (j := 3) ⟨rfl, rfl, rfl⟩ g2 e5 rfl ?_
      refine en_aload rfl rfl ?_
      obtain ⟨r6, e7, h⟩ := gb h
      refine ec_getP (ci := 9) (j := 0) ⟨rfl, rfl, rfl⟩ g2 e7 rfl ?_
      refine en_iload rfl rfl ?_
      refine en_aload rfl rfl ?_
      obtain ⟨r8, e9, h⟩ := gb h
      refine ec_getP (ci := 9) (j := 5) ⟨rfl, rfl, rfl⟩ g2 e9 rfl ?_
      obtain ⟨g10, h⟩ := gd h
      obtain ⟨⟨q11, C12⟩, e13, h⟩ := gb h
      dsimp only at h
      refine ec_callV1 (k' := 14) (n := 4) (rc := 2) (a := r4) (as := [.ref r6, .int a1, .ref r8]) ⟨rfl, rfl⟩ rfl rfl (Nat.le_of_ble_eq_true rfl) (Nat.le_of_ble_eq_true rfl) (Nat.le_of_ble_eq_true rfl) g10 rfl (t_14 e13) ?_
      refine en_istore (l' := [(2, .int q11), (0, .ref a0), (1, .int a1)]) rfl rfl ?_
      refine en_aload rfl rfl ?_
      refine en_aload rfl rfl ?_
      obtain ⟨r14, e15, h⟩ := gb h
      refine ec_getP (ci := 9) (j := 3) ⟨rfl, rfl, rfl⟩ g2 e15 rfl ?_
      obtain ⟨g16, h⟩ := gd h
      refine ec_getI (ci := 2) (j := 7) ⟨rfl, rfl, rfl⟩ g16 rfl ?_
      refine ec_putI (ci := 9) (j := 2) ⟨rfl, rfl, rfl⟩ g2 rfl ?_
      refine en_iload rfl rfl ?_
      rcases gi h with ⟨c17, h⟩ | ⟨c17, h⟩
      · refine en_if_eq_t c17 rfl ?_
        refine en_aload rfl rfl ?_
        obtain ⟨r18, e19, h⟩ := gb h
        refine ec_getP (ci := 9) (j := 4) ⟨rfl, rfl, rfl⟩ g2 e19 rfl ?_
        refine en_astore (l' := [(3, .ref r18), (2, .int q11), (0, .ref a0), (1, .int a1)]) rfl rfl ?_
        refine en_aload rfl rfl ?_
        refine en_aload rfl rfl ?_
        obtain ⟨r20, e21, h⟩ := gb h
        refine ec_getP (ci := 9) (j := 5) ⟨rfl, rfl, rfl⟩ g2 e21 rfl ?_
        refine ec_putP (ci := 9) (j := 4) ⟨rfl, rfl, rfl⟩ g2 rfl ?_
        refine en_aload rfl rfl ?_
        refine en_aload rfl rfl ?_
        refine ec_putP (ci := 9) (j := 5) ⟨rfl, rfl, rfl⟩ g2 rfl ?_
        refine en_aload rfl rfl ?_
        obtain ⟨r22, e23, h⟩ := gb h
        refine ec_getP (ci := 9) (j := 6) ⟨rfl, rfl, rfl⟩ g2 e23 rfl ?_
        refine en_aload rfl rfl ?_
        obtain ⟨r24, e25, h⟩ := gb h
        refine ec_getP (ci := 9) (j := 4) ⟨rfl, rfl, rfl⟩ g2 e25 rfl ?_
        obtain ⟨g26, h⟩ := gd h
        obtain ⟨r27, e28, h⟩ := gb h
        refine ec_getP (ci := 6) (j := 1) ⟨rfl, rfl, rfl⟩ g26 e28 rfl ?_
        obtain ⟨g29, h⟩ := gd h
        obtain ⟨⟨q30, C31⟩, e32, h⟩ := gb h
        dsimp only at h
        refine ec_callV0 (k' := 109) (n := 2) (rc := 7) (a := r22) (as := [.ref r27]) ⟨rfl, rfl⟩ rfl rfl (Nat.le_of_ble_eq_true rfl) (Nat.le_of_ble_eq_true rfl) (Nat.le_of_ble_eq_true rfl) g29 rfl (t_109 e32) ?_
        refine en_aload rfl rfl ?_
        refine ec_iconst cst_0 rfl ?_
        refine ec_putZ (ci := 9) (j := 8) ⟨rfl, rfl, rfl⟩ g2 (Or.inl rfl) rfl ?_
        refine ec_iconst cst_0 rfl ?_
        cases h
        exact en_iret rfl
      · refine en_if_eq_f c17 rfl ?_
        refine en_aload rfl rfl ?_
        obtain ⟨r33, e34, h⟩ := gb h
        refine ec_getP (ci := 9) (j := 6) ⟨rfl, rfl, rfl⟩ g2 e34 rfl ?_
        obtain ⟨g35, h⟩ := gd h
        obtain ⟨r36, e37, h⟩ := gb h
        refine ec_getP (ci := 7) (j := 6) ⟨rfl, rfl, rfl⟩ g35 e37 rfl ?_
        refine ec_iconst cst_0 rfl ?_
        refine en_dup2 ⟨rfl, rfl⟩ rfl ?_
        obtain ⟨g38, h⟩ := gd h
        obtain ⟨g39, h⟩ := gd h
        refine ec_iaload g38 g39 rfl ?_
        refine ec_iconst cst_1 rfl ?_
        refine en_iadd rfl ?_
        obtain ⟨g40, h⟩ := gd h
        refine ec_iastore g38 g40 rfl ?_
        refine en_iload rfl rfl ?_
        cases h
        exact en_iret rfl
    · refine en_icmp_le_f c3 rfl ?_
      cases h
      exact en_throw (n := 1) rfl ⟨rfl, Nat.le_of_ble_eq_true rfl⟩
/-- BulkWriter.fault()I -/
def f_120 (n : Nat) (a0 : Nat) (C : AmC) : Option (Int32 × AmC) := if isK a0 9 = true then some ((cI C a0 2), C) else none
set_option maxRecDepth 20000 in
set_option maxHeartbeats 4000000 in
theorem t_120 {n : Nat} {a0 : Nat} {C : AmC} {r : Int32} {C' : AmC} (h : f_120 n a0 C = some (r, C')) : En false 120 0 [(0, .ref a0)] [] (mkM C) (.inl (some (.int r))) (mkM C') := by
  unfold f_120 at h
  refine en_aload rfl rfl ?_
  obtain ⟨g1, h⟩ := gd h
  refine ec_getI (ci := 9) (j := 2) ⟨rfl, rfl, rfl⟩ g1 rfl ?_
  cases h
  exact en_iret rfl
/-- BulkWriter.count(I)I -/
def f_121 (n : Nat) (a0 : Nat) (a1 : Int32) (C : AmC) : Option ((Int32 ⊕ Nat) × AmC) := (if a1 = (0 : Int32) then if isK a0 9 = true then (cP C a0 4).bind (fun r15 => if isK r15 6 = true then some (.inl (cI C r15 0), C) else none) else none else if a1 = (1 : Int32) then if isK a0 9 = true then (cP C a0 6).bind (fun r19 => if isK r19 7 = true then (cP C r19 0).bind (fun r22 => if isK r22 5 = true then (f_81 n r22 C).bind (fun z => match z with | (q25, C26) => some (.inl q25, C26)) else none) else none) else none else if a1 = (2 : Int32) then if isK a0 9 = true then (cP C a0 4).bind (fun r29 => if isK r29 6 = true then some (.inl (cI C r29 2), C) else none) else none else if a1 = (3 : Int32) then if isK a0 9 = true then (cP C a0 4).bind (fun r33 => if isK r33 6 = true then some (.inl (cI C r33 5), C) else none) else none else if a1 = (4 : Int32) then if isK a0 9 = true then (cP C a0 4).bind (fun r37 => if isK r37 6 = true then some (.inl (cI C r37 6), C) else none) else none else if a1 = (5 : Int32) then if isK a0 9 = true then (cP C a0 4).bind (fun r41 => if isK r41 6 = true then some (.inl (cI C r41 8), C) else none) else none else if a1 = (6 : Int32) then if isK a0 9 = true then (cP C a0 4).bind (fun r45 => if isK r45 6 = true then (f_87 n r45 C).bind (fun z => match z with | (q48, C49) => some (.inl q48, C49)) else none) else none else if a1 = (7 : Int32) then if isK a0 9 = true then (cP C a0 6).bind (fun r52 => if isK r52 7 = true then (cP C r52 1).bind (fun r55 => if isK r55 1 = true then some (.inl (cI C r55 3), C) else none) else none) else none else if a1 = (8 : Int32) then if isK a0 9 = true then (cP C a0 6).bind (fun r59 => if isK r59 7 = true then some (.inl (cI C r59 5), C) else none) else none else if a1 = (9 : Int32) then if isK a0 9 = true then some (.inl (cI C a0 1), C) else none else if a1 = (10 : Int32) then if isK a0 9 = true then (cP C a0 6).bind (fun r64 => if isK r64 7 = true then (cP C r64 6).bind (fun r67 => if isK r67 12 = true then if amIn (0 : Int32) (aLen r67) = true then some (.inl (cI C r67 (Int32.toNatClampNeg (0 : Int32))), C) else none else none) else none) else none else if a1 = (11 : Int32) then if isK a0 9 = true then (cP C a0 6).bind (fun r72 => if isK r72 7 = true then (cP C r72 6).bind (fun r75 => if isK r75 12 = true then if amIn (1 : Int32) (aLen r75) = true then some (.inl (cI C r75 (Int32.toNatClampNeg (1 : Int32))), C) else none else none) else none) else none else if a1 = (12 : Int32) then if isK a0 9 = true then (cP C a0 6).bind (fun r80 => if isK r80 7 = true then (cP C r80 6).bind (fun r83 => if isK r83 12 = true then if amIn (2 : Int32) (aLen r83) = true then some (.inl (cI C r83 (Int32.toNatClampNeg (2 : Int32))), C) else none else none) else none) else none else some (.inr 0, C))
set_option maxRecDepth 20000 in
set_option maxHeartbeats 4000000 in
theorem t_121 {n : Nat} {a0 : Nat} {a1 : Int32} {C : AmC} {r : (Int32 ⊕ Nat)} {C' : AmC} (h : f_121 n a0 a1 C = some (r, C')) : En false 121 0 [(0, .ref a0), (1, .int a1)] [] (mkM C) (ovI r) (mkM C') := by
  unfold f_121 at h
  refine en_iload rfl rfl ?_
  rcases gi h with ⟨c1, h⟩ | ⟨c1, h⟩
  · refine en_tab_i (t := 2) (by rw [c1]; decide) (by rw [c1]; rfl) rfl ?_
    refine en_aload rfl rfl ?_
    obtain ⟨g14, h⟩ := gd h
    obtain ⟨r15, e16, h⟩ := gb h
    refine ec_getP (ci := 9) (j := 4) ⟨rfl, rfl, rfl⟩ g14 e16 rfl ?_
    obtain ⟨g17, h⟩ := gd h
    refine ec_getI (ci := 6) (j := 0) ⟨rfl, rfl, rfl⟩ g17 rfl ?_
    cases h
    exact en_iret rfl
  ·
    rcases gi h with ⟨c2, h⟩ | ⟨c2, h⟩
    · refine en_tab_i (t := 6) (by rw [c2]; decide) (by rw [c2]; rfl) rfl ?_
      refine en_aload rfl rfl ?_
      obtain ⟨g18, h⟩ := gd h
      obtain ⟨r19, e20, h⟩ := gb h
      refine ec_getP (ci := 9) (j := 6) ⟨rfl, rfl, rfl⟩ g18 e20 rfl ?_
      obtain ⟨g21, h⟩ := gd h
      obtain ⟨r22, e23, h⟩ := gb h
      refine ec_getP (ci := 7) (j := 0) ⟨rfl, rfl, rfl⟩ g21 e23 rfl ?_
      obtain ⟨g24, h⟩ := gd h
      obtain ⟨⟨q25, C26⟩, e27, h⟩ := gb h
      dsimp only at h
      refine ec_callV1 (k' := 81) (n := 1) (rc := 5) (a := r22) (as := []) ⟨rfl, rfl⟩ rfl rfl (Nat.le_of_ble_eq_true rfl) (Nat.le_of_ble_eq_true rfl) (Nat.le_of_ble_eq_true rfl) g24 rfl (t_81 e27) ?_
      cases h
      exact en_iret rfl
    ·
      rcases gi h with ⟨c3, h⟩ | ⟨c3, h⟩
      · refine en_tab_i (t := 11) (by rw [c3]; decide) (by rw [c3]; rfl) rfl ?_
        refine en_aload rfl rfl ?_
        obtain ⟨g28, h⟩ := gd h
        obtain ⟨r29, e30, h⟩ := gb h
        refine ec_getP (ci := 9) (j := 4) ⟨rfl, rfl, rfl⟩ g28 e30 rfl ?_
        obtain ⟨g31, h⟩ := gd h
        refine ec_getI (ci := 6) (j := 2) ⟨rfl, rfl, rfl⟩ g31 rfl ?_
        cases h
        exact en_iret rfl
      ·
        rcases gi h with ⟨c4, h⟩ | ⟨c4, h⟩
        · refine en_tab_i (t := 15) (by rw [c4]; decide) (by rw [c4]; rfl) rfl ?_
          refine en_aload rfl rfl ?_
          obtain ⟨g32, h⟩ := gd h
          obtain ⟨r33, e34, h⟩ := gb h
          refine ec_getP (ci := 9) (j := 4) ⟨rfl, rfl, rfl⟩ g32 e34 rfl ?_
          obtain ⟨g35, h⟩ := gd h
          refine ec_getI (ci := 6) (j := 5) ⟨rfl, rfl, rfl⟩ g35 rfl ?_
          cases h
          exact en_iret rfl
        ·
          rcases gi h with ⟨c5, h⟩ | ⟨c5, h⟩
          · refine en_tab_i (t := 19) (by rw [c5]; decide) (by rw [c5]; rfl) rfl ?_
            refine en_aload rfl rfl ?_
            obtain ⟨g36, h⟩ := gd h
            obtain ⟨r37, e38, h⟩ := gb h
            refine ec_getP (ci := 9) (j := 4) ⟨rfl, rfl, rfl⟩ g36 e38 rfl ?_
            obtain ⟨g39, h⟩ := gd h
            refine ec_getI (ci := 6) (j := 6) ⟨rfl, rfl, rfl⟩ g39 rfl ?_
            cases h
            exact en_iret rfl
          ·
            rcases gi h with ⟨c6, h⟩ | ⟨c6, h⟩
            · refine en_tab_i (t := 23) (by rw [c6]; decide) (by rw [c6]; rfl) rfl ?_
              refine en_aload rfl rfl ?_
              obtain ⟨g40, h⟩ := gd h
              obtain ⟨r41, e42, h⟩ := gb h
              refine ec_getP (ci := 9) (j := 4) ⟨rfl, rfl, rfl⟩ g40 e42 rfl ?_
              obtain ⟨g43, h⟩ := gd h
              refine ec_getI (ci := 6) (j := 8) ⟨rfl, rfl, rfl⟩ g43 rfl ?_
              cases h
              exact en_iret rfl
            ·
              rcases gi h with ⟨c7, h⟩ | ⟨c7, h⟩
              · refine en_tab_i (t := 27) (by rw [c7]; decide) (by rw [c7]; rfl) rfl ?_
                refine en_aload rfl rfl ?_
                obtain ⟨g44, h⟩ := gd h
                obtain ⟨r45, e46, h⟩ := gb h
                refine ec_getP (ci := 9) (j := 4) ⟨rfl, rfl, rfl⟩ g44 e46 rfl ?_
                obtain ⟨g47, h⟩ := gd h
                obtain ⟨⟨q48, C49⟩, e50, h⟩ := gb h
                dsimp only at h
                refine ec_callV1 (k' := 87) (n := 1) (rc := 6) (a := r45) (as := []) ⟨rfl, rfl⟩ rfl rfl (Nat.le_of_ble_eq_true rfl) (Nat.le_of_ble_eq_true rfl) (Nat.le_of_ble_eq_true rfl) g47 rfl (t_87 e50) ?_
                cases h
                exact en_iret rfl
              ·
                rcases gi h with ⟨c8, h⟩ | ⟨c8, h⟩
                · refine en_tab_i (t := 31) (by rw [c8]; decide) (by rw [c8]; rfl) rfl ?_
                  refine en_aload rfl rfl ?_
                  obtain ⟨g51, h⟩ := gd h
                  obtain ⟨r52, e53, h⟩ := gb h
                  refine ec_getP (ci := 9) (j := 6) ⟨rfl, rfl, rfl⟩ g51 e53 rfl ?_
                  obtain ⟨g54, h⟩ := gd h
                  obtain ⟨r55, e56, h⟩ := gb h
                  refine ec_getP (ci := 7) (j := 1) ⟨rfl, rfl, rfl⟩ g54 e56 rfl ?_
                  obtain ⟨g57, h⟩ := gd h
                  refine ec_getI (ci := 1) (j := 3) ⟨rfl, rfl, rfl⟩ g57 rfl ?_
                  cases h
                  exact en_iret rfl
                ·
                  rcases gi h with ⟨c9, h⟩ | ⟨c9, h⟩
                  · refine en_tab_i (t := 36) (by rw [c9]; decide) (by rw [c9]; rfl) rfl ?_
                    refine en_aload rfl rfl ?_
                    obtain ⟨g58, h⟩ := gd h
                    obtain ⟨r59, e60, h⟩ := gb h
                    refine ec_getP (ci := 9) (j := 6) ⟨rfl, rfl, rfl⟩ g58 e60 rfl ?_
                    obtain ⟨g61, h⟩ := gd h
                    refine ec_getI (ci := 7) (j := 5) ⟨rfl, rfl, rfl⟩ g61 rfl ?_
                    cases h
                    exact en_iret rfl
                  ·
                    rcases gi h with ⟨c10, h⟩ | ⟨c10, h⟩
                    · refine en_tab_i (t := 40) (by rw [c10]; decide) (by rw [c10]; rfl) rfl ?_
                      refine en_aload rfl rfl ?_
                      obtain ⟨g62, h⟩ := gd h
                      refine ec_getI (ci := 9) (j := 1) ⟨rfl, rfl, rfl⟩ g62 rfl ?_
                      cases h
                      exact en_iret rfl
                    ·
                      rcases gi h with ⟨c11, h⟩ | ⟨c11, h⟩
                      · refine en_tab_i (t := 43) (by rw [c11]; decide) (by rw [c11]; rfl) rfl ?_
                        refine en_aload rfl rfl ?_
                        obtain ⟨g63, h⟩ := gd h
                        obtain ⟨r64, e65, h⟩ := gb h
                        refine ec_getP (ci := 9) (j := 6) ⟨rfl, rfl, rfl⟩ g63 e65 rfl ?_
                        obtain ⟨g66, h⟩ := gd h
                        obtain ⟨r67, e68, h⟩ := gb h
                        refine ec_getP (ci := 7) (j := 6) ⟨rfl, rfl, rfl⟩ g66 e68 rfl ?_
                        refine ec_iconst cst_0 rfl ?_
                        obtain ⟨g69, h⟩ := gd h
                        obtain ⟨g70, h⟩ := gd h
                        refine ec_iaload g69 g70 rfl ?_
                        cases h
                        exact en_iret rfl
                      ·
                        rcases gi h with ⟨c12, h⟩ | ⟨c12, h⟩
                        · refine en_tab_i (t := 49) (by rw [c12]; decide) (by rw [c12]; rfl) rfl ?_
                          refine en_aload rfl rfl ?_
                          obtain ⟨g71, h⟩ := gd h
                          obtain ⟨r72, e73, h⟩ := gb h
                          refine ec_getP (ci := 9) (j := 6) ⟨rfl, rfl, rfl⟩ g71 e73 rfl ?_
                          obtain ⟨g74, h⟩ := gd h
                          obtain ⟨r75, e76, h⟩ := gb h
                          refine ec_getP (ci := 7) (j := 6) ⟨rfl, rfl, rfl⟩ g74 e76 rfl ?_
                          refine ec_iconst cst_1 rfl ?_
                          obtain ⟨g77, h⟩ := gd h
                          obtain ⟨g78, h⟩ := gd h
                          refine ec_iaload g77 g78 rfl ?_
                          cases h
                          exact en_iret rfl
                        ·
                          rcases gi h with ⟨c13, h⟩ | ⟨c13, h⟩
                          · refine en_tab_i (t := 55) (by rw [c13]; decide) (by rw [c13]; rfl) rfl ?_
                            refine en_aload rfl rfl ?_
                            obtain ⟨g79, h⟩ := gd h
                            obtain ⟨r80, e81, h⟩ := gb h
                            refine ec_getP (ci := 9) (j := 6) ⟨rfl, rfl, rfl⟩ g79 e81 rfl ?_
                            obtain ⟨g82, h⟩ := gd h
                            obtain ⟨r83, e84, h⟩ := gb h
                            refine ec_getP (ci := 7) (j := 6) ⟨rfl, rfl, rfl⟩ g82 e84 rfl ?_
                            refine ec_iconst cst_2 rfl ?_
                            obtain ⟨g85, h⟩ := gd h
                            obtain ⟨g86, h⟩ := gd h
                            refine ec_iaload g85 g86 rfl ?_
                            cases h
                            exact en_iret rfl
                          ·
                            refine en_tab_o (by have z0 := ne_toInt c1 (v := 0) (by decide); have z1 := ne_toInt c2 (v := 1) (by decide); have z2 := ne_toInt c3 (v := 2) (by decide); have z3 := ne_toInt c4 (v := 3) (by decide); have z4 := ne_toInt c5 (v := 4) (by decide); have z5 := ne_toInt c6 (v := 5) (by decide); have z6 := ne_toInt c7 (v := 6) (by decide); have z7 := ne_toInt c8 (v := 7) (by decide); have z8 := ne_toInt c9 (v := 8) (by decide); have z9 := ne_toInt c10 (v := 9) (by decide); have z10 := ne_toInt c11 (v := 10) (by decide); have z11 := ne_toInt c12 (v := 11) (by decide); have z12 := ne_toInt c13 (v := 12) (by decide); omega) rfl ?_
                            cases h
                            exact en_throw (n := 0) rfl ⟨rfl, Nat.le_of_ble_eq_true rfl⟩
/-- BulkWriter.isPlace(I)Z -/
def f_148 (n : Nat) (a0 : Int32) (C : AmC) : Option (Int32 × AmC) := (if a0 < 0 then some ((0 : Int32), C) else (if (30 : Int32) ≤ a0 then some ((0 : Int32), C) else some ((1 : Int32), C)))
set_option maxRecDepth 20000 in
set_option maxHeartbeats 4000000 in
theorem t_148 {n : Nat} {a0 : Int32} {C : AmC} {r : Int32} {C' : AmC} (h : f_148 n a0 C = some (r, C')) : En false 148 0 [(0, .int a0)] [] (mkM C) (.inl (some (.int r))) (mkM C') := by
  unfold f_148 at h
  refine en_iload rfl rfl ?_
  rcases gi h with ⟨c1, h⟩ | ⟨c1, h⟩
  · refine en_if_lt_t c1 rfl ?_
    refine ec_iconst cst_0 rfl ?_
    cases h
    exact en_zret (Or.inl rfl) rfl
  · refine en_if_lt_f c1 rfl ?_
    refine en_iload rfl rfl ?_
    refine ec_iconst cst_30 rfl ?_
    rcases gi h with ⟨c2, h⟩ | ⟨c2, h⟩
    · refine en_icmp_ge_t c2 rfl ?_
      refine ec_iconst cst_0 rfl ?_
      cases h
      exact en_zret (Or.inl rfl) rfl
    · refine en_icmp_ge_f c2 rfl ?_
      refine ec_iconst cst_1 rfl ?_
      refine en_goto rfl ?_
      cases h
      exact en_zret (Or.inr rfl) rfl
/-- BulkWriter.isColumn(I)Z -/
def f_149 (n : Nat) (a0 : Nat) (a1 : Int32) (C : AmC) : Option (Int32 × AmC) := (if a1 < 0 then some ((0 : Int32), C) else if isK a0 9 = true then (cP C a0 4).bind (fun r3 => if isK r3 6 = true then (if (cI C r3 0) ≤ a1 then some ((0 : Int32), C) else some ((1 : Int32), C)) else none) else none)
set_option maxRecDepth 20000 in
set_option maxHeartbeats 4000000 in
theorem t_149 {n : Nat} {a0 : Nat} {a1 : Int32} {C : AmC} {r : Int32} {C' : AmC} (h : f_149 n a0 a1 C = some (r, C')) : En false 149 0 [(0, .ref a0), (1, .int a1)] [] (mkM C) (.inl (some (.int r))) (mkM C') := by
  unfold f_149 at h
  refine en_iload rfl rfl ?_
  rcases gi h with ⟨c1, h⟩ | ⟨c1, h⟩
  · refine en_if_lt_t c1 rfl ?_
    refine ec_iconst cst_0 rfl ?_
    cases h
    exact en_zret (Or.inl rfl) rfl
  · refine en_if_lt_f c1 rfl ?_
    refine en_iload rfl rfl ?_
    refine en_aload rfl rfl ?_
    obtain ⟨g2, h⟩ := gd h
    obtain ⟨r3, e4, h⟩ := gb h
    refine ec_getP (ci := 9) (j := 4) ⟨rfl, rfl, rfl⟩ g2 e4 rfl ?_
    obtain ⟨g5, h⟩ := gd h
    refine ec_getI (ci := 6) (j := 0) ⟨rfl, rfl, rfl⟩ g5 rfl ?_
    rcases gi h with ⟨c6, h⟩ | ⟨c6, h⟩
    · refine en_icmp_ge_t c6 rfl ?_
      refine ec_iconst cst_0 rfl ?_
      cases h
      exact en_zret (Or.inl rfl) rfl
    · refine en_icmp_ge_f c6 rfl ?_
      refine ec_iconst cst_1 rfl ?_
      refine en_goto rfl ?_
      cases h
      exact en_zret (Or.inr rfl) rfl
