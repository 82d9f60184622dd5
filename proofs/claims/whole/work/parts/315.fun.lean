def lp_241_8 : Nat → Nat → Int32 → Int32 → Int32 → AmC → Option (((Nat × Int32 × Int32)) × AmC)
  | 0, _, _, _, _, _ => none
  | n + 1, p0, p1, p2, p3, C => (if (4 : Int32) ≤ p3 then some ((p0, p1, p2), C) else if isK p0 10 = true then (cP C p0 81).bind (fun r4 => if isK r4 12 = true then if amIn p3 (aLen r4) = true then lp_241_8 n p0 p1 p2 (p3 + (1 : Int32)) (uI C r4 (Int32.toNatClampNeg p3) (0 : Int32)) else none else none) else none)
set_option maxRecDepth 20000 in
set_option maxHeartbeats 4000000 in
theorem lt_241_8 : ∀ (n : Nat) (p0 : Nat) (p1 : Int32) (p2 : Int32) (p3 : Int32) (C : AmC) (r : ((Nat × Int32 × Int32)) × AmC), lp_241_8 n p0 p1 p2 p3 C = some r → ∀ (o : AmO) (M' : AmM), (match r with
        | ((w0, w1, w2), C') => En false 241 18 [(0, .ref w0), (1, .int w1), (2, .int w2)] [] (mkM C') o M') → En false 241 8 [(0, .ref p0), (1, .int p1), (2, .int p2), (3, .int p3)] [] (mkM C) o M' := by
  intro n
  induction n with
  | zero => intro p0 p1 p2 p3 C r h; cases h
  | succ n ih =>
    intro p0 p1 p2 p3 C r h o M' hk
    unfold lp_241_8 at h
    refine en_iload rfl rfl ?_
    refine ec_iconst cst_4 rfl ?_
    rcases gi h with ⟨c2, h⟩ | ⟨c2, h⟩
    · refine en_icmp_ge_t c2 rfl ?_
      cases h
      exact en_sub [0, 1, 2] rfl rfl hk
    · refine en_icmp_ge_f c2 rfl ?_
      refine en_aload rfl rfl ?_
      obtain ⟨g3, h⟩ := gd h
      obtain ⟨r4, e5, h⟩ := gb h
      refine ec_getP (ci := 10) (j := 81) ⟨rfl, rfl, rfl⟩ g3 e5 rfl ?_
      refine en_iload rfl rfl ?_
      refine ec_iconst cst_0 rfl ?_
      obtain ⟨g6, h⟩ := gd h
      obtain ⟨g7, h⟩ := gd h
      refine ec_iastore g6 g7 rfl ?_
      refine ec_iinc (l' := [(3, .int (p3 + (1 : Int32))), (0, .ref p0), (1, .int p1), (2, .int p2)]) rfl cst_1 rfl rfl ?_
      refine en_goto rfl ?_
      refine en_sub [1, 2, 3, 0] rfl rfl ?_
      exact ih _ _ _ _ _ _ h o M' hk
def lp_241_46 : Nat → Nat → Int32 → Int32 → Int32 → Int32 → Int32 → Int32 → AmC → Option (((Nat × Int32 × Int32 × Int32 × Int32 × Int32)) × AmC)
  | 0, _, _, _, _, _, _, _, _ => none
  | n + 1, p0, p1, p2, p3, p4, p5, p6, C => (if p6 = (-1 : Int32) then some ((p0, p1, p2, p3, p4, p5), C) else if isK p0 10 = true then (cP (uI C p0 69 ((cI C p0 69) + (1 : Int32))) p0 32).bind (fun r30 => if isK r30 12 = true then if amIn p1 (aLen r30) = true then (if ¬ (cI (uI C p0 69 ((cI C p0 69) + (1 : Int32))) r30 (Int32.toNatClampNeg p1)) = (3 : Int32) then (f_210 n p0 p6 (uI C p0 69 ((cI C p0 69) + (1 : Int32)))).bind (fun z => match z with | (q35, C36) => (if ¬ p5 = 0 then (if ¬ q35 = 0 then (cP C36 p0 81).bind (fun r40 => if isK r40 12 = true then if amIn (1 : Int32) (aLen r40) = true then if amIn (1 : Int32) (aLen r40) = true then (if ¬ q35 = 0 then (cP (uI C36 r40 (Int32.toNatClampNeg (1 : Int32)) ((cI C36 r40 (Int32.toNatClampNeg (1 : Int32))) + (1 : Int32))) p0 81).bind (fun r46 => if isK r46 12 = true then if amIn (2 : Int32) (aLen r46) = true then if amIn (2 : Int32) (aLen r46) = true then (cP (uI (uI C36 r40 (Int32.toNatClampNeg (1 : Int32)) ((cI C36 r40 (Int32.toNatClampNeg (1 : Int32))) + (1 : Int32))) r46 (Int32.toNatClampNeg (2 : Int32)) ((cI (uI C36 r40 (Int32.toNatClampNeg (1 : Int32)) ((cI C36 r40 (Int32.toNatClampNeg (1 : Int32))) + (1 : Int32))) r46 (Int32.toNatClampNeg (2 : Int32))) + (1 : Int32))) p0 81).bind (fun r51 => if isK r51 12 = true then if amIn (3 : Int32) (aLen r51) = true then (cP (uI (uI C36 r40 (Int32.toNatClampNeg (1 : Int32)) ((cI C36 r40 (Int32.toNatClampNeg (1 : Int32))) + (1 : Int32))) r46 (Int32.toNatClampNeg (2 : Int32)) ((cI (uI C36 r40 (Int32.toNatClampNeg (1 : Int32)) ((cI C36 r40 (Int32.toNatClampNeg (1 : Int32))) + (1 : Int32))) r46 (Int32.toNatClampNeg (2 : Int32))) + (1 : Int32))) p0 32).bind (fun r55 => if isK r55 12 = true then if amIn p1 (aLen r55) = true then (if (cI (uI (uI C36 r40 (Int32.toNatClampNeg (1 : Int32)) ((cI C36 r40 (Int32.toNatClampNeg (1 : Int32))) + (1 : Int32))) r46 (Int32.toNatClampNeg (2 : Int32)) ((cI (uI C36 r40 (Int32.toNatClampNeg (1 : Int32)) ((cI C36 r40 (Int32.toNatClampNeg (1 : Int32))) + (1 : Int32))) r46 (Int32.toNatClampNeg (2 : Int32))) + (1 : Int32))) r55 (Int32.toNatClampNeg p1)) = (3 : Int32) then (cP (uI (uI C36 r40 (Int32.toNatClampNeg (1 : Int32)) ((cI C36 r40 (Int32.toNatClampNeg (1 : Int32))) + (1 : Int32))) r46 (Int32.toNatClampNeg (2 : Int32)) ((cI (uI C36 r40 (Int32.toNatClampNeg (1 : Int32)) ((cI C36 r40 (Int32.toNatClampNeg (1 : Int32))) + (1 : Int32))) r46 (Int32.toNatClampNeg (2 : Int32))) + (1 : Int32))) p0 33).bind (fun r60 => if isK r60 12 = true then if amIn p1 (aLen r60) = true then (if ¬ (cI (uI (uI C36 r40 (Int32.toNatClampNeg (1 : Int32)) ((cI C36 r40 (Int32.toNatClampNeg (1 : Int32))) + (1 : Int32))) r46 (Int32.toNatClampNeg (2 : Int32)) ((cI (uI C36 r40 (Int32.toNatClampNeg (1 : Int32)) ((cI C36 r40 (Int32.toNatClampNeg (1 : Int32))) + (1 : Int32))) r46 (Int32.toNatClampNeg (2 : Int32))) + (1 : Int32))) r60 (Int32.toNatClampNeg p1)) = (2 : Int32) then (cP (uI (uI C36 r40 (Int32.toNatClampNeg (1 : Int32)) ((cI C36 r40 (Int32.toNatClampNeg (1 : Int32))) + (1 : Int32))) r46 (Int32.toNatClampNeg (2 : Int32)) ((cI (uI C36 r40 (Int32.toNatClampNeg (1 : Int32)) ((cI C36 r40 (Int32.toNatClampNeg (1 : Int32))) + (1 : Int32))) r46 (Int32.toNatClampNeg (2 : Int32))) + (1 : Int32))) p0 33).bind (fun r65 => if isK r65 12 = true then if amIn p1 (aLen r65) = true then (if ¬ (cI (uI (uI C36 r40 (Int32.toNatClampNeg (1 : Int32)) ((cI C36 r40 (Int32.toNatClampNeg (1 : Int32))) + (1 : Int32))) r46 (Int32.toNatClampNeg (2 : Int32)) ((cI (uI C36 r40 (Int32.toNatClampNeg (1 : Int32)) ((cI C36 r40 (Int32.toNatClampNeg (1 : Int32))) + (1 : Int32))) r46 (Int32.toNatClampNeg (2 : Int32))) + (1 : Int32))) r65 (Int32.toNatClampNeg p1)) = (1 : Int32) then (f_239 n p0 p1 (uI (uI C36 r40 (Int32.toNatClampNeg (1 : Int32)) ((cI C36 r40 (Int32.toNatClampNeg (1 : Int32))) + (1 : Int32))) r46 (Int32.toNatClampNeg (2 : Int32)) ((cI (uI C36 r40 (Int32.toNatClampNeg (1 : Int32)) ((cI C36 r40 (Int32.toNatClampNeg (1 : Int32))) + (1 : Int32))) r46 (Int32.toNatClampNeg (2 : Int32))) + (1 : Int32)))).bind (fun z => match z with | (q70, C71) => if amIn (3 : Int32) (aLen r51) = true then (f_205 n p0 p4 (uI C71 r51 (Int32.toNatClampNeg (3 : Int32)) ((cI (uI (uI C36 r40 (Int32.toNatClampNeg (1 : Int32)) ((cI C36 r40 (Int32.toNatClampNeg (1 : Int32))) + (1 : Int32))) r46 (Int32.toNatClampNeg (2 : Int32)) ((cI (uI C36 r40 (Int32.toNatClampNeg (1 : Int32)) ((cI C36 r40 (Int32.toNatClampNeg (1 : Int32))) + (1 : Int32))) r46 (Int32.toNatClampNeg (2 : Int32))) + (1 : Int32))) r51 (Int32.toNatClampNeg (3 : Int32))) + ((1 : Int32) + q70)))).bind (fun z => match z with | (q74, C75) => lp_241_46 n p0 p1 p2 p3 p4 (1 : Int32) q74 C75) else none) else if amIn (3 : Int32) (aLen r51) = true then (f_205 n p0 p4 (uI (uI (uI C36 r40 (Int32.toNatClampNeg (1 : Int32)) ((cI C36 r40 (Int32.toNatClampNeg (1 : Int32))) + (1 : Int32))) r46 (Int32.toNatClampNeg (2 : Int32)) ((cI (uI C36 r40 (Int32.toNatClampNeg (1 : Int32)) ((cI C36 r40 (Int32.toNatClampNeg (1 : Int32))) + (1 : Int32))) r46 (Int32.toNatClampNeg (2 : Int32))) + (1 : Int32))) r51 (Int32.toNatClampNeg (3 : Int32)) ((cI (uI (uI C36 r40 (Int32.toNatClampNeg (1 : Int32)) ((cI C36 r40 (Int32.toNatClampNeg (1 : Int32))) + (1 : Int32))) r46 (Int32.toNatClampNeg (2 : Int32)) ((cI (uI C36 r40 (Int32.toNatClampNeg (1 : Int32)) ((cI C36 r40 (Int32.toNatClampNeg (1 : Int32))) + (1 : Int32))) r46 (Int32.toNatClampNeg (2 : Int32))) + (1 : Int32))) r51 (Int32.toNatClampNeg (3 : Int32))) + (1 : Int32)))).bind (fun z => match z with | (q78, C79) => lp_241_46 n p0 p1 p2 p3 p4 (1 : Int32) q78 C79) else none) else none else none) else if amIn (3 : Int32) (aLen r51) = true then (f_205 n p0 p4 (uI (uI (uI C36 r40 (Int32.toNatClampNeg (1 : Int32)) ((cI C36 r40 (Int32.toNatClampNeg (1 : Int32))) + (1 : Int32))) r46 (Int32.toNatClampNeg (2 : Int32)) ((cI (uI C36 r40 (Int32.toNatClampNeg (1 : Int32)) ((cI C36 r40 (Int32.toNatClampNeg (1 : Int32))) + (1 : Int32))) r46 (Int32.toNatClampNeg (2 : Int32))) + (1 : Int32))) r51 (Int32.toNatClampNeg (3 : Int32)) ((cI (uI (uI C36 r40 (Int32.toNatClampNeg (1 : Int32)) ((cI C36 r40 (Int32.toNatClampNeg (1 : Int32))) + (1 : Int32))) r46 (Int32.toNatClampNeg (2 : Int32)) ((cI (uI C36 r40 (Int32.toNatClampNeg (1 : Int32)) ((cI C36 r40 (Int32.toNatClampNeg (1 : Int32))) + (1 : Int32))) r46 (Int32.toNatClampNeg (2 : Int32))) + (1 : Int32))) r51 (Int32.toNatClampNeg (3 : Int32))) + (0 : Int32)))).bind (fun z => match z with | (q82, C83) => lp_241_46 n p0 p1 p2 p3 p4 (1 : Int32) q82 C83) else none) else none else none) else (f_240 n p0 p1 (uI (uI C36 r40 (Int32.toNatClampNeg (1 : Int32)) ((cI C36 r40 (Int32.toNatClampNeg (1 : Int32))) + (1 : Int32))) r46 (Int32.toNatClampNeg (2 : Int32)) ((cI (uI C36 r40 (Int32.toNatClampNeg (1 : Int32)) ((cI C36 r40 (Int32.toNatClampNeg (1 : Int32))) + (1 : Int32))) r46 (Int32.toNatClampNeg (2 : Int32))) + (1 : Int32)))).bind (fun z => match z with | (q85, C86) => if amIn (3 : Int32) (aLen r51) = true then (f_205 n p0 p4 (uI C86 r51 (Int32.toNatClampNeg (3 : Int32)) ((cI (uI (uI C36 r40 (Int32.toNatClampNeg (1 : Int32)) ((cI C36 r40 (Int32.toNatClampNeg (1 : Int32))) + (1 : Int32))) r46 (Int32.toNatClampNeg (2 : Int32)) ((cI (uI C36 r40 (Int32.toNatClampNeg (1 : Int32)) ((cI C36 r40 (Int32.toNatClampNeg (1 : Int32))) + (1 : Int32))) r46 (Int32.toNatClampNeg (2 : Int32))) + (1 : Int32))) r51 (Int32.toNatClampNeg (3 : Int32))) + q85))).bind (fun z => match z with | (q89, C90) => lp_241_46 n p0 p1 p2 p3 p4 (1 : Int32) q89 C90) else none)) else none else none) else none else none) else none else none else none) else (f_205 n p0 p4 (uI C36 r40 (Int32.toNatClampNeg (1 : Int32)) ((cI C36 r40 (Int32.toNatClampNeg (1 : Int32))) + (1 : Int32)))).bind (fun z => match z with | (q92, C93) => lp_241_46 n p0 p1 p2 p3 p4 (1 : Int32) q92 C93)) else none else none else none) else (cP C36 p0 32).bind (fun r95 => if isK r95 12 = true then if amIn p1 (aLen r95) = true then (if (cI C36 r95 (Int32.toNatClampNeg p1)) = (3 : Int32) then (if ¬ q35 = 0 then (cP C36 p0 81).bind (fun r101 => if isK r101 12 = true then if amIn (2 : Int32) (aLen r101) = true then if amIn (2 : Int32) (aLen r101) = true then (cP (uI C36 r101 (Int32.toNatClampNeg (2 : Int32)) ((cI C36 r101 (Int32.toNatClampNeg (2 : Int32))) + (1 : Int32))) p0 81).bind (fun r106 => if isK r106 12 = true then if amIn (3 : Int32) (aLen r106) = true then (cP (uI C36 r101 (Int32.toNatClampNeg (2 : Int32)) ((cI C36 r101 (Int32.toNatClampNeg (2 : Int32))) + (1 : Int32))) p0 32).bind (fun r110 => if isK r110 12 = true then if amIn p1 (aLen r110) = true then (if (cI (uI C36 r101 (Int32.toNatClampNeg (2 : Int32)) ((cI C36 r101 (Int32.toNatClampNeg (2 : Int32))) + (1 : Int32))) r110 (Int32.toNatClampNeg p1)) = (3 : Int32) then (cP (uI C36 r101 (Int32.toNatClampNeg (2 : Int32)) ((cI C36 r101 (Int32.toNatClampNeg (2 : Int32))) + (1 : Int32))) p0 33).bind (fun r115 => if isK r115 12 = true then if amIn p1 (aLen r115) = true then (if ¬ (cI (uI C36 r101 (Int32.toNatClampNeg (2 : Int32)) ((cI C36 r101 (Int32.toNatClampNeg (2 : Int32))) + (1 : Int32))) r115 (Int32.toNatClampNeg p1)) = (2 : Int32) then (cP (uI C36 r101 (Int32.toNatClampNeg (2 : Int32)) ((cI C36 r101 (Int32.toNatClampNeg (2 : Int32))) + (1 : Int32))) p0 33).bind (fun r120 => if isK r120 12 = true then if amIn p1 (aLen r120) = true then (if ¬ (cI (uI C36 r101 (Int32.toNatClampNeg (2 : Int32)) ((cI C36 r101 (Int32.toNatClampNeg (2 : Int32))) + (1 : Int32))) r120 (Int32.toNatClampNeg p1)) = (1 : Int32) then (f_239 n p0 p1 (uI C36 r101 (Int32.toNatClampNeg (2 : Int32)) ((cI C36 r101 (Int32.toNatClampNeg (2 : Int32))) + (1 : Int32)))).bind (fun z => match z with | (q125, C126) => if amIn (3 : Int32) (aLen r106) = true then (f_205 n p0 p4 (uI C126 r106 (Int32.toNatClampNeg (3 : Int32)) ((cI (uI C36 r101 (Int32.toNatClampNeg (2 : Int32)) ((cI C36 r101 (Int32.toNatClampNeg (2 : Int32))) + (1 : Int32))) r106 (Int32.toNatClampNeg (3 : Int32))) + ((1 : Int32) + q125)))).bind (fun z => match z with | (q129, C130) => lp_241_46 n p0 p1 p2 p3 p4 (1 : Int32) q129 C130) else none) else if amIn (3 : Int32) (aLen r106) = true then (f_205 n p0 p4 (uI (uI C36 r101 (Int32.toNatClampNeg (2 : Int32)) ((cI C36 r101 (Int32.toNatClampNeg (2 : Int32))) + (1 : Int32))) r106 (Int32.toNatClampNeg (3 : Int32)) ((cI (uI C36 r101 (Int32.toNatClampNeg (2 : Int32)) ((cI C36 r101 (Int32.toNatClampNeg (2 : Int32))) + (1 : Int32))) r106 (Int32.toNatClampNeg (3 : Int32))) + (1 : Int32)))).bind (fun z => match z with | (q133, C134) => lp_241_46 n p0 p1 p2 p3 p4 (1 : Int32) q133 C134) else none) else none else none) else if amIn (3 : Int32) (aLen r106) = true then (f_205 n p0 p4 (uI (uI C36 r101 (Int32.toNatClampNeg (2 : Int32)) ((cI C36 r101 (Int32.toNatClampNeg (2 : Int32))) + (1 : Int32))) r106 (Int32.toNatClampNeg (3 : Int32)) ((cI (uI C36 r101 (Int32.toNatClampNeg (2 : Int32)) ((cI C36 r101 (Int32.toNatClampNeg (2 : Int32))) + (1 : Int32))) r106 (Int32.toNatClampNeg (3 : Int32))) + (0 : Int32)))).bind (fun z => match z with | (q137, C138) => lp_241_46 n p0 p1 p2 p3 p4 (1 : Int32) q137 C138) else none) else none else none) else (f_240 n p0 p1 (uI C36 r101 (Int32.toNatClampNeg (2 : Int32)) ((cI C36 r101 (Int32.toNatClampNeg (2 : Int32))) + (1 : Int32)))).bind (fun z => match z with | (q140, C141) => if amIn (3 : Int32) (aLen r106) = true then (f_205 n p0 p4 (uI C141 r106 (Int32.toNatClampNeg (3 : Int32)) ((cI (uI C36 r101 (Int32.toNatClampNeg (2 : Int32)) ((cI C36 r101 (Int32.toNatClampNeg (2 : Int32))) + (1 : Int32))) r106 (Int32.toNatClampNeg (3 : Int32))) + q140))).bind (fun z => match z with | (q144, C145) => lp_241_46 n p0 p1 p2 p3 p4 (1 : Int32) q144 C145) else none)) else none else none) else none else none) else none else none else none) else (f_205 n p0 p4 C36).bind (fun z => match z with | (q147, C148) => lp_241_46 n p0 p1 p2 p3 p4 (1 : Int32) q147 C148)) else (cP C36 p0 81).bind (fun r150 => if isK r150 12 = true then if amIn (1 : Int32) (aLen r150) = true then if amIn (1 : Int32) (aLen r150) = true then (if ¬ q35 = 0 then (cP (uI C36 r150 (Int32.toNatClampNeg (1 : Int32)) ((cI C36 r150 (Int32.toNatClampNeg (1 : Int32))) + (1 : Int32))) p0 81).bind (fun r156 => if isK r156 12 = true then if amIn (2 : Int32) (aLen r156) = true then if amIn (2 : Int32) (aLen r156) = true then (cP (uI (uI C36 r150 (Int32.toNatClampNeg (1 : Int32)) ((cI C36 r150 (Int32.toNatClampNeg (1 : Int32))) + (1 : Int32))) r156 (Int32.toNatClampNeg (2 : Int32)) ((cI (uI C36 r150 (Int32.toNatClampNeg (1 : Int32)) ((cI C36 r150 (Int32.toNatClampNeg (1 : Int32))) + (1 : Int32))) r156 (Int32.toNatClampNeg (2 : Int32))) + (1 : Int32))) p0 81).bind (fun r161 => if isK r161 12 = true then if amIn (3 : Int32) (aLen r161) = true then (cP (uI (uI C36 r150 (Int32.toNatClampNeg (1 : Int32)) ((cI C36 r150 (Int32.toNatClampNeg (1 : Int32))) + (1 : Int32))) r156 (Int32.toNatClampNeg (2 : Int32)) ((cI (uI C36 r150 (Int32.toNatClampNeg (1 : Int32)) ((cI C36 r150 (Int32.toNatClampNeg (1 : Int32))) + (1 : Int32))) r156 (Int32.toNatClampNeg (2 : Int32))) + (1 : Int32))) p0 32).bind (fun r165 => if isK r165 12 = true then if amIn p1 (aLen r165) = true then (if (cI (uI (uI C36 r150 (Int32.toNatClampNeg (1 : Int32)) ((cI C36 r150 (Int32.toNatClampNeg (1 : Int32))) + (1 : Int32))) r156 (Int32.toNatClampNeg (2 : Int32)) ((cI (uI C36 r150 (Int32.toNatClampNeg (1 : Int32)) ((cI C36 r150 (Int32.toNatClampNeg (1 : Int32))) + (1 : Int32))) r156 (Int32.toNatClampNeg (2 : Int32))) + (1 : Int32))) r165 (Int32.toNatClampNeg p1)) = (3 : Int32) then (cP (uI (uI C36 r150 (Int32.toNatClampNeg (1 : Int32)) ((cI C36 r150 (Int32.toNatClampNeg (1 : Int32))) + (1 : Int32))) r156 (Int32.toNatClampNeg (2 : Int32)) ((cI (uI C36 r150 (Int32.toNatClampNeg (1 : Int32)) ((cI C36 r150 (Int32.toNatClampNeg (1 : Int32))) + (1 : Int32))) r156 (Int32.toNatClampNeg (2 : Int32))) + (1 : Int32))) p0 33).bind (fun r170 => if isK r170 12 = true then if amIn p1 (aLen r170) = true then (if ¬ (cI (uI (uI C36 r150 (Int32.toNatClampNeg (1 : Int32)) ((cI C36 r150 (Int32.toNatClampNeg (1 : Int32))) + (1 : Int32))) r156 (Int32.toNatClampNeg (2 : Int32)) ((cI (uI C36 r150 (Int32.toNatClampNeg (1 : Int32)) ((cI C36 r150 (Int32.toNatClampNeg (1 : Int32))) + (1 : Int32))) r156 (Int32.toNatClampNeg (2 : Int32))) + (1 : Int32))) r170 (Int32.toNatClampNeg p1)) = (2 : Int32) then (cP (uI (uI C36 r150 (Int32.toNatClampNeg (1 : Int32)) ((cI C36 r150 (Int32.toNatClampNeg (1 : Int32))) + (1 : Int32))) r156 (Int32.toNatClampNeg (2 : Int32)) ((cI (uI C36 r150 (Int32.toNatClampNeg (1 : Int32)) ((cI C36 r150 (Int32.toNatClampNeg (1 : Int32))) + (1 : Int32))) r156 (Int32.toNatClampNeg (2 : Int32))) + (1 : Int32))) p0 33).bind (fun r175 => if isK r175 12 = true then if amIn p1 (aLen r175) = true then (if ¬ (cI (uI (uI C36 r150 (Int32.toNatClampNeg (1 : Int32)) ((cI C36 r150 (Int32.toNatClampNeg (1 : Int32))) + (1 : Int32))) r156 (Int32.toNatClampNeg (2 : Int32)) ((cI (uI C36 r150 (Int32.toNatClampNeg (1 : Int32)) ((cI C36 r150 (Int32.toNatClampNeg (1 : Int32))) + (1 : Int32))) r156 (Int32.toNatClampNeg (2 : Int32))) + (1 : Int32))) r175 (Int32.toNatClampNeg p1)) = (1 : Int32) then (f_239 n p0 p1 (uI (uI C36 r150 (Int32.toNatClampNeg (1 : Int32)) ((cI C36 r150 (Int32.toNatClampNeg (1 : Int32))) + (1 : Int32))) r156 (Int32.toNatClampNeg (2 : Int32)) ((cI (uI C36 r150 (Int32.toNatClampNeg (1 : Int32)) ((cI C36 r150 (Int32.toNatClampNeg (1 : Int32))) + (1 : Int32))) r156 (Int32.toNatClampNeg (2 : Int32))) + (1 : Int32)))).bind (fun z => match z with | (q180, C181) => if amIn (3 : Int32) (aLen r161) = true then (f_205 n p0 p4 (uI C181 r161 (Int32.toNatClampNeg (3 : Int32)) ((cI (uI (uI C36 r150 (Int32.toNatClampNeg (1 : Int32)) ((cI C36 r150 (Int32.toNatClampNeg (1 : Int32))) + (1 : Int32))) r156 (Int32.toNatClampNeg (2 : Int32)) ((cI (uI C36 r150 (Int32.toNatClampNeg (1 : Int32)) ((cI C36 r150 (Int32.toNatClampNeg (1 : Int32))) + (1 : Int32))) r156 (Int32.toNatClampNeg (2 : Int32))) + (1 : Int32))) r161 (Int32.toNatClampNeg (3 : Int32))) + ((1 : Int32) + q180)))).bind (fun z => match z with | (q184, C185) => lp_241_46 n p0 p1 p2 p3 p4 (1 : Int32) q184 C185) else none) else if amIn (3 : Int32) (aLen r161) = true then (f_205 n p0 p4 (uI (uI (uI C36 r150 (Int32.toNatClampNeg (1 : Int32)) ((cI C36 r150 (Int32.toNatClampNeg (1 : Int32))) + (1 : Int32))) r156 (Int32.toNatClampNeg (2 : Int32)) ((cI (uI C36 r150 (Int32.toNatClampNeg (1 : Int32)) ((cI C36 r150 (Int32.toNatClampNeg (1 : Int32))) + (1 : Int32))) r156 (Int32.toNatClampNeg (2 : Int32))) + (1 : Int32))) r161 (Int32.toNatClampNeg (3 : Int32)) ((cI (uI (uI C36 r150 (Int32.toNatClampNeg (1 : Int32)) ((cI C36 r150 (Int32.toNatClampNeg (1 : Int32))) + (1 : Int32))) r156 (Int32.toNatClampNeg (2 : Int32)) ((cI (uI C36 r150 (Int32.toNatClampNeg (1 : Int32)) ((cI C36 r150 (Int32.toNatClampNeg (1 : Int32))) + (1 : Int32))) r156 (Int32.toNatClampNeg (2 : Int32))) + (1 : Int32))) r161 (Int32.toNatClampNeg (3 : Int32))) + (1 : Int32)))).bind (fun z => match z with | (q188, C189) => lp_241_46 n p0 p1 p2 p3 p4 (1 : Int32) q188 C189) else none) else none else none) else if amIn (3 : Int32) (aLen r161) = true then (f_205 n p0 p4 (uI (uI (uI C36 r150 (Int32.toNatClampNeg (1 : Int32)) ((cI C36 r150 (Int32.toNatClampNeg (1 : Int32))) + (1 : Int32))) r156 (Int32.toNatClampNeg (2 : Int32)) ((cI (uI C36 r150 (Int32.toNatClampNeg (1 : Int32)) ((cI C36 r150 (Int32.toNatClampNeg (1 : Int32))) + (1 : Int32))) r156 (Int32.toNatClampNeg (2 : Int32))) + (1 : Int32))) r161 (Int32.toNatClampNeg (3 : Int32)) ((cI (uI (uI C36 r150 (Int32.toNatClampNeg (1 : Int32)) ((cI C36 r150 (Int32.toNatClampNeg (1 : Int32))) + (1 : Int32))) r156 (Int32.toNatClampNeg (2 : Int32)) ((cI (uI C36 r150 (Int32.toNatClampNeg (1 : Int32)) ((cI C36 r150 (Int32.toNatClampNeg (1 : Int32))) + (1 : Int32))) r156 (Int32.toNatClampNeg (2 : Int32))) + (1 : Int32))) r161 (Int32.toNatClampNeg (3 : Int32))) + (0 : Int32)))).bind (fun z => match z with | (q192, C193) => lp_241_46 n p0 p1 p2 p3 p4 (1 : Int32) q192 C193) else none) else none else none) else (f_240 n p0 p1 (uI (uI C36 r150 (Int32.toNatClampNeg (1 : Int32)) ((cI C36 r150 (Int32.toNatClampNeg (1 : Int32))) + (1 : Int32))) r156 (Int32.toNatClampNeg (2 : Int32)) ((cI (uI C36 r150 (Int32.toNatClampNeg (1 : Int32)) ((cI C36 r150 (Int32.toNatClampNeg (1 : Int32))) + (1 : Int32))) r156 (Int32.toNatClampNeg (2 : Int32))) + (1 : Int32)))).bind (fun z => match z with | (q195, C196) => if amIn (3 : Int32) (aLen r161) = true then (f_205 n p0 p4 (uI C196 r161 (Int32.toNatClampNeg (3 : Int32)) ((cI (uI (uI C36 r150 (Int32.toNatClampNeg (1 : Int32)) ((cI C36 r150 (Int32.toNatClampNeg (1 : Int32))) + (1 : Int32))) r156 (Int32.toNatClampNeg (2 : Int32)) ((cI (uI C36 r150 (Int32.toNatClampNeg (1 : Int32)) ((cI C36 r150 (Int32.toNatClampNeg (1 : Int32))) + (1 : Int32))) r156 (Int32.toNatClampNeg (2 : Int32))) + (1 : Int32))) r161 (Int32.toNatClampNeg (3 : Int32))) + q195))).bind (fun z => match z with | (q199, C200) => lp_241_46 n p0 p1 p2 p3 p4 (1 : Int32) q199 C200) else none)) else none else none) else none else none) else none else none else none) else (f_205 n p0 p4 (uI C36 r150 (Int32.toNatClampNeg (1 : Int32)) ((cI C36 r150 (Int32.toNatClampNeg (1 : Int32))) + (1 : Int32)))).bind (fun z => match z with | (q202, C203) => lp_241_46 n p0 p1 p2 p3 p4 (1 : Int32) q202 C203)) else none else none else none)) else none else none)) else (if q35 = 0 then (if ¬ q35 = 0 then (cP C36 p0 81).bind (fun r207 => if isK r207 12 = true then if amIn (1 : Int32) (aLen r207) = true then if amIn (1 : Int32) (aLen r207) = true then (if ¬ q35 = 0 then (cP (uI C36 r207 (Int32.toNatClampNeg (1 : Int32)) ((cI C36 r207 (Int32.toNatClampNeg (1 : Int32))) + (1 : Int32))) p0 81).bind (fun r213 => if isK r213 12 = true then if amIn (2 : Int32) (aLen r213) = true then if amIn (2 : Int32) (aLen r213) = true then (cP (uI (uI C36 r207 (Int32.toNatClampNeg (1 : Int32)) ((cI C36 r207 (Int32.toNatClampNeg (1 : Int32))) + (1 : Int32))) r213 (Int32.toNatClampNeg (2 : Int32)) ((cI (uI C36 r207 (Int32.toNatClampNeg (1 : Int32)) ((cI C36 r207 (Int32.toNatClampNeg (1 : Int32))) + (1 : Int32))) r213 (Int32.toNatClampNeg (2 : Int32))) + (1 : Int32))) p0 81).bind (fun r218 => if isK r218 12 = true then if amIn (3 : Int32) (aLen r218) = true then (cP (uI (uI C36 r207 (Int32.toNatClampNeg (1 : Int32)) ((cI C36 r207 (Int32.toNatClampNeg (1 : Int32))) + (1 : Int32))) r213 (Int32.toNatClampNeg (2 : Int32)) ((cI (uI C36 r207 (Int32.toNatClampNeg (1 : Int32)) ((cI C36 r207 (Int32.toNatClampNeg (1 : Int32))) + (1 : Int32))) r213 (Int32.toNatClampNeg (2 : Int32))) + (1 : Int32))) p0 32).bind (fun r222 => if isK r222 12 = true then if amIn p1 (aLen r222) = true then (if (cI (uI (uI C36 r207 (Int32.toNatClampNeg (1 : Int32)) ((cI C36 r207 (Int32.toNatClampNeg (1 : Int32))) + (1 : Int32))) r213 (Int32.toNatClampNeg (2 : Int32)) ((cI (uI C36 r207 (Int32.toNatClampNeg (1 : Int32)) ((cI C36 r207 (Int32.toNatClampNeg (1 : Int32))) + (1 : Int32))) r213 (Int32.toNatClampNeg (2 : Int32))) + (1 : Int32))) r222 (Int32.toNatClampNeg p1)) = (3 : Int32) then (cP (uI (uI C36 r207 (Int32.toNatClampNeg (1 : Int32)) ((cI C36 r207 (Int32.toNatClampNeg (1 : Int32))) + (1 : Int32))) r213 (Int32.toNatClampNeg (2 : Int32)) ((cI (uI C36 r207 (Int32.toNatClampNeg (1 : Int32)) ((cI C36 r207 (Int32.toNatClampNeg (1 : Int32))) + (1 : Int32))) r213 (Int32.toNatClampNeg (2 : Int32))) + (1 : Int32))) p0 33).bind (fun r227 => if isK r227 12 = true then if amIn p1 (aLen r227) = true then (if ¬ (cI (uI (uI C36 r207 (Int32.toNatClampNeg (1 : Int32)) ((cI C36 r207 (Int32.toNatClampNeg (1 : Int32))) + (1 : Int32))) r213 (Int32.toNatClampNeg (2 : Int32)) ((cI (uI C36 r207 (Int32.toNatClampNeg (1 : Int32)) ((cI C36 r207 (Int32.toNatClampNeg (1 : Int32))) + (1 : Int32))) r213 (Int32.toNatClampNeg (2 : Int32))) + (1 : Int32))) r227 (Int32.toNatClampNeg p1)) = (2 : Int32) then (cP (uI (uI C36 r207 (Int32.toNatClampNeg (1 : Int32)) ((cI C36 r207 (Int32.toNatClampNeg (1 : Int32))) + (1 : Int32))) r213 (Int32.toNatClampNeg (2 : Int32)) ((cI (uI C36 r207 (Int32.toNatClampNeg (1 : Int32)) ((cI C36 r207 (Int32.toNatClampNeg (1 : Int32))) + (1 : Int32))) r213 (Int32.toNatClampNeg (2 : Int32))) + (1 : Int32))) p0 33).bind (fun r232 => if isK r232 12 = true then if amIn p1 (aLen r232) = true then (if ¬ (cI (uI (uI C36 r207 (Int32.toNatClampNeg (1 : Int32)) ((cI C36 r207 (Int32.toNatClampNeg (1 : Int32))) + (1 : Int32))) r213 (Int32.toNatClampNeg (2 : Int32)) ((cI (uI C36 r207 (Int32.toNatClampNeg (1 : Int32)) ((cI C36 r207 (Int32.toNatClampNeg (1 : Int32))) + (1 : Int32))) r213 (Int32.toNatClampNeg (2 : Int32))) + (1 : Int32))) r232 (Int32.toNatClampNeg p1)) = (1 : Int32) then (f_239 n p0 p1 (uI (uI C36 r207 (Int32.toNatClampNeg (1 : Int32)) ((cI C36 r207 (Int32.toNatClampNeg (1 : Int32))) + (1 : Int32))) r213 (Int32.toNatClampNeg (2 : Int32)) ((cI (uI C36 r207 (Int32.toNatClampNeg (1 : Int32)) ((cI C36 r207 (Int32.toNatClampNeg (1 : Int32))) + (1 : Int32))) r213 (Int32.toNatClampNeg (2 : Int32))) + (1 : Int32)))).bind (fun z => match z with | (q237, C238) => if amIn (3 : Int32) (aLen r218) = true then (f_205 n p0 p4 (uI C238 r218 (Int32.toNatClampNeg (3 : Int32)) ((cI (uI (uI C36 r207 (Int32.toNatClampNeg (1 : Int32)) ((cI C36 r207 (Int32.toNatClampNeg (1 : Int32))) + (1 : Int32))) r213 (Int32.toNatClampNeg (2 : Int32)) ((cI (uI C36 r207 (Int32.toNatClampNeg (1 : Int32)) ((cI C36 r207 (Int32.toNatClampNeg (1 : Int32))) + (1 : Int32))) r213 (Int32.toNatClampNeg (2 : Int32))) + (1 : Int32))) r218 (Int32.toNatClampNeg (3 : Int32))) + ((1 : Int32) + q237)))).bind (fun z => match z with | (q241, C242) => lp_241_46 n p0 p1 p2 p3 p4 (0 : Int32) q241 C242) else none) else if amIn (3 : Int32) (aLen r218) = true then (f_205 n p0 p4 (uI (uI (uI C36 r207 (Int32.toNatClampNeg (1 : Int32)) ((cI C36 r207 (Int32.toNatClampNeg (1 : Int32))) + (1 : Int32))) r213 (Int32.toNatClampNeg (2 : Int32)) ((cI (uI C36 r207 (Int32.toNatClampNeg (1 : Int32)) ((cI C36 r207 (Int32.toNatClampNeg (1 : Int32))) + (1 : Int32))) r213 (Int32.toNatClampNeg (2 : Int32))) + (1 : Int32))) r218 (Int32.toNatClampNeg (3 : Int32)) ((cI (uI (uI C36 r207 (Int32.toNatClampNeg (1 : Int32)) ((cI C36 r207 (Int32.toNatClampNeg (1 : Int32))) + (1 : Int32))) r213 (Int32.toNatClampNeg (2 : Int32)) ((cI (uI C36 r207 (Int32.toNatClampNeg (1 : Int32)) ((cI C36 r207 (Int32.toNatClampNeg (1 : Int32))) + (1 : Int32))) r213 (Int32.toNatClampNeg (2 : Int32))) + (1 : Int32))) r218 (Int32.toNatClampNeg (3 : Int32))) + (1 : Int32)))).bind (fun z => match z with | (q245, C246) => lp_241_46 n p0 p1 p2 p3 p4 (0 : Int32) q245 C246) else none) else none else none) else if amIn (3 : Int32) (aLen r218) = true then (f_205 n p0 p4 (uI (uI (uI C36 r207 (Int32.toNatClampNeg (1 : Int32)) ((cI C36 r207 (Int32.toNatClampNeg (1 : Int32))) + (1 : Int32))) r213 (Int32.toNatClampNeg (2 : Int32)) ((cI (uI C36 r207 (Int32.toNatClampNeg (1 : Int32)) ((cI C36 r207 (Int32.toNatClampNeg (1 : Int32))) + (1 : Int32))) r213 (Int32.toNatClampNeg (2 : Int32))) + (1 : Int32))) r218 (Int32.toNatClampNeg (3 : Int32)) ((cI (uI (uI C36 r207 (Int32.toNatClampNeg (1 : Int32)) ((cI C36 r207 (Int32.toNatClampNeg (1 : Int32))) + (1 : Int32))) r213 (Int32.toNatClampNeg (2 : Int32)) ((cI (uI C36 r207 (Int32.toNatClampNeg (1 : Int32)) ((cI C36 r207 (Int32.toNatClampNeg (1 : Int32))) + (1 : Int32))) r213 (Int32.toNatClampNeg (2 : Int32))) + (1 : Int32))) r218 (Int32.toNatClampNeg (3 : Int32))) + (0 : Int32)))).bind (fun z => match z with | (q249, C250) => lp_241_46 n p0 p1 p2 p3 p4 (0 : Int32) q249 C250) else none) else none else none) else (f_240 n p0 p1 (uI (uI C36 r207 (Int32.toNatClampNeg (1 : Int32)) ((cI C36 r207 (Int32.toNatClampNeg (1 : Int32))) + (1 : Int32))) r213 (Int32.toNatClampNeg (2 : Int32)) ((cI (uI C36 r207 (Int32.toNatClampNeg (1 : Int32)) ((cI C36 r207 (Int32.toNatClampNeg (1 : Int32))) + (1 : Int32))) r213 (Int32.toNatClampNeg (2 : Int32))) + (1 : Int32)))).bind (fun z => match z with | (q252, C253) => if amIn (3 : Int32) (aLen r218) = true then (f_205 n p0 p4 (uI C253 r218 (Int32.toNatClampNeg (3 : Int32)) ((cI (uI (uI C36 r207 (Int32.toNatClampNeg (1 : Int32)) ((cI C36 r207 (Int32.toNatClampNeg (1 : Int32))) + (1 : Int32))) r213 (Int32.toNatClampNeg (2 : Int32)) ((cI (uI C36 r207 (Int32.toNatClampNeg (1 : Int32)) ((cI C36 r207 (Int32.toNatClampNeg (1 : Int32))) + (1 : Int32))) r213 (Int32.toNatClampNeg (2 : Int32))) + (1 : Int32))) r218 (Int32.toNatClampNeg (3 : Int32))) + q252))).bind (fun z => match z with | (q256, C257) => lp_241_46 n p0 p1 p2 p3 p4 (0 : Int32) q256 C257) else none)) else none else none) else none else none) else none else none else none) else (f_205 n p0 p4 (uI C36 r207 (Int32.toNatClampNeg (1 : Int32)) ((cI C36 r207 (Int32.toNatClampNeg (1 : Int32))) + (1 : Int32)))).bind (fun z => match z with | (q259, C260) => lp_241_46 n p0 p1 p2 p3 p4 (0 : Int32) q259 C260)) else none else none else none) else (cP C36 p0 32).bind (fun r262 => if isK r262 12 = true then if amIn p1 (aLen r262) = true then (if (cI C36 r262 (Int32.toNatClampNeg p1)) = (3 : Int32) then (if ¬ q35 = 0 then (cP C36 p0 81).bind (fun r268 => if isK r268 12 = true then if amIn (2 : Int32) (aLen r268) = true then if amIn (2 : Int32) (aLen r268) = true then (cP (uI C36 r268 (Int32.toNatClampNeg (2 : Int32)) ((cI C36 r268 (Int32.toNatClampNeg (2 : Int32))) + (1 : Int32))) p0 81).bind (fun r273 => if isK r273 12 = true then if amIn (3 : Int32) (aLen r273) = true then (cP (uI C36 r268 (Int32.toNatClampNeg (2 : Int32)) ((cI C36 r268 (Int32.toNatClampNeg (2 : Int32))) + (1 : Int32))) p0 32).bind (fun r277 => if isK r277 12 = true then if amIn p1 (aLen r277) = true then (if (cI (uI C36 r268 (Int32.toNatClampNeg (2 : Int32)) ((cI C36 r268 (Int32.toNatClampNeg (2 : Int32))) + (1 : Int32))) r277 (Int32.toNatClampNeg p1)) = (3 : Int32) then (cP (uI C36 r268 (Int32.toNatClampNeg (2 : Int32)) ((cI C36 r268 (Int32.toNatClampNeg (2 : Int32))) + (1 : Int32))) p0 33).bind (fun r282 => if isK r282 12 = true then if amIn p1 (aLen r282) = true then (if ¬ (cI (uI C36 r268 (Int32.toNatClampNeg (2 : Int32)) ((cI C36 r268 (Int32.toNatClampNeg (2 : Int32))) + (1 : Int32))) r282 (Int32.toNatClampNeg p1)) = (2 : Int32) then (cP (uI C36 r268 (Int32.toNatClampNeg (2 : Int32)) ((cI C36 r268 (Int32.toNatClampNeg (2 : Int32))) + (1 : Int32))) p0 33).bind (fun r287 => if isK r287 12 = true then if amIn p1 (aLen r287) = true then (if ¬ (cI (uI C36 r268 (Int32.toNatClampNeg (2 : Int32)) ((cI C36 r268 (Int32.toNatClampNeg (2 : Int32))) + (1 : Int32))) r287 (Int32.toNatClampNeg p1)) = (1 : Int32) then (f_239 n p0 p1 (uI C36 r268 (Int32.toNatClampNeg (2 : Int32)) ((cI C36 r268 (Int32.toNatClampNeg (2 : Int32))) + (1 : Int32)))).bind (fun z => match z with | (q292, C293) => if amIn (3 : Int32) (aLen r273) = true then (f_205 n p0 p4 (uI C293 r273 (Int32.toNatClampNeg (3 : Int32)) ((cI (uI C36 r268 (Int32.toNatClampNeg (2 : Int32)) ((cI C36 r268 (Int32.toNatClampNeg (2 : Int32))) + (1 : Int32))) r273 (Int32.toNatClampNeg (3 : Int32))) + ((1 : Int32) + q292)))).bind (fun z => match z with | (q296, C297) => lp_241_46 n p0 p1 p2 p3 p4 (0 : Int32) q296 C297) else none) else if amIn (3 : Int32) (aLen r273) = true then (f_205 n p0 p4 (uI (uI C36 r268 (Int32.toNatClampNeg (2 : Int32)) ((cI C36 r268 (Int32.toNatClampNeg (2 : Int32))) + (1 : Int32))) r273 (Int32.toNatClampNeg (3 : Int32)) ((cI (uI C36 r268 (Int32.toNatClampNeg (2 : Int32)) ((cI C36 r268 (Int32.toNatClampNeg (2 : Int32))) + (1 : Int32))) r273 (Int32.toNatClampNeg (3 : Int32))) + (1 : Int32)))).bind (fun z => match z with | (q300, C301) => lp_241_46 n p0 p1 p2 p3 p4 (0 : Int32) q300 C301) else none) else none else none) else if amIn (3 : Int32) (aLen r273) = true then (f_205 n p0 p4 (uI (uI C36 r268 (Int32.toNatClampNeg (2 : Int32)) ((cI C36 r268 (Int32.toNatClampNeg (2 : Int32))) + (1 : Int32))) r273 (Int32.toNatClampNeg (3 : Int32)) ((cI (uI C36 r268 (Int32.toNatClampNeg (2 : Int32)) ((cI C36 r268 (Int32.toNatClampNeg (2 : Int32))) + (1 : Int32))) r273 (Int32.toNatClampNeg (3 : Int32))) + (0 : Int32)))).bind (fun z => match z with | (q304, C305) => lp_241_46 n p0 p1 p2 p3 p4 (0 : Int32) q304 C305) else none) else none else none) else (f_240 n p0 p1 (uI C36 r268 (Int32.toNatClampNeg (2 : Int32)) ((cI C36 r268 (Int32.toNatClampNeg (2 : Int32))) + (1 : Int32)))).bind (fun z => match z with | (q307, C308) => if amIn (3 : Int32) (aLen r273) = true then (f_205 n p0 p4 (uI C308 r273 (Int32.toNatClampNeg (3 : Int32)) ((cI (uI C36 r268 (Int32.toNatClampNeg (2 : Int32)) ((cI C36 r268 (Int32.toNatClampNeg (2 : Int32))) + (1 : Int32))) r273 (Int32.toNatClampNeg (3 : Int32))) + q307))).bind (fun z => match z with | (q311, C312) => lp_241_46 n p0 p1 p2 p3 p4 (0 : Int32) q311 C312) else none)) else none else none) else none else none) else none else none else none) else (f_205 n p0 p4 C36).bind (fun z => match z with | (q314, C315) => lp_241_46 n p0 p1 p2 p3 p4 (0 : Int32) q314 C315)) else (cP C36 p0 81).bind (fun r317 => if isK r317 12 = true then if amIn (1 : Int32) (aLen r317) = true then if amIn (1 : Int32) (aLen r317) = true then (if ¬ q35 = 0 then (cP (uI C36 r317 (Int32.toNatClampNeg (1 : Int32)) ((cI C36 r317 (Int32.toNatClampNeg (1 : Int32))) + (1 : Int32))) p0 81).bind (fun r323 => if isK r323 12 = true then if amIn (2 : Int32) (aLen r323) = true then if amIn (2 : Int32) (aLen r323) = true then (cP (uI (uI C36 r317 (Int32.toNatClampNeg (1 : Int32)) ((cI C36 r317 (Int32.toNatClampNeg (1 : Int32))) + (1 : Int32))) r323 (Int32.toNatClampNeg (2 : Int32)) ((cI (uI C36 r317 (Int32.toNatClampNeg (1 : Int32)) ((cI C36 r317 (Int32.toNatClampNeg (1 : Int32))) + (1 : Int32))) r323 (Int32.toNatClampNeg (2 : Int32))) + (1 : Int32))) p0 81).bind (fun r328 => if isK r328 12 = true then if amIn (3 : Int32) (aLen r328) = true then (cP (uI (uI C36 r317 (Int32.toNatClampNeg (1 : Int32)) ((cI C36 r317 (Int32.toNatClampNeg (1 : Int32))) + (1 : Int32))) r323 (Int32.toNatClampNeg (2 : Int32)) ((cI (uI C36 r317 (Int32.toNatClampNeg (1 : Int32)) ((cI C36 r317 (Int32.toNatClampNeg (1 : Int32))) + (1 : Int32))) r323 (Int32.toNatClampNeg (2 : Int32))) + (1 : Int32))) p0 32).bind (fun r332 => if isK r332 12 = true then if amIn p1 (aLen r332) = true then (if (cI (uI (uI C36 r317 (Int32.toNatClampNeg (1 : Int32)) ((cI C36 r317 (Int32.toNatClampNeg (1 : Int32))) + (1 : Int32))) r323 (Int32.toNatClampNeg (2 : Int32)) ((cI (uI C36 r317 (Int32.toNatClampNeg (1 : Int32)) ((cI C36 r317 (Int32.toNatClampNeg (1 : Int32))) + (1 : Int32))) r323 (Int32.toNatClampNeg (2 : Int32))) + (1 : Int32))) r332 (Int32.toNatClampNeg p1)) = (3 : Int32) then (cP (uI (uI C36 r317 (Int32.toNatClampNeg (1 : Int32)) ((cI C36 r317 (Int32.toNatClampNeg (1 : Int32))) + (1 : Int32))) r323 (Int32.toNatClampNeg (2 : Int32)) ((cI (uI C36 r317 (Int32.toNatClampNeg (1 : Int32)) ((cI C36 r317 (Int32.toNatClampNeg (1 : Int32))) + (1 : Int32))) r323 (Int32.toNatClampNeg (2 : Int32))) + (1 : Int32))) p0 33).bind (fun r337 => if isK r337 12 = true then if amIn p1 (aLen r337) = true then (if ¬ (cI (uI (uI C36 r317 (Int32.toNatClampNeg (1 : Int32)) ((cI C36 r317 (Int32.toNatClampNeg (1 : Int32))) + (1 : Int32))) r323 (Int32.toNatClampNeg (2 : Int32)) ((cI (uI C36 r317 (Int32.toNatClampNeg (1 : Int32)) ((cI C36 r317 (Int32.toNatClampNeg (1 : Int32))) + (1 : Int32))) r323 (Int32.toNatClampNeg (2 : Int32))) + (1 : Int32))) r337 (Int32.toNatClampNeg p1)) = (2 : Int32) then (cP (uI (uI C36 r317 (Int32.toNatClampNeg (1 : Int32)) ((cI C36 r317 (Int32.toNatClampNeg (1 : Int32))) + (1 : Int32))) r323 (Int32.toNatClampNeg (2 : Int32)) ((cI (uI C36 r317 (Int32.toNatClampNeg (1 : Int32)) ((cI C36 r317 (Int32.toNatClampNeg (1 : Int32))) + (1 : Int32))) r323 (Int32.toNatClampNeg (2 : Int32))) + (1 : Int32))) p0 33).bind (fun r342 => if isK r342 12 = true then if amIn p1 (aLen r342) = true then (if ¬ (cI (uI (uI C36 r317 (Int32.toNatClampNeg (1 : Int32)) ((cI C36 r317 (Int32.toNatClampNeg (1 : Int32))) + (1 : Int32))) r323 (Int32.toNatClampNeg (2 : Int32)) ((cI (uI C36 r317 (Int32.toNatClampNeg (1 : Int32)) ((cI C36 r317 (Int32.toNatClampNeg (1 : Int32))) + (1 : Int32))) r323 (Int32.toNatClampNeg (2 : Int32))) + (1 : Int32))) r342 (Int32.toNatClampNeg p1)) = (1 : Int32) then (f_239 n p0 p1 (uI (uI C36 r317 (Int32.toNatClampNeg (1 : Int32)) ((cI C36 r317 (Int32.toNatClampNeg (1 : Int32))) + (1 : Int32))) r323 (Int32.toNatClampNeg (2 : Int32)) ((cI (uI C36 r317 (Int32.toNatClampNeg (1 : Int32)) ((cI C36 r317 (Int32.toNatClampNeg (1 : Int32))) + (1 : Int32))) r323 (Int32.toNatClampNeg (2 : Int32))) + (1 : Int32)))).bind (fun z => match z with | (q347, C348) => if amIn (3 : Int32) (aLen r328) = true then (f_205 n p0 p4 (uI C348 r328 (Int32.toNatClampNeg (3 : Int32)) ((cI (uI (uI C36 r317 (Int32.toNatClampNeg (1 : Int32)) ((cI C36 r317 (Int32.toNatClampNeg (1 : Int32))) + (1 : Int32))) r323 (Int32.toNatClampNeg (2 : Int32)) ((cI (uI C36 r317 (Int32.toNatClampNeg (1 : Int32)) ((cI C36 r317 (Int32.toNatClampNeg (1 : Int32))) + (1 : Int32))) r323 (Int32.toNatClampNeg (2 : Int32))) + (1 : Int32))) r328 (Int32.toNatClampNeg (3 : Int32))) + ((1 : Int32) + q347)))).bind (fun z => match z with | (q351, C352) => lp_241_46 n p0 p1 p2 p3 p4 (0 : Int32) q351 C352) else none) else if amIn (3 : Int32) (aLen r328) = true then (f_205 n p0 p4 (uI (uI (uI C36 r317 (Int32.toNatClampNeg (1 : Int32)) ((cI C36 r317 (Int32.toNatClampNeg (1 : Int32))) + (1 : Int32))) r323 (Int32.toNatClampNeg (2 : Int32)) ((cI (uI C36 r317 (Int32.toNatClampNeg (1 : Int32)) ((cI C36 r317 (Int32.toNatClampNeg (1 : Int32))) + (1 : Int32))) r323 (Int32.toNatClampNeg (2 : Int32))) + (1 : Int32))) r328 (Int32.toNatClampNeg (3 : Int32)) ((cI (uI (uI C36 r317 (Int32.toNatClampNeg (1 : Int32)) ((cI C36 r317 (Int32.toNatClampNeg (1 : Int32))) + (1 : Int32))) r323 (Int32.toNatClampNeg (2 : Int32)) ((cI (uI C36 r317 (Int32.toNatClampNeg (1 : Int32)) ((cI C36 r317 (Int32.toNatClampNeg (1 : Int32))) + (1 : Int32))) r323 (Int32.toNatClampNeg (2 : Int32))) + (1 : Int32))) r328 (Int32.toNatClampNeg (3 : Int32))) + (1 : Int32)))).bind (fun z => match z with | (q355, C356) => lp_241_46 n p0 p1 p2 p3 p4 (0 : Int32) q355 C356) else none) else none else none) else if amIn (3 : Int32) (aLen r328) = true then (f_205 n p0 p4 (uI (uI (uI C36 r317 (Int32.toNatClampNeg (1 : Int32)) ((cI C36 r317 (Int32.toNatClampNeg (1 : Int32))) + (1 : Int32))) r323 (Int32.toNatClampNeg (2 : Int32)) ((cI (uI C36 r317 (Int32.toNatClampNeg (1 : Int32)) ((cI C36 r317 (Int32.toNatClampNeg (1 : Int32))) + (1 : Int32))) r323 (Int32.toNatClampNeg (2 : Int32))) + (1 : Int32))) r328 (Int32.toNatClampNeg (3 : Int32)) ((cI (uI (uI C36 r317 (Int32.toNatClampNeg (1 : Int32)) ((cI C36 r317 (Int32.toNatClampNeg (1 : Int32))) + (1 : Int32))) r323 (Int32.toNatClampNeg (2 : Int32)) ((cI (uI C36 r317 (Int32.toNatClampNeg (1 : Int32)) ((cI C36 r317 (Int32.toNatClampNeg (1 : Int32))) + (1 : Int32))) r323 (Int32.toNatClampNeg (2 : Int32))) + (1 : Int32))) r328 (Int32.toNatClampNeg (3 : Int32))) + (0 : Int32)))).bind (fun z => match z with | (q359, C360) => lp_241_46 n p0 p1 p2 p3 p4 (0 : Int32) q359 C360) else none) else none else none) else (f_240 n p0 p1 (uI (uI C36 r317 (Int32.toNatClampNeg (1 : Int32)) ((cI C36 r317 (Int32.toNatClampNeg (1 : Int32))) + (1 : Int32))) r323 (Int32.toNatClampNeg (2 : Int32)) ((cI (uI C36 r317 (Int32.toNatClampNeg (1 : Int32)) ((cI C36 r317 (Int32.toNatClampNeg (1 : Int32))) + (1 : Int32))) r323 (Int32.toNatClampNeg (2 : Int32))) + (1 : Int32)))).bind (fun z => match z with | (q362, C363) => if amIn (3 : Int32) (aLen r328) = true then (f_205 n p0 p4 (uI C363 r328 (Int32.toNatClampNeg (3 : Int32)) ((cI (uI (uI C36 r317 (Int32.toNatClampNeg (1 : Int32)) ((cI C36 r317 (Int32.toNatClampNeg (1 : Int32))) + (1 : Int32))) r323 (Int32.toNatClampNeg (2 : Int32)) ((cI (uI C36 r317 (Int32.toNatClampNeg (1 : Int32)) ((cI C36 r317 (Int32.toNatClampNeg (1 : Int32))) + (1 : Int32))) r323 (Int32.toNatClampNeg (2 : Int32))) + (1 : Int32))) r328 (Int32.toNatClampNeg (3 : Int32))) + q362))).bind (fun z => match z with | (q366, C367) => lp_241_46 n p0 p1 p2 p3 p4 (0 : Int32) q366 C367) else none)) else none else none) else none else none) else none else none else none) else (f_205 n p0 p4 (uI C36 r317 (Int32.toNatClampNeg (1 : Int32)) ((cI C36 r317 (Int32.toNatClampNeg (1 : Int32))) + (1 : Int32)))).bind (fun z => match z with | (q369, C370) => lp_241_46 n p0 p1 p2 p3 p4 (0 : Int32) q369 C370)) else none else none else none)) else none else none)) else (if ¬ q35 = 0 then (cP C36 p0 81).bind (fun r373 => if isK r373 12 = true then if amIn (1 : Int32) (aLen r373) = true then if amIn (1 : Int32) (aLen r373) = true then (if ¬ q35 = 0 then (cP (uI C36 r373 (Int32.toNatClampNeg (1 : Int32)) ((cI C36 r373 (Int32.toNatClampNeg (1 : Int32))) + (1 : Int32))) p0 81).bind (fun r379 => if isK r379 12 = true then if amIn (2 : Int32) (aLen r379) = true then if amIn (2 : Int32) (aLen r379) = true then (cP (uI (uI C36 r373 (Int32.toNatClampNeg (1 : Int32)) ((cI C36 r373 (Int32.toNatClampNeg (1 : Int32))) + (1 : Int32))) r379 (Int32.toNatClampNeg (2 : Int32)) ((cI (uI C36 r373 (Int32.toNatClampNeg (1 : Int32)) ((cI C36 r373 (Int32.toNatClampNeg (1 : Int32))) + (1 : Int32))) r379 (Int32.toNatClampNeg (2 : Int32))) + (1 : Int32))) p0 81).bind (fun r384 => if isK r384 12 = true then if amIn (3 : Int32) (aLen r384) = true then (cP (uI (uI C36 r373 (Int32.toNatClampNeg (1 : Int32)) ((cI C36 r373 (Int32.toNatClampNeg (1 : Int32))) + (1 : Int32))) r379 (Int32.toNatClampNeg (2 : Int32)) ((cI (uI C36 r373 (Int32.toNatClampNeg (1 : Int32)) ((cI C36 r373 (Int32.toNatClampNeg (1 : Int32))) + (1 : Int32))) r379 (Int32.toNatClampNeg (2 : Int32))) + (1 : Int32))) p0 32).bind (fun r388 => if isK r388 12 = true then if amIn p1 (aLen r388) = true then (if (cI (uI (uI C36 r373 (Int32.toNatClampNeg (1 : Int32)) ((cI C36 r373 (Int32.toNatClampNeg (1 : Int32))) + (1 : Int32))) r379 (Int32.toNatClampNeg (2 : Int32)) ((cI (uI C36 r373 (Int32.toNatClampNeg (1 : Int32)) ((cI C36 r373 (Int32.toNatClampNeg (1 : Int32))) + (1 : Int32))) r379 (Int32.toNatClampNeg (2 : Int32))) + (1 : Int32))) r388 (Int32.toNatClampNeg p1)) = (3 : Int32) then (cP (uI (uI C36 r373 (Int32.toNatClampNeg (1 : Int32)) ((cI C36 r373 (Int32.toNatClampNeg (1 : Int32))) + (1 : Int32))) r379 (Int32.toNatClampNeg (2 : Int32)) ((cI (uI C36 r373 (Int32.toNatClampNeg (1 : Int32)) ((cI C36 r373 (Int32.toNatClampNeg (1 : Int32))) + (1 : Int32))) r379 (Int32.toNatClampNeg (2 : Int32))) + (1 : Int32))) p0 33).bind (fun r393 => if isK r393 12 = true then if amIn p1 (aLen r393) = true then (if ¬ (cI (uI (uI C36 r373 (Int32.toNatClampNeg (1 : Int32)) ((cI C36 r373 (Int32.toNatClampNeg (1 : Int32))) + (1 : Int32))) r379 (Int32.toNatClampNeg (2 : Int32)) ((cI (uI C36 r373 (Int32.toNatClampNeg (1 : Int32)) ((cI C36 r373 (Int32.toNatClampNeg (1 : Int32))) + (1 : Int32))) r379 (Int32.toNatClampNeg (2 : Int32))) + (1 : Int32))) r393 (Int32.toNatClampNeg p1)) = (2 : Int32) then (cP (uI (uI C36 r373 (Int32.toNatClampNeg (1 : Int32)) ((cI C36 r373 (Int32.toNatClampNeg (1 : Int32))) + (1 : Int32))) r379 (Int32.toNatClampNeg (2 : Int32)) ((cI (uI C36 r373 (Int32.toNatClampNeg (1 : Int32)) ((cI C36 r373 (Int32.toNatClampNeg (1 : Int32))) + (1 : Int32))) r379 (Int32.toNatClampNeg (2 : Int32))) + (1 : Int32))) p0 33).bind (fun r398 => if isK r398 12 = true then if amIn p1 (aLen r398) = true then (if ¬ (cI (uI (uI C36 r373 (Int32.toNatClampNeg (1 : Int32)) ((cI C36 r373 (Int32.toNatClampNeg (1 : Int32))) + (1 : Int32))) r379 (Int32.toNatClampNeg (2 : Int32)) ((cI (uI C36 r373 (Int32.toNatClampNeg (1 : Int32)) ((cI C36 r373 (Int32.toNatClampNeg (1 : Int32))) + (1 : Int32))) r379 (Int32.toNatClampNeg (2 : Int32))) + (1 : Int32))) r398 (Int32.toNatClampNeg p1)) = (1 : Int32) then (f_239 n p0 p1 (uI (uI C36 r373 (Int32.toNatClampNeg (1 : Int32)) ((cI C36 r373 (Int32.toNatClampNeg (1 : Int32))) + (1 : Int32))) r379 (Int32.toNatClampNeg (2 : Int32)) ((cI (uI C36 r373 (Int32.toNatClampNeg (1 : Int32)) ((cI C36 r373 (Int32.toNatClampNeg (1 : Int32))) + (1 : Int32))) r379 (Int32.toNatClampNeg (2 : Int32))) + (1 : Int32)))).bind (fun z => match z with | (q403, C404) => if amIn (3 : Int32) (aLen r384) = true then (f_205 n p0 p4 (uI C404 r384 (Int32.toNatClampNeg (3 : Int32)) ((cI (uI (uI C36 r373 (Int32.toNatClampNeg (1 : Int32)) ((cI C36 r373 (Int32.toNatClampNeg (1 : Int32))) + (1 : Int32))) r379 (Int32.toNatClampNeg (2 : Int32)) ((cI (uI C36 r373 (Int32.toNatClampNeg (1 : Int32)) ((cI C36 r373 (Int32.toNatClampNeg (1 : Int32))) + (1 : Int32))) r379 (Int32.toNatClampNeg (2 : Int32))) + (1 : Int32))) r384 (Int32.toNatClampNeg (3 : Int32))) + ((1 : Int32) + q403)))).bind (fun z => match z with | (q407, C408) => lp_241_46 n p0 p1 p2 p3 p4 (1 : Int32) q407 C408) else none) else if amIn (3 : Int32) (aLen r384) = true then (f_205 n p0 p4 (uI (uI (uI C36 r373 (Int32.toNatClampNeg (1 : Int32)) ((cI C36 r373 (Int32.toNatClampNeg (1 : Int32))) + (1 : Int32))) r379 (Int32.toNatClampNeg (2 : Int32)) ((cI (uI C36 r373 (Int32.toNatClampNeg (1 : Int32)) ((cI C36 r373 (Int32.toNatClampNeg (1 : Int32))) + (1 : Int32))) r379 (Int32.toNatClampNeg (2 : Int32))) + (1 : Int32))) r384 (Int32.toNatClampNeg (3 : Int32)) ((cI (uI (uI C36 r373 (Int32.toNatClampNeg (1 : Int32)) ((cI C36 r373 (Int32.toNatClampNeg (1 : Int32))) + (1 : Int32))) r379 (Int32.toNatClampNeg (2 : Int32)) ((cI (uI C36 r373 (Int32.toNatClampNeg (1 : Int32)) ((cI C36 r373 (Int32.toNatClampNeg (1 : Int32))) + (1 : Int32))) r379 (Int32.toNatClampNeg (2 : Int32))) + (1 : Int32))) r384 (Int32.toNatClampNeg (3 : Int32))) + (1 : Int32)))).bind (fun z => match z with | (q411, C412) => lp_241_46 n p0 p1 p2 p3 p4 (1 : Int32) q411 C412) else none) else none else none) else if amIn (3 : Int32) (aLen r384) = true then (f_205 n p0 p4 (uI (uI (uI C36 r373 (Int32.toNatClampNeg (1 : Int32)) ((cI C36 r373 (Int32.toNatClampNeg (1 : Int32))) + (1 : Int32))) r379 (Int32.toNatClampNeg (2 : Int32)) ((cI (uI C36 r373 (Int32.toNatClampNeg (1 : Int32)) ((cI C36 r373 (Int32.toNatClampNeg (1 : Int32))) + (1 : Int32))) r379 (Int32.toNatClampNeg (2 : Int32))) + (1 : Int32))) r384 (Int32.toNatClampNeg (3 : Int32)) ((cI (uI (uI C36 r373 (Int32.toNatClampNeg (1 : Int32)) ((cI C36 r373 (Int32.toNatClampNeg (1 : Int32))) + (1 : Int32))) r379 (Int32.toNatClampNeg (2 : Int32)) ((cI (uI C36 r373 (Int32.toNatClampNeg (1 : Int32)) ((cI C36 r373 (Int32.toNatClampNeg (1 : Int32))) + (1 : Int32))) r379 (Int32.toNatClampNeg (2 : Int32))) + (1 : Int32))) r384 (Int32.toNatClampNeg (3 : Int32))) + (0 : Int32)))).bind (fun z => match z with | (q415, C416) => lp_241_46 n p0 p1 p2 p3 p4 (1 : Int32) q415 C416) else none) else none else none) else (f_240 n p0 p1 (uI (uI C36 r373 (Int32.toNatClampNeg (1 : Int32)) ((cI C36 r373 (Int32.toNatClampNeg (1 : Int32))) + (1 : Int32))) r379 (Int32.toNatClampNeg (2 : Int32)) ((cI (uI C36 r373 (Int32.toNatClampNeg (1 : Int32)) ((cI C36 r373 (Int32.toNatClampNeg (1 : Int32))) + (1 : Int32))) r379 (Int32.toNatClampNeg (2 : Int32))) + (1 : Int32)))).bind (fun z => match z with | (q418, C419) => if amIn (3 : Int32) (aLen r384) = true then (f_205 n p0 p4 (uI C419 r384 (Int32.toNatClampNeg (3 : Int32)) ((cI (uI (uI C36 r373 (Int32.toNatClampNeg (1 : Int32)) ((cI C36 r373 (Int32.toNatClampNeg (1 : Int32))) + (1 : Int32))) r379 (Int32.toNatClampNeg (2 : Int32)) ((cI (uI C36 r373 (Int32.toNatClampNeg (1 : Int32)) ((cI C36 r373 (Int32.toNatClampNeg (1 : Int32))) + (1 : Int32))) r379 (Int32.toNatClampNeg (2 : Int32))) + (1 : Int32))) r384 (Int32.toNatClampNeg (3 : Int32))) + q418))).bind (fun z => match z with | (q422, C423) => lp_241_46 n p0 p1 p2 p3 p4 (1 : Int32) q422 C423) else none)) else none else none) else none else none) else none else none else none) else (f_205 n p0 p4 (uI C36 r373 (Int32.toNatClampNeg (1 : Int32)) ((cI C36 r373 (Int32.toNatClampNeg (1 : Int32))) + (1 : Int32)))).bind (fun z => match z with | (q425, C426) => lp_241_46 n p0 p1 p2 p3 p4 (1 : Int32) q425 C426)) else none else none else none) else (cP C36 p0 32).bind (fun r428 => if isK r428 12 = true then if amIn p1 (aLen r428) = true then (if (cI C36 r428 (Int32.toNatClampNeg p1)) = (3 : Int32) then (if ¬ q35 = 0 then (cP C36 p0 81).bind (fun r434 => if isK r434 12 = true then if amIn (2 : Int32) (aLen r434) = true then if amIn (2 : Int32) (aLen r434) = true then (cP (uI C36 r434 (Int32.toNatClampNeg (2 : Int32)) ((cI C36 r434 (Int32.toNatClampNeg (2 : Int32))) + (1 : Int32))) p0 81).bind (fun r439 => if isK r439 12 = true then if amIn (3 : Int32) (aLen r439) = true then (cP (uI C36 r434 (Int32.toNatClampNeg (2 : Int32)) ((cI C36 r434 (Int32.toNatClampNeg (2 : Int32))) + (1 : Int32))) p0 32).bind (fun r443 => if isK r443 12 = true then if amIn p1 (aLen r443) = true then (if (cI (uI C36 r434 (Int32.toNatClampNeg (2 : Int32)) ((cI C36 r434 (Int32.toNatClampNeg (2 : Int32))) + (1 : Int32))) r443 (Int32.toNatClampNeg p1)) = (3 : Int32) then (cP (uI C36 r434 (Int32.toNatClampNeg (2 : Int32)) ((cI C36 r434 (Int32.toNatClampNeg (2 : Int32))) + (1 : Int32))) p0 33).bind (fun r448 => if isK r448 12 = true then if amIn p1 (aLen r448) = true then (if ¬ (cI (uI C36 r434 (Int32.toNatClampNeg (2 : Int32)) ((cI C36 r434 (Int32.toNatClampNeg (2 : Int32))) + (1 : Int32))) r448 (Int32.toNatClampNeg p1)) = (2 : Int32) then (cP (uI C36 r434 (Int32.toNatClampNeg (2 : Int32)) ((cI C36 r434 (Int32.toNatClampNeg (2 : Int32))) + (1 : Int32))) p0 33).bind (fun r453 => if isK r453 12 = true then if amIn p1 (aLen r453) = true then (if ¬ (cI (uI C36 r434 (Int32.toNatClampNeg (2 : Int32)) ((cI C36 r434 (Int32.toNatClampNeg (2 : Int32))) + (1 : Int32))) r453 (Int32.toNatClampNeg p1)) = (1 : Int32) then (f_239 n p0 p1 (uI C36 r434 (Int32.toNatClampNeg (2 : Int32)) ((cI C36 r434 (Int32.toNatClampNeg (2 : Int32))) + (1 : Int32)))).bind (fun z => match z with | (q458, C459) => if amIn (3 : Int32) (aLen r439) = true then (f_205 n p0 p4 (uI C459 r439 (Int32.toNatClampNeg (3 : Int32)) ((cI (uI C36 r434 (Int32.toNatClampNeg (2 : Int32)) ((cI C36 r434 (Int32.toNatClampNeg (2 : Int32))) + (1 : Int32))) r439 (Int32.toNatClampNeg (3 : Int32))) + ((1 : Int32) + q458)))).bind (fun z => match z with | (q462, C463) => lp_241_46 n p0 p1 p2 p3 p4 (1 : Int32) q462 C463) else none) else if amIn (3 : Int32) (aLen r439) = true then (f_205 n p0 p4 (uI (uI C36 r434 (Int32.toNatClampNeg (2 : Int32)) ((cI C36 r434 (Int32.toNatClampNeg (2 : Int32))) + (1 : Int32))) r439 (Int32.toNatClampNeg (3 : Int32)) ((cI (uI C36 r434 (Int32.toNatClampNeg (2 : Int32)) ((cI C36 r434 (Int32.toNatClampNeg (2 : Int32))) + (1 : Int32))) r439 (Int32.toNatClampNeg (3 : Int32))) + (1 : Int32)))).bind (fun z => match z with | (q466, C467) => lp_241_46 n p0 p1 p2 p3 p4 (1 : Int32) q466 C467) else none) else none else none) else if amIn (3 : Int32) (aLen r439) = true then (f_205 n p0 p4 (uI (uI C36 r434 (Int32.toNatClampNeg (2 : Int32)) ((cI C36 r434 (Int32.toNatClampNeg (2 : Int32))) + (1 : Int32))) r439 (Int32.toNatClampNeg (3 : Int32)) ((cI (uI C36 r434 (Int32.toNatClampNeg (2 : Int32)) ((cI C36 r434 (Int32.toNatClampNeg (2 : Int32))) + (1 : Int32))) r439 (Int32.toNatClampNeg (3 : Int32))) + (0 : Int32)))).bind (fun z => match z with | (q470, C471) => lp_241_46 n p0 p1 p2 p3 p4 (1 : Int32) q470 C471) else none) else none else none) else (f_240 n p0 p1 (uI C36 r434 (Int32.toNatClampNeg (2 : Int32)) ((cI C36 r434 (Int32.toNatClampNeg (2 : Int32))) + (1 : Int32)))).bind (fun z => match z with | (q473, C474) => if amIn (3 : Int32) (aLen r439) = true then (f_205 n p0 p4 (uI C474 r439 (Int32.toNatClampNeg (3 : Int32)) ((cI (uI C36 r434 (Int32.toNatClampNeg (2 : Int32)) ((cI C36 r434 (Int32.toNatClampNeg (2 : Int32))) + (1 : Int32))) r439 (Int32.toNatClampNeg (3 : Int32))) + q473))).bind (fun z => match z with | (q477, C478) => lp_241_46 n p0 p1 p2 p3 p4 (1 : Int32) q477 C478) else none)) else none else none) else none else none) else none else none else none) else (f_205 n p0 p4 C36).bind (fun z => match z with | (q480, C481) => lp_241_46 n p0 p1 p2 p3 p4 (1 : Int32) q480 C481)) else (cP C36 p0 81).bind (fun r483 => if isK r483 12 = true then if amIn (1 : Int32) (aLen r483) = true then if amIn (1 : Int32) (aLen r483) = true then (if ¬ q35 = 0 then (cP (uI C36 r483 (Int32.toNatClampNeg (1 : Int32)) ((cI C36 r483 (Int32.toNatClampNeg (1 : Int32))) + (1 : Int32))) p0 81).bind (fun r489 => if isK r489 12 = true then if amIn (2 : Int32) (aLen r489) = true then if amIn (2 : Int32) (aLen r489) = true then (cP (uI (uI C36 r483 (Int32.toNatClampNeg (1 : Int32)) ((cI C36 r483 (Int32.toNatClampNeg (1 : Int32))) + (1 : Int32))) r489 (Int32.toNatClampNeg (2 : Int32)) ((cI (uI C36 r483 (Int32.toNatClampNeg (1 : Int32)) ((cI C36 r483 (Int32.toNatClampNeg (1 : Int32))) + (1 : Int32))) r489 (Int32.toNatClampNeg (2 : Int32))) + (1 : Int32))) p0 81).bind (fun r494 => if isK r494 12 = true then if amIn (3 : Int32) (aLen r494) = true then (cP (uI (uI C36 r483 (Int32.toNatClampNeg (1 : Int32)) ((cI C36 r483 (Int32.toNatClampNeg (1 : Int32))) + (1 : Int32))) r489 (Int32.toNatClampNeg (2 : Int32)) ((cI (uI C36 r483 (Int32.toNatClampNeg (1 : Int32)) ((cI C36 r483 (Int32.toNatClampNeg (1 : Int32))) + (1 : Int32))) r489 (Int32.toNatClampNeg (2 : Int32))) + (1 : Int32))) p0 32).bind (fun r498 => if isK r498 12 = true then if amIn p1 (aLen r498) = true then (if (cI (uI (uI C36 r483 (Int32.toNatClampNeg (1 : Int32)) ((cI C36 r483 (Int32.toNatClampNeg (1 : Int32))) + (1 : Int32))) r489 (Int32.toNatClampNeg (2 : Int32)) ((cI (uI C36 r483 (Int32.toNatClampNeg (1 : Int32)) ((cI C36 r483 (Int32.toNatClampNeg (1 : Int32))) + (1 : Int32))) r489 (Int32.toNatClampNeg (2 : Int32))) + (1 : Int32))) r498 (Int32.toNatClampNeg p1)) = (3 : Int32) then (cP (uI (uI C36 r483 (Int32.toNatClampNeg (1 : Int32)) ((cI C36 r483 (Int32.toNatClampNeg (1 : Int32))) + (1 : Int32))) r489 (Int32.toNatClampNeg (2 : Int32)) ((cI (uI C36 r483 (Int32.toNatClampNeg (1 : Int32)) ((cI C36 r483 (Int32.toNatClampNeg (1 : Int32))) + (1 : Int32))) r489 (Int32.toNatClampNeg (2 : Int32))) + (1 : Int32))) p0 33).bind (fun r503 => if isK r503 12 = true then if amIn p1 (aLen r503) = true then (if ¬ (cI (uI (uI C36 r483 (Int32.toNatClampNeg (1 : Int32)) ((cI C36 r483 (Int32.toNatClampNeg (1 : Int32))) + (1 : Int32))) r489 (Int32.toNatClampNeg (2 : Int32)) ((cI (uI C36 r483 (Int32.toNatClampNeg (1 : Int32)) ((cI C36 r483 (Int32.toNatClampNeg (1 : Int32))) + (1 : Int32))) r489 (Int32.toNatClampNeg (2 : Int32))) + (1 : Int32))) r503 (Int32.toNatClampNeg p1)) = (2 : Int32) then (cP (uI (uI C36 r483 (Int32.toNatClampNeg (1 : Int32)) ((cI C36 r483 (Int32.toNatClampNeg (1 : Int32))) + (1 : Int32))) r489 (Int32.toNatClampNeg (2 : Int32)) ((cI (uI C36 r483 (Int32.toNatClampNeg (1 : Int32)) ((cI C36 r483 (Int32.toNatClampNeg (1 : Int32))) + (1 : Int32))) r489 (Int32.toNatClampNeg (2 : Int32))) + (1 : Int32))) p0 33).bind (fun r508 => if isK r508 12 = true then if amIn p1 (aLen r508) = true then (if ¬ (cI (uI (uI C36 r483 (Int32.toNatClampNeg (1 : Int32)) ((cI C36 r483 (Int32.toNatClampNeg (1 : Int32))) + (1 : Int32))) r489 (Int32.toNatClampNeg (2 : Int32)) ((cI (uI C36 r483 (Int32.toNatClampNeg (1 : Int32)) ((cI C36 r483 (Int32.toNatClampNeg (1 : Int32))) + (1 : Int32))) r489 (Int32.toNatClampNeg (2 : Int32))) + (1 : Int32))) r508 (Int32.toNatClampNeg p1)) = (1 : Int32) then (f_239 n p0 p1 (uI (uI C36 r483 (Int32.toNatClampNeg (1 : Int32)) ((cI C36 r483 (Int32.toNatClampNeg (1 : Int32))) + (1 : Int32))) r489 (Int32.toNatClampNeg (2 : Int32)) ((cI (uI C36 r483 (Int32.toNatClampNeg (1 : Int32)) ((cI C36 r483 (Int32.toNatClampNeg (1 : Int32))) + (1 : Int32))) r489 (Int32.toNatClampNeg (2 : Int32))) + (1 : Int32)))).bind (fun z => match z with | (q513, C514) => if amIn (3 : Int32) (aLen r494) = true then (f_205 n p0 p4 (uI C514 r494 (Int32.toNatClampNeg (3 : Int32)) ((cI (uI (uI C36 r483 (Int32.toNatClampNeg (1 : Int32)) ((cI C36 r483 (Int32.toNatClampNeg (1 : Int32))) + (1 : Int32))) r489 (Int32.toNatClampNeg (2 : Int32)) ((cI (uI C36 r483 (Int32.toNatClampNeg (1 : Int32)) ((cI C36 r483 (Int32.toNatClampNeg (1 : Int32))) + (1 : Int32))) r489 (Int32.toNatClampNeg (2 : Int32))) + (1 : Int32))) r494 (Int32.toNatClampNeg (3 : Int32))) + ((1 : Int32) + q513)))).bind (fun z => match z with | (q517, C518) => lp_241_46 n p0 p1 p2 p3 p4 (1 : Int32) q517 C518) else none) else if amIn (3 : Int32) (aLen r494) = true then (f_205 n p0 p4 (uI (uI (uI C36 r483 (Int32.toNatClampNeg (1 : Int32)) ((cI C36 r483 (Int32.toNatClampNeg (1 : Int32))) + (1 : Int32))) r489 (Int32.toNatClampNeg (2 : Int32)) ((cI (uI C36 r483 (Int32.toNatClampNeg (1 : Int32)) ((cI C36 r483 (Int32.toNatClampNeg (1 : Int32))) + (1 : Int32))) r489 (Int32.toNatClampNeg (2 : Int32))) + (1 : Int32))) r494 (Int32.toNatClampNeg (3 : Int32)) ((cI (uI (uI C36 r483 (Int32.toNatClampNeg (1 : Int32)) ((cI C36 r483 (Int32.toNatClampNeg (1 : Int32))) + (1 : Int32))) r489 (Int32.toNatClampNeg (2 : Int32)) ((cI (uI C36 r483 (Int32.toNatClampNeg (1 : Int32)) ((cI C36 r483 (Int32.toNatClampNeg (1 : Int32))) + (1 : Int32))) r489 (Int32.toNatClampNeg (2 : Int32))) + (1 : Int32))) r494 (Int32.toNatClampNeg (3 : Int32))) + (1 : Int32)))).bind (fun z => match z with | (q521, C522) => lp_241_46 n p0 p1 p2 p3 p4 (1 : Int32) q521 C522) else none) else none else none) else if amIn (3 : Int32) (aLen r494) = true then (f_205 n p0 p4 (uI (uI (uI C36 r483 (Int32.toNatClampNeg (1 : Int32)) ((cI C36 r483 (Int32.toNatClampNeg (1 : Int32))) + (1 : Int32))) r489 (Int32.toNatClampNeg (2 : Int32)) ((cI (uI C36 r483 (Int32.toNatClampNeg (1 : Int32)) ((cI C36 r483 (Int32.toNatClampNeg (1 : Int32))) + (1 : Int32))) r489 (Int32.toNatClampNeg (2 : Int32))) + (1 : Int32))) r494 (Int32.toNatClampNeg (3 : Int32)) ((cI (uI (uI C36 r483 (Int32.toNatClampNeg (1 : Int32)) ((cI C36 r483 (Int32.toNatClampNeg (1 : Int32))) + (1 : Int32))) r489 (Int32.toNatClampNeg (2 : Int32)) ((cI (uI C36 r483 (Int32.toNatClampNeg (1 : Int32)) ((cI C36 r483 (Int32.toNatClampNeg (1 : Int32))) + (1 : Int32))) r489 (Int32.toNatClampNeg (2 : Int32))) + (1 : Int32))) r494 (Int32.toNatClampNeg (3 : Int32))) + (0 : Int32)))).bind (fun z => match z with | (q525, C526) => lp_241_46 n p0 p1 p2 p3 p4 (1 : Int32) q525 C526) else none) else none else none) else (f_240 n p0 p1 (uI (uI C36 r483 (Int32.toNatClampNeg (1 : Int32)) ((cI C36 r483 (Int32.toNatClampNeg (1 : Int32))) + (1 : Int32))) r489 (Int32.toNatClampNeg (2 : Int32)) ((cI (uI C36 r483 (Int32.toNatClampNeg (1 : Int32)) ((cI C36 r483 (Int32.toNatClampNeg (1 : Int32))) + (1 : Int32))) r489 (Int32.toNatClampNeg (2 : Int32))) + (1 : Int32)))).bind (fun z => match z with | (q528, C529) => if amIn (3 : Int32) (aLen r494) = true then (f_205 n p0 p4 (uI C529 r494 (Int32.toNatClampNeg (3 : Int32)) ((cI (uI (uI C36 r483 (Int32.toNatClampNeg (1 : Int32)) ((cI C36 r483 (Int32.toNatClampNeg (1 : Int32))) + (1 : Int32))) r489 (Int32.toNatClampNeg (2 : Int32)) ((cI (uI C36 r483 (Int32.toNatClampNeg (1 : Int32)) ((cI C36 r483 (Int32.toNatClampNeg (1 : Int32))) + (1 : Int32))) r489 (Int32.toNatClampNeg (2 : Int32))) + (1 : Int32))) r494 (Int32.toNatClampNeg (3 : Int32))) + q528))).bind (fun z => match z with | (q532, C533) => lp_241_46 n p0 p1 p2 p3 p4 (1 : Int32) q532 C533) else none)) else none else none) else none else none) else none else none else none) else (f_205 n p0 p4 (uI C36 r483 (Int32.toNatClampNeg (1 : Int32)) ((cI C36 r483 (Int32.toNatClampNeg (1 : Int32))) + (1 : Int32)))).bind (fun z => match z with | (q535, C536) => lp_241_46 n p0 p1 p2 p3 p4 (1 : Int32) q535 C536)) else none else none else none)) else none else none))))) else (cP (uI C p0 69 ((cI C p0 69) + (1 : Int32))) p0 34).bind (fun r538 => if isK r538 12 = true then if amIn p1 (aLen r538) = true then (f_193 n p0 p6 (cI (uI C p0 69 ((cI C p0 69) + (1 : Int32))) r538 (Int32.toNatClampNeg p1)) (uI C p0 69 ((cI C p0 69) + (1 : Int32)))).bind (fun z => match z with | (q542, C543) => (cP C543 p0 35).bind (fun r545 => if isK r545 12 = true then if amIn p1 (aLen r545) = true then (f_206 n p0 p4 (cI C543 r545 (Int32.toNatClampNeg p1)) C543).bind (fun z => match z with | (q549, C550) => (if ¬ q542 = q549 then (if ¬ p5 = 0 then (cP C550 p0 32).bind (fun r554 => if isK r554 12 = true then if amIn p1 (aLen r554) = true then (if (cI C550 r554 (Int32.toNatClampNeg p1)) = (3 : Int32) then (f_205 n p0 p4 C550).bind (fun z => match z with | (q559, C560) => lp_241_46 n p0 p1 p2 p3 p4 (1 : Int32) q559 C560) else (cP C550 p0 81).bind (fun r562 => if isK r562 12 = true then if amIn (1 : Int32) (aLen r562) = true then if amIn (1 : Int32) (aLen r562) = true then (f_205 n p0 p4 (uI C550 r562 (Int32.toNatClampNeg (1 : Int32)) ((cI C550 r562 (Int32.toNatClampNeg (1 : Int32))) + (1 : Int32)))).bind (fun z => match z with | (q567, C568) => lp_241_46 n p0 p1 p2 p3 p4 (1 : Int32) q567 C568) else none else none else none)) else none else none) else (cP C550 p0 32).bind (fun r570 => if isK r570 12 = true then if amIn p1 (aLen r570) = true then (if (cI C550 r570 (Int32.toNatClampNeg p1)) = (3 : Int32) then (f_205 n p0 p4 C550).bind (fun z => match z with | (q575, C576) => lp_241_46 n p0 p1 p2 p3 p4 (0 : Int32) q575 C576) else (cP C550 p0 81).bind (fun r578 => if isK r578 12 = true then if amIn (1 : Int32) (aLen r578) = true then if amIn (1 : Int32) (aLen r578) = true then (f_205 n p0 p4 (uI C550 r578 (Int32.toNatClampNeg (1 : Int32)) ((cI C550 r578 (Int32.toNatClampNeg (1 : Int32))) + (1 : Int32)))).bind (fun z => match z with | (q583, C584) => lp_241_46 n p0 p1 p2 p3 p4 (0 : Int32) q583 C584) else none else none else none)) else none else none)) else (if ¬ p5 = 0 then (cP C550 p0 81).bind (fun r587 => if isK r587 12 = true then if amIn (1 : Int32) (aLen r587) = true then if amIn (1 : Int32) (aLen r587) = true then (cP (uI C550 r587 (Int32.toNatClampNeg (1 : Int32)) ((cI C550 r587 (Int32.toNatClampNeg (1 : Int32))) + (1 : Int32))) p0 81).bind (fun r592 => if isK r592 12 = true then if amIn (2 : Int32) (aLen r592) = true then if amIn (2 : Int32) (aLen r592) = true then (cP (uI (uI C550 r587 (Int32.toNatClampNeg (1 : Int32)) ((cI C550 r587 (Int32.toNatClampNeg (1 : Int32))) + (1 : Int32))) r592 (Int32.toNatClampNeg (2 : Int32)) ((cI (uI C550 r587 (Int32.toNatClampNeg (1 : Int32)) ((cI C550 r587 (Int32.toNatClampNeg (1 : Int32))) + (1 : Int32))) r592 (Int32.toNatClampNeg (2 : Int32))) + (1 : Int32))) p0 81).bind (fun r597 => if isK r597 12 = true then if amIn (3 : Int32) (aLen r597) = true then (cP (uI (uI C550 r587 (Int32.toNatClampNeg (1 : Int32)) ((cI C550 r587 (Int32.toNatClampNeg (1 : Int32))) + (1 : Int32))) r592 (Int32.toNatClampNeg (2 : Int32)) ((cI (uI C550 r587 (Int32.toNatClampNeg (1 : Int32)) ((cI C550 r587 (Int32.toNatClampNeg (1 : Int32))) + (1 : Int32))) r592 (Int32.toNatClampNeg (2 : Int32))) + (1 : Int32))) p0 32).bind (fun r601 => if isK r601 12 = true then if amIn p1 (aLen r601) = true then (if (cI (uI (uI C550 r587 (Int32.toNatClampNeg (1 : Int32)) ((cI C550 r587 (Int32.toNatClampNeg (1 : Int32))) + (1 : Int32))) r592 (Int32.toNatClampNeg (2 : Int32)) ((cI (uI C550 r587 (Int32.toNatClampNeg (1 : Int32)) ((cI C550 r587 (Int32.toNatClampNeg (1 : Int32))) + (1 : Int32))) r592 (Int32.toNatClampNeg (2 : Int32))) + (1 : Int32))) r601 (Int32.toNatClampNeg p1)) = (3 : Int32) then (cP (uI (uI C550 r587 (Int32.toNatClampNeg (1 : Int32)) ((cI C550 r587 (Int32.toNatClampNeg (1 : Int32))) + (1 : Int32))) r592 (Int32.toNatClampNeg (2 : Int32)) ((cI (uI C550 r587 (Int32.toNatClampNeg (1 : Int32)) ((cI C550 r587 (Int32.toNatClampNeg (1 : Int32))) + (1 : Int32))) r592 (Int32.toNatClampNeg (2 : Int32))) + (1 : Int32))) p0 33).bind (fun r606 => if isK r606 12 = true then if amIn p1 (aLen r606) = true then (if ¬ (cI (uI (uI C550 r587 (Int32.toNatClampNeg (1 : Int32)) ((cI C550 r587 (Int32.toNatClampNeg (1 : Int32))) + (1 : Int32))) r592 (Int32.toNatClampNeg (2 : Int32)) ((cI (uI C550 r587 (Int32.toNatClampNeg (1 : Int32)) ((cI C550 r587 (Int32.toNatClampNeg (1 : Int32))) + (1 : Int32))) r592 (Int32.toNatClampNeg (2 : Int32))) + (1 : Int32))) r606 (Int32.toNatClampNeg p1)) = (2 : Int32) then (cP (uI (uI C550 r587 (Int32.toNatClampNeg (1 : Int32)) ((cI C550 r587 (Int32.toNatClampNeg (1 : Int32))) + (1 : Int32))) r592 (Int32.toNatClampNeg (2 : Int32)) ((cI (uI C550 r587 (Int32.toNatClampNeg (1 : Int32)) ((cI C550 r587 (Int32.toNatClampNeg (1 : Int32))) + (1 : Int32))) r592 (Int32.toNatClampNeg (2 : Int32))) + (1 : Int32))) p0 33).bind (fun r611 => if isK r611 12 = true then if amIn p1 (aLen r611) = true then (if ¬ (cI (uI (uI C550 r587 (Int32.toNatClampNeg (1 : Int32)) ((cI C550 r587 (Int32.toNatClampNeg (1 : Int32))) + (1 : Int32))) r592 (Int32.toNatClampNeg (2 : Int32)) ((cI (uI C550 r587 (Int32.toNatClampNeg (1 : Int32)) ((cI C550 r587 (Int32.toNatClampNeg (1 : Int32))) + (1 : Int32))) r592 (Int32.toNatClampNeg (2 : Int32))) + (1 : Int32))) r611 (Int32.toNatClampNeg p1)) = (1 : Int32) then (f_239 n p0 p1 (uI (uI C550 r587 (Int32.toNatClampNeg (1 : Int32)) ((cI C550 r587 (Int32.toNatClampNeg (1 : Int32))) + (1 : Int32))) r592 (Int32.toNatClampNeg (2 : Int32)) ((cI (uI C550 r587 (Int32.toNatClampNeg (1 : Int32)) ((cI C550 r587 (Int32.toNatClampNeg (1 : Int32))) + (1 : Int32))) r592 (Int32.toNatClampNeg (2 : Int32))) + (1 : Int32)))).bind (fun z => match z with | (q616, C617) => if amIn (3 : Int32) (aLen r597) = true then (f_205 n p0 p4 (uI C617 r597 (Int32.toNatClampNeg (3 : Int32)) ((cI (uI (uI C550 r587 (Int32.toNatClampNeg (1 : Int32)) ((cI C550 r587 (Int32.toNatClampNeg (1 : Int32))) + (1 : Int32))) r592 (Int32.toNatClampNeg (2 : Int32)) ((cI (uI C550 r587 (Int32.toNatClampNeg (1 : Int32)) ((cI C550 r587 (Int32.toNatClampNeg (1 : Int32))) + (1 : Int32))) r592 (Int32.toNatClampNeg (2 : Int32))) + (1 : Int32))) r597 (Int32.toNatClampNeg (3 : Int32))) + ((1 : Int32) + q616)))).bind (fun z => match z with | (q620, C621) => lp_241_46 n p0 p1 p2 p3 p4 (1 : Int32) q620 C621) else none) else if amIn (3 : Int32) (aLen r597) = true then (f_205 n p0 p4 (uI (uI (uI C550 r587 (Int32.toNatClampNeg (1 : Int32)) ((cI C550 r587 (Int32.toNatClampNeg (1 : Int32))) + (1 : Int32))) r592 (Int32.toNatClampNeg (2 : Int32)) ((cI (uI C550 r587 (Int32.toNatClampNeg (1 : Int32)) ((cI C550 r587 (Int32.toNatClampNeg (1 : Int32))) + (1 : Int32))) r592 (Int32.toNatClampNeg (2 : Int32))) + (1 : Int32))) r597 (Int32.toNatClampNeg (3 : Int32)) ((cI (uI (uI C550 r587 (Int32.toNatClampNeg (1 : Int32)) ((cI C550 r587 (Int32.toNatClampNeg (1 : Int32))) + (1 : Int32))) r592 (Int32.toNatClampNeg (2 : Int32)) ((cI (uI C550 r587 (Int32.toNatClampNeg (1 : Int32)) ((cI C550 r587 (Int32.toNatClampNeg (1 : Int32))) + (1 : Int32))) r592 (Int32.toNatClampNeg (2 : Int32))) + (1 : Int32))) r597 (Int32.toNatClampNeg (3 : Int32))) + (1 : Int32)))).bind (fun z => match z with | (q624, C625) => lp_241_46 n p0 p1 p2 p3 p4 (1 : Int32) q624 C625) else none) else none else none) else if amIn (3 : Int32) (aLen r597) = true then (f_205 n p0 p4 (uI (uI (uI C550 r587 (Int32.toNatClampNeg (1 : Int32)) ((cI C550 r587 (Int32.toNatClampNeg (1 : Int32))) + (1 : Int32))) r592 (Int32.toNatClampNeg (2 : Int32)) ((cI (uI C550 r587 (Int32.toNatClampNeg (1 : Int32)) ((cI C550 r587 (Int32.toNatClampNeg (1 : Int32))) + (1 : Int32))) r592 (Int32.toNatClampNeg (2 : Int32))) + (1 : Int32))) r597 (Int32.toNatClampNeg (3 : Int32)) ((cI (uI (uI C550 r587 (Int32.toNatClampNeg (1 : Int32)) ((cI C550 r587 (Int32.toNatClampNeg (1 : Int32))) + (1 : Int32))) r592 (Int32.toNatClampNeg (2 : Int32)) ((cI (uI C550 r587 (Int32.toNatClampNeg (1 : Int32)) ((cI C550 r587 (Int32.toNatClampNeg (1 : Int32))) + (1 : Int32))) r592 (Int32.toNatClampNeg (2 : Int32))) + (1 : Int32))) r597 (Int32.toNatClampNeg (3 : Int32))) + (0 : Int32)))).bind (fun z => match z with | (q628, C629) => lp_241_46 n p0 p1 p2 p3 p4 (1 : Int32) q628 C629) else none) else none else none) else (f_240 n p0 p1 (uI (uI C550 r587 (Int32.toNatClampNeg (1 : Int32)) ((cI C550 r587 (Int32.toNatClampNeg (1 : Int32))) + (1 : Int32))) r592 (Int32.toNatClampNeg (2 : Int32)) ((cI (uI C550 r587 (Int32.toNatClampNeg (1 : Int32)) ((cI C550 r587 (Int32.toNatClampNeg (1 : Int32))) + (1 : Int32))) r592 (Int32.toNatClampNeg (2 : Int32))) + (1 : Int32)))).bind (fun z => match z with | (q631, C632) => if amIn (3 : Int32) (aLen r597) = true then (f_205 n p0 p4 (uI C632 r597 (Int32.toNatClampNeg (3 : Int32)) ((cI (uI (uI C550 r587 (Int32.toNatClampNeg (1 : Int32)) ((cI C550 r587 (Int32.toNatClampNeg (1 : Int32))) + (1 : Int32))) r592 (Int32.toNatClampNeg (2 : Int32)) ((cI (uI C550 r587 (Int32.toNatClampNeg (1 : Int32)) ((cI C550 r587 (Int32.toNatClampNeg (1 : Int32))) + (1 : Int32))) r592 (Int32.toNatClampNeg (2 : Int32))) + (1 : Int32))) r597 (Int32.toNatClampNeg (3 : Int32))) + q631))).bind (fun z => match z with | (q635, C636) => lp_241_46 n p0 p1 p2 p3 p4 (1 : Int32) q635 C636) else none)) else none else none) else none else none) else none else none else none) else none else none else none) else (cP C550 p0 81).bind (fun r638 => if isK r638 12 = true then if amIn (1 : Int32) (aLen r638) = true then if amIn (1 : Int32) (aLen r638) = true then (cP (uI C550 r638 (Int32.toNatClampNeg (1 : Int32)) ((cI C550 r638 (Int32.toNatClampNeg (1 : Int32))) + (1 : Int32))) p0 81).bind (fun r643 => if isK r643 12 = true then if amIn (2 : Int32) (aLen r643) = true then if amIn (2 : Int32) (aLen r643) = true then (cP (uI (uI C550 r638 (Int32.toNatClampNeg (1 : Int32)) ((cI C550 r638 (Int32.toNatClampNeg (1 : Int32))) + (1 : Int32))) r643 (Int32.toNatClampNeg (2 : Int32)) ((cI (uI C550 r638 (Int32.toNatClampNeg (1 : Int32)) ((cI C550 r638 (Int32.toNatClampNeg (1 : Int32))) + (1 : Int32))) r643 (Int32.toNatClampNeg (2 : Int32))) + (1 : Int32))) p0 81).bind (fun r648 => if isK r648 12 = true then if amIn (3 : Int32) (aLen r648) = true then (cP (uI (uI C550 r638 (Int32.toNatClampNeg (1 : Int32)) ((cI C550 r638 (Int32.toNatClampNeg (1 : Int32))) + (1 : Int32))) r643 (Int32.toNatClampNeg (2 : Int32)) ((cI (uI C550 r638 (Int32.toNatClampNeg (1 : Int32)) ((cI C550 r638 (Int32.toNatClampNeg (1 : Int32))) + (1 : Int32))) r643 (Int32.toNatClampNeg (2 : Int32))) + (1 : Int32))) p0 32).bind (fun r652 => if isK r652 12 = true then if amIn p1 (aLen r652) = true then (if (cI (uI (uI C550 r638 (Int32.toNatClampNeg (1 : Int32)) ((cI C550 r638 (Int32.toNatClampNeg (1 : Int32))) + (1 : Int32))) r643 (Int32.toNatClampNeg (2 : Int32)) ((cI (uI C550 r638 (Int32.toNatClampNeg (1 : Int32)) ((cI C550 r638 (Int32.toNatClampNeg (1 : Int32))) + (1 : Int32))) r643 (Int32.toNatClampNeg (2 : Int32))) + (1 : Int32))) r652 (Int32.toNatClampNeg p1)) = (3 : Int32) then (cP (uI (uI C550 r638 (Int32.toNatClampNeg (1 : Int32)) ((cI C550 r638 (Int32.toNatClampNeg (1 : Int32))) + (1 : Int32))) r643 (Int32.toNatClampNeg (2 : Int32)) ((cI (uI C550 r638 (Int32.toNatClampNeg (1 : Int32)) ((cI C550 r638 (Int32.toNatClampNeg (1 : Int32))) + (1 : Int32))) r643 (Int32.toNatClampNeg (2 : Int32))) + (1 : Int32))) p0 33).bind (fun r657 => if isK r657 12 = true then if amIn p1 (aLen r657) = true then (if ¬ (cI (uI (uI C550 r638 (Int32.toNatClampNeg (1 : Int32)) ((cI C550 r638 (Int32.toNatClampNeg (1 : Int32))) + (1 : Int32))) r643 (Int32.toNatClampNeg (2 : Int32)) ((cI (uI C550 r638 (Int32.toNatClampNeg (1 : Int32)) ((cI C550 r638 (Int32.toNatClampNeg (1 : Int32))) + (1 : Int32))) r643 (Int32.toNatClampNeg (2 : Int32))) + (1 : Int32))) r657 (Int32.toNatClampNeg p1)) = (2 : Int32) then (cP (uI (uI C550 r638 (Int32.toNatClampNeg (1 : Int32)) ((cI C550 r638 (Int32.toNatClampNeg (1 : Int32))) + (1 : Int32))) r643 (Int32.toNatClampNeg (2 : Int32)) ((cI (uI C550 r638 (Int32.toNatClampNeg (1 : Int32)) ((cI C550 r638 (Int32.toNatClampNeg (1 : Int32))) + (1 : Int32))) r643 (Int32.toNatClampNeg (2 : Int32))) + (1 : Int32))) p0 33).bind (fun r662 => if isK r662 12 = true then if amIn p1 (aLen r662) = true then (if ¬ (cI (uI (uI C550 r638 (Int32.toNatClampNeg (1 : Int32)) ((cI C550 r638 (Int32.toNatClampNeg (1 : Int32))) + (1 : Int32))) r643 (Int32.toNatClampNeg (2 : Int32)) ((cI (uI C550 r638 (Int32.toNatClampNeg (1 : Int32)) ((cI C550 r638 (Int32.toNatClampNeg (1 : Int32))) + (1 : Int32))) r643 (Int32.toNatClampNeg (2 : Int32))) + (1 : Int32))) r662 (Int32.toNatClampNeg p1)) = (1 : Int32) then (f_239 n p0 p1 (uI (uI C550 r638 (Int32.toNatClampNeg (1 : Int32)) ((cI C550 r638 (Int32.toNatClampNeg (1 : Int32))) + (1 : Int32))) r643 (Int32.toNatClampNeg (2 : Int32)) ((cI (uI C550 r638 (Int32.toNatClampNeg (1 : Int32)) ((cI C550 r638 (Int32.toNatClampNeg (1 : Int32))) + (1 : Int32))) r643 (Int32.toNatClampNeg (2 : Int32))) + (1 : Int32)))).bind (fun z => match z with | (q667, C668) => if amIn (3 : Int32) (aLen r648) = true then (f_205 n p0 p4 (uI C668 r648 (Int32.toNatClampNeg (3 : Int32)) ((cI (uI (uI C550 r638 (Int32.toNatClampNeg (1 : Int32)) ((cI C550 r638 (Int32.toNatClampNeg (1 : Int32))) + (1 : Int32))) r643 (Int32.toNatClampNeg (2 : Int32)) ((cI (uI C550 r638 (Int32.toNatClampNeg (1 : Int32)) ((cI C550 r638 (Int32.toNatClampNeg (1 : Int32))) + (1 : Int32))) r643 (Int32.toNatClampNeg (2 : Int32))) + (1 : Int32))) r648 (Int32.toNatClampNeg (3 : Int32))) + ((1 : Int32) + q667)))).bind (fun z => match z with | (q671, C672) => lp_241_46 n p0 p1 p2 p3 p4 (1 : Int32) q671 C672) else none) else if amIn (3 : Int32) (aLen r648) = true then (f_205 n p0 p4 (uI (uI (uI C550 r638 (Int32.toNatClampNeg (1 : Int32)) ((cI C550 r638 (Int32.toNatClampNeg (1 : Int32))) + (1 : Int32))) r643 (Int32.toNatClampNeg (2 : Int32)) ((cI (uI C550 r638 (Int32.toNatClampNeg (1 : Int32)) ((cI C550 r638 (Int32.toNatClampNeg (1 : Int32))) + (1 : Int32))) r643 (Int32.toNatClampNeg (2 : Int32))) + (1 : Int32))) r648 (Int32.toNatClampNeg (3 : Int32)) ((cI (uI (uI C550 r638 (Int32.toNatClampNeg (1 : Int32)) ((cI C550 r638 (Int32.toNatClampNeg (1 : Int32))) + (1 : Int32))) r643 (Int32.toNatClampNeg (2 : Int32)) ((cI (uI C550 r638 (Int32.toNatClampNeg (1 : Int32)) ((cI C550 r638 (Int32.toNatClampNeg (1 : Int32))) + (1 : Int32))) r643 (Int32.toNatClampNeg (2 : Int32))) + (1 : Int32))) r648 (Int32.toNatClampNeg (3 : Int32))) + (1 : Int32)))).bind (fun z => match z with | (q675, C676) => lp_241_46 n p0 p1 p2 p3 p4 (1 : Int32) q675 C676) else none) else none else none) else if amIn (3 : Int32) (aLen r648) = true then (f_205 n p0 p4 (uI (uI (uI C550 r638 (Int32.toNatClampNeg (1 : Int32)) ((cI C550 r638 (Int32.toNatClampNeg (1 : Int32))) + (1 : Int32))) r643 (Int32.toNatClampNeg (2 : Int32)) ((cI (uI C550 r638 (Int32.toNatClampNeg (1 : Int32)) ((cI C550 r638 (Int32.toNatClampNeg (1 : Int32))) + (1 : Int32))) r643 (Int32.toNatClampNeg (2 : Int32))) + (1 : Int32))) r648 (Int32.toNatClampNeg (3 : Int32)) ((cI (uI (uI C550 r638 (Int32.toNatClampNeg (1 : Int32)) ((cI C550 r638 (Int32.toNatClampNeg (1 : Int32))) + (1 : Int32))) r643 (Int32.toNatClampNeg (2 : Int32)) ((cI (uI C550 r638 (Int32.toNatClampNeg (1 : Int32)) ((cI C550 r638 (Int32.toNatClampNeg (1 : Int32))) + (1 : Int32))) r643 (Int32.toNatClampNeg (2 : Int32))) + (1 : Int32))) r648 (Int32.toNatClampNeg (3 : Int32))) + (0 : Int32)))).bind (fun z => match z with | (q679, C680) => lp_241_46 n p0 p1 p2 p3 p4 (1 : Int32) q679 C680) else none) else none else none) else (f_240 n p0 p1 (uI (uI C550 r638 (Int32.toNatClampNeg (1 : Int32)) ((cI C550 r638 (Int32.toNatClampNeg (1 : Int32))) + (1 : Int32))) r643 (Int32.toNatClampNeg (2 : Int32)) ((cI (uI C550 r638 (Int32.toNatClampNeg (1 : Int32)) ((cI C550 r638 (Int32.toNatClampNeg (1 : Int32))) + (1 : Int32))) r643 (Int32.toNatClampNeg (2 : Int32))) + (1 : Int32)))).bind (fun z => match z with | (q682, C683) => if amIn (3 : Int32) (aLen r648) = true then (f_205 n p0 p4 (uI C683 r648 (Int32.toNatClampNeg (3 : Int32)) ((cI (uI (uI C550 r638 (Int32.toNatClampNeg (1 : Int32)) ((cI C550 r638 (Int32.toNatClampNeg (1 : Int32))) + (1 : Int32))) r643 (Int32.toNatClampNeg (2 : Int32)) ((cI (uI C550 r638 (Int32.toNatClampNeg (1 : Int32)) ((cI C550 r638 (Int32.toNatClampNeg (1 : Int32))) + (1 : Int32))) r643 (Int32.toNatClampNeg (2 : Int32))) + (1 : Int32))) r648 (Int32.toNatClampNeg (3 : Int32))) + q682))).bind (fun z => match z with | (q686, C687) => lp_241_46 n p0 p1 p2 p3 p4 (1 : Int32) q686 C687) else none)) else none else none) else none else none) else none else none else none) else none else none else none)))) else none else none)) else none else none)) else none else none) else none)
set_option maxRecDepth 20000 in
set_option maxHeartbeats 4000000 in
theorem lt_241_46 : ∀ (n : Nat) (p0 : Nat) (p1 : Int32) (p2 : Int32) (p3 : Int32) (p4 : Int32) (p5 : Int32) (p6 : Int32) (C : AmC) (r : ((Nat × Int32 × Int32 × Int32 × Int32 × Int32)) × AmC), lp_241_46 n p0 p1 p2 p3 p4 p5 p6 C = some r → ∀ (o : AmO) (M' : AmM), (match r with
        | ((w0, w1, w2, w3, w4, w5), C') => En false 241 162 [(0, .ref w0), (1, .int w1), (2, .int w2), (3, .int w3), (4, .int w4), (5, .int w5)] [] (mkM C') o M') → En false 241 46 [(0, .ref p0), (1, .int p1), (2, .int p2), (3, .int p3), (4, .int p4), (5, .int p5), (6, .int p6)] [] (mkM C) o M' := by
  intro n
  induction n with
  | zero => intro p0 p1 p2 p3 p4 p5 p6 C r h; cases h
  | succ n ih =>
    intro p0 p1 p2 p3 p4 p5 p6 C r h o M' hk
    unfold lp_241_46 at h
    refine en_iload rfl rfl ?_
    refine ec_iconst cst_m1 rfl ?_
    rcases gi h with ⟨c28, h⟩ | ⟨c28, h⟩
    · refine en_icmp_eq_t c28 rfl ?_
      cases h
      exact en_sub [0, 1, 2, 3, 4, 5] rfl rfl hk
    · refine en_icmp_eq_f c28 rfl ?_
      refine en_aload rfl rfl ?_
      refine en_dup rfl rfl ?_
      obtain ⟨g29, h⟩ := gd h
      refine ec_getI (ci := 10) (j := 69) ⟨rfl, rfl, rfl⟩ g29 rfl ?_
      refine ec_iconst cst_1 rfl ?_
      refine en_iadd rfl ?_
      refine ec_putI (ci := 10) (j := 69) ⟨rfl, rfl, rfl⟩ g29 rfl ?_
      refine en_aload rfl rfl ?_
      obtain ⟨r30, e31, h⟩ := gb h
      refine ec_getP (ci := 10) (j := 32) ⟨rfl, rfl, rfl⟩ g29 e31 rfl ?_
      refine en_iload rfl rfl ?_
      obtain ⟨g32, h⟩ := gd h
      obtain ⟨g33, h⟩ := gd h
      refine ec_iaload g32 g33 rfl ?_
      refine ec_iconst cst_3 rfl ?_
      rcases gi h with ⟨c34, h⟩ | ⟨c34, h⟩
      · refine en_icmp_ne_t c34 rfl ?_
        refine en_aload rfl rfl ?_
        refine en_iload rfl rfl ?_
        obtain ⟨⟨q35, C36⟩, e37, h⟩ := gb h
        dsimp only at h
        refine ec_callV1 (k' := 210) (n := 2) (rc := 10) (a := p0) (as := [.int p6]) ⟨rfl, rfl⟩ rfl rfl (Nat.le_of_ble_eq_true rfl) (Nat.le_of_ble_eq_true rfl) (Nat.le_of_ble_eq_true rfl) g29 rfl (t_210 e37) ?_
        refine en_istore (l' := [(7, .int q35), (0, .ref p0), (1, .int p1), (2, .int p2), (3, .int p3), (4, .int p4), (5, .int p5), (6, .int p6)]) rfl rfl ?_
        refine en_iload rfl rfl ?_
        rcases gi h with ⟨c38, h⟩ | ⟨c38, h⟩
        · refine en_if_ne_t c38 rfl ?_
          refine ec_iconst cst_1 rfl ?_
          refine en_goto rfl ?_
          refine en_istore (l' := [(5, .int (1 : Int32)), (7, .int q35), (0, .ref p0), (1, .int p1), (2, .int p2), (3, .int p3), (4, .int p4), (6, .int p6)]) rfl rfl ?_
          refine en_iload rfl rfl ?_
          rcases gi h with ⟨c39, h⟩ | ⟨c39, h⟩
          · refine en_if_ne_t c39 rfl ?_
            refine en_aload rfl rfl ?_
            obtain ⟨r40, e41, h⟩ := gb h
            refine ec_getP (ci := 10) (j := 81) ⟨rfl, rfl, rfl⟩ g29 e41 rfl ?_
            refine ec_iconst cst_1 rfl ?_
            refine en_dup2 ⟨rfl, rfl⟩ rfl ?_
            obtain ⟨g42, h⟩ := gd h
            obtain ⟨g43, h⟩ := gd h
            refine ec_iaload g42 g43 rfl ?_
            refine ec_iconst cst_1 rfl ?_
            refine en_iadd rfl ?_
            obtain ⟨g44, h⟩ := gd h
            refine ec_iastore g42 g44 rfl ?_
            refine en_iload rfl rfl ?_
            rcases gi h with ⟨c45, h⟩ | ⟨c45, h⟩
            · refine en_if_ne_t c45 rfl ?_
              refine en_aload rfl rfl ?_
              obtain ⟨r46, e47, h⟩ := gb h
              refine ec_getP (ci := 10) (j := 81) ⟨rfl, rfl, rfl⟩ g29 e47 rfl ?_
              refine ec_iconst cst_2 rfl ?_
              refine en_dup2 ⟨rfl, rfl⟩ rfl ?_
              obtain ⟨g48, h⟩ := gd h
              obtain ⟨g49, h⟩ := gd h
              refine ec_iaload g48 g49 rfl ?_
              refine ec_iconst cst_1 rfl ?_
              refine en_iadd rfl ?_
              obtain ⟨g50, h⟩ := gd h
              refine ec_iastore g48 g50 rfl ?_
              refine en_aload rfl rfl ?_
              obtain ⟨r51, e52, h⟩ := gb h
              refine ec_getP (ci := 10) (j := 81) ⟨rfl, rfl, rfl⟩ g29 e52 rfl ?_
              refine ec_iconst cst_3 rfl ?_
              refine en_dup2 ⟨rfl, rfl⟩ rfl ?_
              obtain ⟨g53, h⟩ := gd h
              obtain ⟨g54, h⟩ := gd h
              refine ec_iaload g53 g54 rfl ?_
              refine en_aload rfl rfl ?_
              obtain ⟨r55, e56, h⟩ := gb h
              refine ec_getP (ci := 10) (j := 32) ⟨rfl, rfl, rfl⟩ g29 e56 rfl ?_
              refine en_iload rfl rfl ?_
              obtain ⟨g57, h⟩ := gd h
              obtain ⟨g58, h⟩ := gd h
              refine ec_iaload g57 g58 rfl ?_
              refine ec_iconst cst_3 rfl ?_
              rcases gi h with ⟨c59, h⟩ | ⟨c59, h⟩
              · refine en_icmp_eq_t c59 rfl ?_
                refine en_aload rfl rfl ?_
                obtain ⟨r60, e61, h⟩ := gb h
                refine ec_getP (ci := 10) (j := 33) ⟨rfl, rfl, rfl⟩ g29 e61 rfl ?_
                refine en_iload rfl rfl ?_
                obtain ⟨g62, h⟩ := gd h
                obtain ⟨g63, h⟩ := gd h
                refine ec_iaload g62 g63 rfl ?_
                refine ec_iconst cst_2 rfl ?_
                rcases gi h with ⟨c64, h⟩ | ⟨c64, h⟩
                · refine en_icmp_ne_t c64 rfl ?_
                  refine en_aload rfl rfl ?_
                  obtain ⟨r65, e66, h⟩ := gb h
                  refine ec_getP (ci := 10) (j := 33) ⟨rfl, rfl, rfl⟩ g29 e66 rfl ?_
                  refine en_iload rfl rfl ?_
                  obtain ⟨g67, h⟩ := gd h
                  obtain ⟨g68, h⟩ := gd h
                  refine ec_iaload g67 g68 rfl ?_
                  refine ec_iconst cst_1 rfl ?_
                  rcases gi h with ⟨c69, h⟩ | ⟨c69, h⟩
                  · refine en_icmp_ne_t c69 rfl ?_
                    refine ec_iconst cst_1 rfl ?_
                    refine en_aload rfl rfl ?_
                    refine en_iload rfl rfl ?_
                    obtain ⟨⟨q70, C71⟩, e72, h⟩ := gb h
                    dsimp only at h
                    refine ec_callV1 (k' := 239) (n := 2) (rc := 10) (a := p0) (as := [.int p1]) ⟨rfl, rfl⟩ rfl rfl (Nat.le_of_ble_eq_true rfl) (Nat.le_of_ble_eq_true rfl) (Nat.le_of_ble_eq_true rfl) g29 rfl (t_239 e72) ?_
                    refine en_iadd rfl ?_
                    refine en_iadd rfl ?_
                    obtain ⟨g73, h⟩ := gd h
                    refine ec_iastore g53 g73 rfl ?_
                    refine en_aload rfl rfl ?_
                    refine en_iload rfl rfl ?_
                    obtain ⟨⟨q74, C75⟩, e76, h⟩ := gb h
                    dsimp only at h
                    refine ec_callV1 (k' := 205) (n := 2) (rc := 10) (a := p0) (as := [.int p4]) ⟨rfl, rfl⟩ rfl rfl (Nat.le_of_ble_eq_true rfl) (Nat.le_of_ble_eq_true rfl) (Nat.le_of_ble_eq_true rfl) g29 rfl (t_205 e76) ?_
                    refine en_istore (l' := [(6, .int q74), (5, .int (1 : Int32)), (7, .int q35), (0, .ref p0), (1, .int p1), (2, .int p2), (3, .int p3), (4, .int p4)]) rfl rfl ?_
                    refine en_goto rfl ?_
                    refine en_sub [3, 4, 5, 6, 7, 1, 0] rfl rfl ?_
                    exact ih _ _ _ _ _ _ _ _ _ h o M' hk
                  · refine en_icmp_ne_f c69 rfl ?_
                    refine ec_iconst cst_1 rfl ?_
                    refine en_goto rfl ?_
                    refine en_iadd rfl ?_
                    obtain ⟨g77, h⟩ := gd h
                    refine ec_iastore g53 g77 rfl ?_
                    refine en_aload rfl rfl ?_
                    refine en_iload rfl rfl ?_
                    obtain ⟨⟨q78, C79⟩, e80, h⟩ := gb h
                    dsimp only at h
                    refine ec_callV1 (k' := 205) (n := 2) (rc := 10) (a := p0) (as := [.int p4]) ⟨rfl, rfl⟩ rfl rfl (Nat.le_of_ble_eq_true rfl) (Nat.le_of_ble_eq_true rfl) (Nat.le_of_ble_eq_true rfl) g29 rfl (t_205 e80) ?_
                    refine en_istore (l' := [(6, .int q78), (5, .int (1 : Int32)), (7, .int q35), (0, .ref p0), (1, .int p1), (2, .int p2), (3, .int p3), (4, .int p4)]) rfl rfl ?_
                    refine en_goto rfl ?_
                    refine en_sub [3, 4, 5, 6, 7, 1, 0] rfl rfl ?_
                    exact ih _ _ _ _ _ _ _ _ _ h o M' hk
                · refine en_icmp_ne_f c64 rfl ?_
                  refine ec_iconst cst_0 rfl ?_
                  refine en_goto rfl ?_
                  refine en_iadd rfl ?_
                  obtain ⟨g81, h⟩ := gd h
                  refine ec_iastore g53 g81 rfl ?_
                  refine en_aload rfl rfl ?_
                  refine en_iload rfl rfl ?_
                  obtain ⟨⟨q82, C83⟩, e84, h⟩ := gb h
                  dsimp only at h
                  refine ec_callV1 (k' := 205) (n := 2) (rc := 10) (a := p0) (as := [.int p4]) ⟨rfl, rfl⟩ rfl rfl (Nat.le_of_ble_eq_true rfl) (Nat.le_of_ble_eq_true rfl) (Nat.le_of_ble_eq_true rfl) g29 rfl (t_205 e84) ?_
                  refine en_istore (l' := [(6, .int q82), (5, .int (1 : Int32)), (7, .int q35), (0, .ref p0), (1, .int p1), (2, .int p2), (3, .int p3), (4, .int p4)]) rfl rfl ?_
                  refine en_goto rfl ?_
                  refine en_sub [3, 4, 5, 6, 7, 1, 0] rfl rfl ?_
                  exact ih _ _ _ _ _ _ _ _ _ h o M' hk
              · refine en_icmp_eq_f c59 rfl ?_
                refine en_aload rfl rfl ?_
                refine en_iload rfl rfl ?_
                obtain ⟨⟨q85, C86⟩, e87, h⟩ := gb h
                dsimp only at h
                refine ec_callV1 (k' := 240) (n := 2) (rc := 10) (a := p0) (as := [.int p1]) ⟨rfl, rfl⟩ rfl rfl (Nat.le_of_ble_eq_true rfl) (Nat.le_of_ble_eq_true rfl) (Nat.le_of_ble_eq_true rfl) g29 rfl (t_240 e87) ?_
                refine en_goto rfl ?_
                refine en_iadd rfl ?_
                obtain ⟨g88, h⟩ := gd h
                refine ec_iastore g53 g88 rfl ?_
                refine en_aload rfl rfl ?_
                refine en_iload rfl rfl ?_
                obtain ⟨⟨q89, C90⟩, e91, h⟩ := gb h
                dsimp only at h
                refine ec_callV1 (k' := 205) (n := 2) (rc := 10) (a := p0) (as := [.int p4]) ⟨rfl, rfl⟩ rfl rfl (Nat.le_of_ble_eq_true rfl) (Nat.le_of_ble_eq_true rfl) (Nat.le_of_ble_eq_true rfl) g29 rfl (t_205 e91) ?_
                refine en_istore (l' := [(6, .int q89), (5, .int (1 : Int32)), (7, .int q35), (0, .ref p0), (1, .int p1), (2, .int p2), (3, .int p3), (4, .int p4)]) rfl rfl ?_
                refine en_goto rfl ?_
                refine en_sub [3, 4, 5, 6, 7, 1, 0] rfl rfl ?_
                exact ih _ _ _ _ _ _ _ _ _ h o M' hk
            · refine en_if_ne_f c45 rfl ?_
              refine en_goto rfl ?_
              refine en_aload rfl rfl ?_
              refine en_iload rfl rfl ?_
              obtain ⟨⟨q92, C93⟩, e94, h⟩ := gb h
              dsimp only at h
              refine ec_callV1 (k' := 205) (n := 2) (rc := 10) (a := p0) (as := [.int p4]) ⟨rfl, rfl⟩ rfl rfl (Nat.le_of_ble_eq_true rfl) (Nat.le_of_ble_eq_true rfl) (Nat.le_of_ble_eq_true rfl) g29 rfl (t_205 e94) ?_
              refine en_istore (l' := [(6, .int q92), (5, .int (1 : Int32)), (7, .int q35), (0, .ref p0), (1, .int p1), (2, .int p2), (3, .int p3), (4, .int p4)]) rfl rfl ?_
              refine en_goto rfl ?_
              refine en_sub [3, 4, 5, 6, 7, 1, 0] rfl rfl ?_
              exact ih _ _ _ _ _ _ _ _ _ h o M' hk
          · refine en_if_ne_f c39 rfl ?_
            refine en_aload rfl rfl ?_
            obtain ⟨r95, e96, h⟩ := gb h
            refine ec_getP (ci := 10) (j := 32) ⟨rfl, rfl, rfl⟩ g29 e96 rfl ?_
            refine en_iload rfl rfl ?_
            obtain ⟨g97, h⟩ := gd h
            obtain ⟨g98, h⟩ := gd h
            refine ec_iaload g97 g98 rfl ?_
            refine ec_iconst cst_3 rfl ?_
            rcases gi h with ⟨c99, h⟩ | ⟨c99, h⟩
            · refine en_icmp_eq_t c99 rfl ?_
              refine en_iload rfl rfl ?_
              rcases gi h with ⟨c100, h⟩ | ⟨c100, h⟩
              · refine en_if_ne_t c100 rfl ?_
                refine en_aload rfl rfl ?_
                obtain ⟨r101, e102, h⟩ := gb h
                refine ec_getP (ci := 10) (j := 81) ⟨rfl, rfl, rfl⟩ g29 e102 rfl ?_
                refine ec_iconst cst_2 rfl ?_
                refine en_dup2 ⟨rfl, rfl⟩ rfl ?_
                obtain ⟨g103, h⟩ := gd h
                obtain ⟨g104, h⟩ := gd h
                refine ec_iaload g103 g104 rfl ?_
                refine ec_iconst cst_1 rfl ?_
                refine en_iadd rfl ?_
                obtain ⟨g105, h⟩ := gd h
                refine ec_iastore g103 g105 rfl ?_
                refine en_aload rfl rfl ?_
                obtain ⟨r106, e107, h⟩ := gb h
                refine ec_getP (ci := 10) (j := 81) ⟨rfl, rfl, rfl⟩ g29 e107 rfl ?_
                refine ec_iconst cst_3 rfl ?_
                refine en_dup2 ⟨rfl, rfl⟩ rfl ?_
                obtain ⟨g108, h⟩ := gd h
                obtain ⟨g109, h⟩ := gd h
                refine ec_iaload g108 g109 rfl ?_
                refine en_aload rfl rfl ?_
                obtain ⟨r110, e111, h⟩ := gb h
                refine ec_getP (ci := 10) (j := 32) ⟨rfl, rfl, rfl⟩ g29 e111 rfl ?_
                refine en_iload rfl rfl ?_
                obtain ⟨g112, h⟩ := gd h
                obtain ⟨g113, h⟩ := gd h
                refine ec_iaload g112 g113 rfl ?_
                refine ec_iconst cst_3 rfl ?_
                rcases gi h with ⟨c114, h⟩ | ⟨c114, h⟩
                · refine en_icmp_eq_t c114 rfl ?_
                  refine en_aload rfl rfl ?_
                  obtain ⟨r115, e116, h⟩ := gb h
                  refine ec_getP (ci := 10) (j := 33) ⟨rfl, rfl, rfl⟩ g29 e116 rfl ?_
                  refine en_iload rfl rfl ?_
                  obtain ⟨g117, h⟩ := gd h
                  obtain ⟨g118, h⟩ := gd h
                  refine ec_iaload g117 g118 rfl ?_
                  refine ec_iconst cst_2 rfl ?_
                  rcases gi h with ⟨c119, h⟩ | ⟨c119, h⟩
                  · refine en_icmp_ne_t c119 rfl ?_
                    refine en_aload rfl rfl ?_
                    obtain ⟨r120, e121, h⟩ := gb h
                    refine ec_getP (ci := 10) (j := 33) ⟨rfl, rfl, rfl⟩ g29 e121 rfl ?_
                    refine en_iload rfl rfl ?_
                    obtain ⟨g122, h⟩ := gd h
                    obtain ⟨g123, h⟩ := gd h
                    refine ec_iaload g122 g123 rfl ?_
                    refine ec_iconst cst_1 rfl ?_
                    rcases gi h with ⟨c124, h⟩ | ⟨c124, h⟩
                    · refine en_icmp_ne_t c124 rfl ?_
                      refine ec_iconst cst_1 rfl ?_
                      refine en_aload rfl rfl ?_
                      refine en_iload rfl rfl ?_
                      obtain ⟨⟨q125, C126⟩, e127, h⟩ := gb h
                      dsimp only at h
                      refine ec_callV1 (k' := 239) (n := 2) (rc := 10) (a := p0) (as := [.int p1]) ⟨rfl, rfl⟩ rfl rfl (Nat.le_of_ble_eq_true rfl) (Nat.le_of_ble_eq_true rfl) (Nat.le_of_ble_eq_true rfl) g29 rfl (t_239 e127) ?_
                      refine en_iadd rfl ?_
                      refine en_iadd rfl ?_
                      obtain ⟨g128, h⟩ := gd h
                      refine ec_iastore g108 g128 rfl ?_
                      refine en_aload rfl rfl ?_
                      refine en_iload rfl rfl ?_
                      obtain ⟨⟨q129, C130⟩, e131, h⟩ := gb h
                      dsimp only at h
                      refine ec_callV1 (k' := 205) (n := 2) (rc := 10) (a := p0) (as := [.int p4]) ⟨rfl, rfl⟩ rfl rfl (Nat.le_of_ble_eq_true rfl) (Nat.le_of_ble_eq_true rfl) (Nat.le_of_ble_eq_true rfl) g29 rfl (t_205 e131) ?_
                      refine en_istore (l' := [(6, .int q129), (5, .int (1 : Int32)), (7, .int q35), (0, .ref p0), (1, .int p1), (2, .int p2), (3, .int p3), (4, .int p4)]) rfl rfl ?_
                      refine en_goto rfl ?_
                      refine en_sub [3, 4, 5, 6, 7, 1, 0] rfl rfl ?_
                      exact ih _ _ _ _ _ _ _ _ _ h o M' hk
                    · refine en_icmp_ne_f c124 rfl ?_
                      refine ec_iconst cst_1 rfl ?_
                      refine en_goto rfl ?_
                      refine en_iadd rfl ?_
                      obtain ⟨g132, h⟩ := gd h
                      refine ec_iastore g108 g132 rfl ?_
                      refine en_aload rfl rfl ?_
                      refine en_iload rfl rfl ?_
                      obtain ⟨⟨q133, C134⟩, e135, h⟩ := gb h
                      dsimp only at h
                      refine ec_callV1 (k' := 205) (n := 2) (rc := 10) (a := p0) (as := [.int p4]) ⟨rfl, rfl⟩ rfl rfl (Nat.le_of_ble_eq_true rfl) (Nat.le_of_ble_eq_true rfl) (Nat.le_of_ble_eq_true rfl) g29 rfl (t_205 e135) ?_
                      refine en_istore (l' := [(6, .int q133), (5, .int (1 : Int32)), (7, .int q35), (0, .ref p0), (1, .int p1), (2, .int p2), (3, .int p3), (4, .int p4)]) rfl rfl ?_
                      refine en_goto rfl ?_
                      refine en_sub [3, 4, 5, 6, 7, 1, 0] rfl rfl ?_
                      exact ih _ _ _ _ _ _ _ _ _ h o M' hk
                  · refine en_icmp_ne_f c119 rfl ?_
                    refine ec_iconst cst_0 rfl ?_
                    refine en_goto rfl ?_
                    refine en_iadd rfl ?_
                    obtain ⟨g136, h⟩ := gd h
                    refine ec_iastore g108 g136 rfl ?_
                    refine en_aload rfl rfl ?_
                    refine en_iload rfl rfl ?_
                    obtain ⟨⟨q137, C138⟩, e139, h⟩ := gb h
                    dsimp only at h
                    refine ec_callV1 (k' := 205) (n := 2) (rc := 10) (a := p0) (as := [.int p4]) ⟨rfl, rfl⟩ rfl rfl (Nat.le_of_ble_eq_true rfl) (Nat.le_of_ble_eq_true rfl) (Nat.le_of_ble_eq_true rfl) g29 rfl (t_205 e139) ?_
                    refine en_istore (l' := [(6, .int q137), (5, .int (1 : Int32)), (7, .int q35), (0, .ref p0), (1, .int p1), (2, .int p2), (3, .int p3), (4, .int p4)]) rfl rfl ?_
                    refine en_goto rfl ?_
                    refine en_sub [3, 4, 5, 6, 7, 1, 0] rfl rfl ?_
                    exact ih _ _ _ _ _ _ _ _ _ h o M' hk
                · refine en_icmp_eq_f c114 rfl ?_
                  refine en_aload rfl rfl ?_
                  refine en_iload rfl rfl ?_
                  obtain ⟨⟨q140, C141⟩, e142, h⟩ := gb h
                  dsimp only at h
                  refine ec_callV1 (k' := 240) (n := 2) (rc := 10) (a := p0) (as := [.int p1]) ⟨rfl, rfl⟩ rfl rfl (Nat.le_of_ble_eq_true rfl) (Nat.le_of_ble_eq_true rfl) (Nat.le_of_ble_eq_true rfl) g29 rfl (t_240 e142) ?_
                  refine en_goto rfl ?_
                  refine en_iadd rfl ?_
                  obtain ⟨g143, h⟩ := gd h
                  refine ec_iastore g108 g143 rfl ?_
                  refine en_aload rfl rfl ?_
                  refine en_iload rfl rfl ?_
                  obtain ⟨⟨q144, C145⟩, e146, h⟩ := gb h
                  dsimp only at h
                  refine ec_callV1 (k' := 205) (n := 2) (rc := 10) (a := p0) (as := [.int p4]) ⟨rfl, rfl⟩ rfl rfl (Nat.le_of_ble_eq_true rfl) (Nat.le_of_ble_eq_true rfl) (Nat.le_of_ble_eq_true rfl) g29 rfl (t_205 e146) ?_
                  refine en_istore (l' := [(6, .int q144), (5, .int (1 : Int32)), (7, .int q35), (0, .ref p0), (1, .int p1), (2, .int p2), (3, .int p3), (4, .int p4)]) rfl rfl ?_
                  refine en_goto rfl ?_
                  refine en_sub [3, 4, 5, 6, 7, 1, 0] rfl rfl ?_
                  exact ih _ _ _ _ _ _ _ _ _ h o M' hk
              · refine en_if_ne_f c100 rfl ?_
                refine en_goto rfl ?_
                refine en_aload rfl rfl ?_
                refine en_iload rfl rfl ?_
                obtain ⟨⟨q147, C148⟩, e149, h⟩ := gb h
                dsimp only at h
                refine ec_callV1 (k' := 205) (n := 2) (rc := 10) (a := p0) (as := [.int p4]) ⟨rfl, rfl⟩ rfl rfl (Nat.le_of_ble_eq_true rfl) (Nat.le_of_ble_eq_true rfl) (Nat.le_of_ble_eq_true rfl) g29 rfl (t_205 e149) ?_
                refine en_istore (l' := [(6, .int q147), (5, .int (1 : Int32)), (7, .int q35), (0, .ref p0), (1, .int p1), (2, .int p2), (3, .int p3), (4, .int p4)]) rfl rfl ?_
                refine en_goto rfl ?_
                refine en_sub [3, 4, 5, 6, 7, 1, 0] rfl rfl ?_
                exact ih _ _ _ _ _ _ _ _ _ h o M' hk
            · refine en_icmp_eq_f c99 rfl ?_
              refine en_aload rfl rfl ?_
              obtain ⟨r150, e151, h⟩ := gb h
              refine ec_getP (ci := 10) (j := 81) ⟨rfl, rfl, rfl⟩ g29 e151 rfl ?_
              refine ec_iconst cst_1 rfl ?_
              refine en_dup2 ⟨rfl, rfl⟩ rfl ?_
              obtain ⟨g152, h⟩ := gd h
              obtain ⟨g153, h⟩ := gd h
              refine ec_iaload g152 g153 rfl ?_
              refine ec_iconst cst_1 rfl ?_
              refine en_iadd rfl ?_
              obtain ⟨g154, h⟩ := gd h
              refine ec_iastore g152 g154 rfl ?_
              refine en_iload rfl rfl ?_
              rcases gi h with ⟨c155, h⟩ | ⟨c155, h⟩
              · refine en_if_ne_t c155 rfl ?_
                refine en_aload rfl rfl ?_
                obtain ⟨r156, e157, h⟩ := gb h
                refine ec_getP (ci := 10) (j := 81) ⟨rfl, rfl, rfl⟩ g29 e157 rfl ?_
                refine ec_iconst cst_2 rfl ?_
                refine en_dup2 ⟨rfl, rfl⟩ rfl ?_
                obtain ⟨g158, h⟩ := gd h
                obtain ⟨g159, h⟩ := gd h
                refine ec_iaload g158 g159 rfl ?_
                refine ec_iconst cst_1 rfl ?_
                refine en_iadd rfl ?_
                obtain ⟨g160, h⟩ := gd h
                refine ec_iastore g158 g160 rfl ?_
                refine en_aload rfl rfl ?_
                obtain ⟨r161, e162, h⟩ := gb h
                refine ec_getP (ci := 10) (j := 81) ⟨rfl, rfl, rfl⟩ g29 e162 rfl ?_
                refine ec_iconst cst_3 rfl ?_
                refine en_dup2 ⟨rfl, rfl⟩ rfl ?_
                obtain ⟨g163, h⟩ := gd h
                obtain ⟨g164, h⟩ := gd h
                refine ec_iaload g163 g164 rfl ?_
                refine en_aload rfl rfl ?_
                obtain ⟨r165, e166, h⟩ := gb h
                refine ec_getP (ci := 10) (j := 32) ⟨rfl, rfl, rfl⟩ g29 e166 rfl ?_
                refine en_iload rfl rfl ?_
                obtain ⟨g167, h⟩ := gd h
                obtain ⟨g168, h⟩ := gd h
                refine ec_iaload g167 g168 rfl ?_
                refine ec_iconst cst_3 rfl ?_
                rcases gi h with ⟨c169, h⟩ | ⟨c169, h⟩
                · refine en_icmp_eq_t c169 rfl ?_
                  refine en_aload rfl rfl ?_
                  obtain ⟨r170, e171, h⟩ := gb h
                  refine ec_getP (ci := 10) (j := 33) ⟨rfl, rfl, rfl⟩ g29 e171 rfl ?_
                  refine en_iload rfl rfl ?_
                  obtain ⟨g172, h⟩ := gd h
                  obtain ⟨g173, h⟩ := gd h
                  refine ec_iaload g172 g173 rfl ?_
                  refine ec_iconst cst_2 rfl ?_
                  rcases gi h with ⟨c174, h⟩ | ⟨c174, h⟩
                  · refine en_icmp_ne_t c174 rfl ?_
                    refine en_aload rfl rfl ?_
                    obtain ⟨r175, e176, h⟩ := gb h
                    refine ec_getP (ci := 10) (j := 33) ⟨rfl, rfl, rfl⟩ g29 e176 rfl ?_
                    refine en_iload rfl rfl ?_
                    obtain ⟨g177, h⟩ := gd h
                    obtain ⟨g178, h⟩ := gd h
                    refine ec_iaload g177 g178 rfl ?_
                    refine ec_iconst cst_1 rfl ?_
                    rcases gi h with ⟨c179, h⟩ | ⟨c179, h⟩
                    · refine en_icmp_ne_t c179 rfl ?_
                      refine ec_iconst cst_1 rfl ?_
                      refine en_aload rfl rfl ?_
                      refine en_iload rfl rfl ?_
                      obtain ⟨⟨q180, C181⟩, e182, h⟩ := gb h
                      dsimp only at h
                      refine ec_callV1 (k' := 239) (n := 2) (rc := 10) (a := p0) (as := [.int p1]) ⟨rfl, rfl⟩ rfl rfl (Nat.le_of_ble_eq_true rfl) (Nat.le_of_ble_eq_true rfl) (Nat.le_of_ble_eq_true rfl) g29 rfl (t_239 e182) ?_
                      refine en_iadd rfl ?_
                      refine en_iadd rfl ?_
                      obtain ⟨g183, h⟩ := gd h
                      refine ec_iastore g163 g183 rfl ?_
                      refine en_aload rfl rfl ?_
                      refine en_iload rfl rfl ?_
                      obtain ⟨⟨q184, C185⟩, e186, h⟩ := gb h
                      dsimp only at h
                      refine ec_callV1 (k' := 205) (n := 2) (rc := 10) (a := p0) (as := [.int p4]) ⟨rfl, rfl⟩ rfl rfl (Nat.le_of_ble_eq_true rfl) (Nat.le_of_ble_eq_true rfl) (Nat.le_of_ble_eq_true rfl) g29 rfl (t_205 e186) ?_
                      refine en_istore (l' := [(6, .int q184), (5, .int (1 : Int32)), (7, .int q35), (0, .ref p0), (1, .int p1), (2, .int p2), (3, .int p3), (4, .int p4)]) rfl rfl ?_
                      refine en_goto rfl ?_
                      refine en_sub [3, 4, 5, 6, 7, 1, 0] rfl rfl ?_
                      exact ih _ _ _ _ _ _ _ _ _ h o M' hk
                    · refine en_icmp_ne_f c179 rfl ?_
                      refine ec_iconst cst_1 rfl ?_
                      refine en_goto rfl ?_
                      refine en_iadd rfl ?_
                      obtain ⟨g187, h⟩ := gd h
                      refine ec_iastore g163 g187 rfl ?_
                      refine en_aload rfl rfl ?_
                      refine en_iload rfl rfl ?_
                      obtain ⟨⟨q188, C189⟩, e190, h⟩ := gb h
                      dsimp only at h
                      refine ec_callV1 (k' := 205) (n := 2) (rc := 10) (a := p0) (as := [.int p4]) ⟨rfl, rfl⟩ rfl rfl (Nat.le_of_ble_eq_true rfl) (Nat.le_of_ble_eq_true rfl) (Nat.le_of_ble_eq_true rfl) g29 rfl (t_205 e190) ?_
                      refine en_istore (l' := [(6, .int q188), (5, .int (1 : Int32)), (7, .int q35), (0, .ref p0), (1, .int p1), (2, .int p2), (3, .int p3), (4, .int p4)]) rfl rfl ?_
                      refine en_goto rfl ?_
                      refine en_sub [3, 4, 5, 6, 7, 1, 0] rfl rfl ?_
                      exact ih _ _ _ _ _ _ _ _ _ h o M' hk
                  · refine en_icmp_ne_f c174 rfl ?_
                    refine ec_iconst cst_0 rfl ?_
                    refine en_goto rfl ?_
                    refine en_iadd rfl ?_
                    obtain ⟨g191, h⟩ := gd h
                    refine ec_iastore g163 g191 rfl ?_
                    refine en_aload rfl rfl ?_
                    refine en_iload rfl rfl ?_
                    obtain ⟨⟨q192, C193⟩, e194, h⟩ := gb h
                    dsimp only at h
                    refine ec_callV1 (k' := 205) (n := 2) (rc := 10) (a := p0) (as := [.int p4]) ⟨rfl, rfl⟩ rfl rfl (Nat.le_of_ble_eq_true rfl) (Nat.le_of_ble_eq_true rfl) (Nat.le_of_ble_eq_true rfl) g29 rfl (t_205 e194) ?_
                    refine en_istore (l' := [(6, .int q192), (5, .int (1 : Int32)), (7, .int q35), (0, .ref p0), (1, .int p1), (2, .int p2), (3, .int p3), (4, .int p4)]) rfl rfl ?_
                    refine en_goto rfl ?_
                    refine en_sub [3, 4, 5, 6, 7, 1, 0] rfl rfl ?_
                    exact ih _ _ _ _ _ _ _ _ _ h o M' hk
                · refine en_icmp_eq_f c169 rfl ?_
                  refine en_aload rfl rfl ?_
                  refine en_iload rfl rfl ?_
                  obtain ⟨⟨q195, C196⟩, e197, h⟩ := gb h
                  dsimp only at h
                  refine ec_callV1 (k' := 240) (n := 2) (rc := 10) (a := p0) (as := [.int p1]) ⟨rfl, rfl⟩ rfl rfl (Nat.le_of_ble_eq_true rfl) (Nat.le_of_ble_eq_true rfl) (Nat.le_of_ble_eq_true rfl) g29 rfl (t_240 e197) ?_
                  refine en_goto rfl ?_
                  refine en_iadd rfl ?_
                  obtain ⟨g198, h⟩ := gd h
                  refine ec_iastore g163 g198 rfl ?_
                  refine en_aload rfl rfl ?_
                  refine en_iload rfl rfl ?_
                  obtain ⟨⟨q199, C200⟩, e201, h⟩ := gb h
                  dsimp only at h
                  refine ec_callV1 (k' := 205) (n := 2) (rc := 10) (a := p0) (as := [.int p4]) ⟨rfl, rfl⟩ rfl rfl (Nat.le_of_ble_eq_true rfl) (Nat.le_of_ble_eq_true rfl) (Nat.le_of_ble_eq_true rfl) g29 rfl (t_205 e201) ?_
                  refine en_istore (l' := [(6, .int q199), (5, .int (1 : Int32)), (7, .int q35), (0, .ref p0), (1, .int p1), (2, .int p2), (3, .int p3), (4, .int p4)]) rfl rfl ?_
                  refine en_goto rfl ?_
                  refine en_sub [3, 4, 5, 6, 7, 1, 0] rfl rfl ?_
                  exact ih _ _ _ _ _ _ _ _ _ h o M' hk
              · refine en_if_ne_f c155 rfl ?_
                refine en_goto rfl ?_
                refine en_aload rfl rfl ?_
                refine en_iload rfl rfl ?_
                obtain ⟨⟨q202, C203⟩, e204, h⟩ := gb h
                dsimp only at h
                refine ec_callV1 (k' := 205) (n := 2) (rc := 10) (a := p0) (as := [.int p4]) ⟨rfl, rfl⟩ rfl rfl (Nat.le_of_ble_eq_true rfl) (Nat.le_of_ble_eq_true rfl) (Nat.le_of_ble_eq_true rfl) g29 rfl (t_205 e204) ?_
                refine en_istore (l' := [(6, .int q202), (5, .int (1 : Int32)), (7, .int q35), (0, .ref p0), (1, .int p1), (2, .int p2), (3, .int p3), (4, .int p4)]) rfl rfl ?_
                refine en_goto rfl ?_
                refine en_sub [3, 4, 5, 6, 7, 1, 0] rfl rfl ?_
                exact ih _ _ _ _ _ _ _ _ _ h o M' hk
        · refine en_if_ne_f c38 rfl ?_
          refine en_iload rfl rfl ?_
          rcases gi h with ⟨c205, h⟩ | ⟨c205, h⟩
          · refine en_if_eq_t c205 rfl ?_
            refine ec_iconst cst_0 rfl ?_
            refine en_istore (l' := [(5, .int (0 : Int32)), (7, .int q35), (0, .ref p0), (1, .int p1), (2, .int p2), (3, .int p3), (4, .int p4), (6, .int p6)]) rfl rfl ?_
            refine en_iload rfl rfl ?_
            rcases gi h with ⟨c206, h⟩ | ⟨c206, h⟩
            · refine en_if_ne_t c206 rfl ?_
              refine en_aload rfl rfl ?_
              obtain ⟨r207, e208, h⟩ := gb h
              refine ec_getP (ci := 10) (j := 81) ⟨rfl, rfl, rfl⟩ g29 e208 rfl ?_
              refine ec_iconst cst_1 rfl ?_
              refine en_dup2 ⟨rfl, rfl⟩ rfl ?_
              obtain ⟨g209, h⟩ := gd h
              obtain ⟨g210, h⟩ := gd h
              refine ec_iaload g209 g210 rfl ?_
              refine ec_iconst cst_1 rfl ?_
              refine en_iadd rfl ?_
              obtain ⟨g211, h⟩ := gd h
              refine ec_iastore g209 g211 rfl ?_
              refine en_iload rfl rfl ?_
              rcases gi h with ⟨c212, h⟩ | ⟨c212, h⟩
              · refine en_if_ne_t c212 rfl ?_
                refine en_aload rfl rfl ?_
                obtain ⟨r213, e214, h⟩ := gb h
                refine ec_getP (ci := 10) (j := 81) ⟨rfl, rfl, rfl⟩ g29 e214 rfl ?_
                refine ec_iconst cst_2 rfl ?_
                refine en_dup2 ⟨rfl, rfl⟩ rfl ?_
                obtain ⟨g215, h⟩ := gd h
                obtain ⟨g216, h⟩ := gd h
                refine ec_iaload g215 g216 rfl ?_
                refine ec_iconst cst_1 rfl ?_
                refine en_iadd rfl ?_
                obtain ⟨g217, h⟩ := gd h
                refine ec_iastore g215 g217 rfl ?_
                refine en_aload rfl rfl ?_
                obtain ⟨r218, e219, h⟩ := gb h
                refine ec_getP (ci := 10) (j := 81) ⟨rfl, rfl, rfl⟩ g29 e219 rfl ?_
                refine ec_iconst cst_3 rfl ?_
                refine en_dup2 ⟨rfl, rfl⟩ rfl ?_
                obtain ⟨g220, h⟩ := gd h
                obtain ⟨g221, h⟩ := gd h
                refine ec_iaload g220 g221 rfl ?_
                refine en_aload rfl rfl ?_
                obtain ⟨r222, e223, h⟩ := gb h
                refine ec_getP (ci := 10) (j := 32) ⟨rfl, rfl, rfl⟩ g29 e223 rfl ?_
                refine en_iload rfl rfl ?_
                obtain ⟨g224, h⟩ := gd h
                obtain ⟨g225, h⟩ := gd h
                refine ec_iaload g224 g225 rfl ?_
                refine ec_iconst cst_3 rfl ?_
                rcases gi h with ⟨c226, h⟩ | ⟨c226, h⟩
                · refine en_icmp_eq_t c226 rfl ?_
                  refine en_aload rfl rfl ?_
                  obtain ⟨r227, e228, h⟩ := gb h
                  refine ec_getP (ci := 10) (j := 33) ⟨rfl, rfl, rfl⟩ g29 e228 rfl ?_
                  refine en_iload rfl rfl ?_
                  obtain ⟨g229, h⟩ := gd h
                  obtain ⟨g230, h⟩ := gd h
                  refine ec_iaload g229 g230 rfl ?_
                  refine ec_iconst cst_2 rfl ?_
                  rcases gi h with ⟨c231, h⟩ | ⟨c231, h⟩
                  · refine en_icmp_ne_t c231 rfl ?_
                    refine en_aload rfl rfl ?_
                    obtain ⟨r232, e233, h⟩ := gb h
                    refine ec_getP (ci := 10) (j := 33) ⟨rfl, rfl, rfl⟩ g29 e233 rfl ?_
                    refine en_iload rfl rfl ?_
                    obtain ⟨g234, h⟩ := gd h
                    obtain ⟨g235, h⟩ := gd h
                    refine ec_iaload g234 g235 rfl ?_
                    refine ec_iconst cst_1 rfl ?_
                    rcases gi h with ⟨c236, h⟩ | ⟨c236, h⟩
                    · refine en_icmp_ne_t c236 rfl ?_
                      refine ec_iconst cst_1 rfl ?_
                      refine en_aload rfl rfl ?_
                      refine en_iload rfl rfl ?_
                      obtain ⟨⟨q237, C238⟩, e239, h⟩ := gb h
                      dsimp only at h
                      refine ec_callV1 (k' := 239) (n := 2) (rc := 10) (a := p0) (as := [.int p1]) ⟨rfl, rfl⟩ rfl rfl (Nat.le_of_ble_eq_true rfl) (Nat.le_of_ble_eq_true rfl) (Nat.le_of_ble_eq_true rfl) g29 rfl (t_239 e239) ?_
                      refine en_iadd rfl ?_
                      refine en_iadd rfl ?_
                      obtain ⟨g240, h⟩ := gd h
                      refine ec_iastore g220 g240 rfl ?_
                      refine en_aload rfl rfl ?_
                      refine en_iload rfl rfl ?_
                      obtain ⟨⟨q241, C242⟩, e243, h⟩ := gb h
                      dsimp only at h
                      refine ec_callV1 (k' := 205) (n := 2) (rc := 10) (a := p0) (as := [.int p4]) ⟨rfl, rfl⟩ rfl rfl (Nat.le_of_ble_eq_true rfl) (Nat.le_of_ble_eq_true rfl) (Nat.le_of_ble_eq_true rfl) g29 rfl (t_205 e243) ?_
                      refine en_istore (l' := [(6, .int q241), (5, .int (0 : Int32)), (7, .int q35), (0, .ref p0), (1, .int p1), (2, .int p2), (3, .int p3), (4, .int p4)]) rfl rfl ?_
                      refine en_goto rfl ?_
                      refine en_sub [3, 4, 5, 6, 7, 1, 0] rfl rfl ?_
                      exact ih _ _ _ _ _ _ _ _ _ h o M' hk
                    · refine en_icmp_ne_f c236 rfl ?_
                      refine ec_iconst cst_1 rfl ?_
                      refine en_goto rfl ?_
                      refine en_iadd rfl ?_
                      obtain ⟨g244, h⟩ := gd h
                      refine ec_iastore g220 g244 rfl ?_
                      refine en_aload rfl rfl ?_
                      refine en_iload rfl rfl ?_
                      obtain ⟨⟨q245, C246⟩, e247, h⟩ := gb h
                      dsimp only at h
                      refine ec_callV1 (k' := 205) (n := 2) (rc := 10) (a := p0) (as := [.int p4]) ⟨rfl, rfl⟩ rfl rfl (Nat.le_of_ble_eq_true rfl) (Nat.le_of_ble_eq_true rfl) (Nat.le_of_ble_eq_true rfl) g29 rfl (t_205 e247) ?_
                      refine en_istore (l' := [(6, .int q245), (5, .int (0 : Int32)), (7, .int q35), (0, .ref p0), (1, .int p1), (2, .int p2), (3, .int p3), (4, .int p4)]) rfl rfl ?_
                      refine en_goto rfl ?_
                      refine en_sub [3, 4, 5, 6, 7, 1, 0] rfl rfl ?_
                      exact ih _ _ _ _ _ _ _ _ _ h o M' hk
                  · refine en_icmp_ne_f c231 rfl ?_
                    refine ec_iconst cst_0 rfl ?_
                    refine en_goto rfl ?_
                    refine en_iadd rfl ?_
                    obtain ⟨g248, h⟩ := gd h
                    refine ec_iastore g220 g248 rfl ?_
                    refine en_aload rfl rfl ?_
                    refine en_iload rfl rfl ?_
                    obtain ⟨⟨q249, C250⟩, e251, h⟩ := gb h
                    dsimp only at h
                    refine ec_callV1 (k' := 205) (n := 2) (rc := 10) (a := p0) (as := [.int p4]) ⟨rfl, rfl⟩ rfl rfl (Nat.le_of_ble_eq_true rfl) (Nat.le_of_ble_eq_true rfl) (Nat.le_of_ble_eq_true rfl) g29 rfl (t_205 e251) ?_
                    refine en_istore (l' := [(6, .int q249), (5, .int (0 : Int32)), (7, .int q35), (0, .ref p0), (1, .int p1), (2, .int p2), (3, .int p3), (4, .int p4)]) rfl rfl ?_
                    refine en_goto rfl ?_
                    refine en_sub [3, 4, 5, 6, 7, 1, 0] rfl rfl ?_
                    exact ih _ _ _ _ _ _ _ _ _ h o M' hk
                · refine en_icmp_eq_f c226 rfl ?_
                  refine en_aload rfl rfl ?_
                  refine en_iload rfl rfl ?_
                  obtain ⟨⟨q252, C253⟩, e254, h⟩ := gb h
                  dsimp only at h
                  refine ec_callV1 (k' := 240) (n := 2) (rc := 10) (a := p0) (as := [.int p1]) ⟨rfl, rfl⟩ rfl rfl (Nat.le_of_ble_eq_true rfl) (Nat.le_of_ble_eq_true rfl) (Nat.le_of_ble_eq_true rfl) g29 rfl (t_240 e254) ?_
                  refine en_goto rfl ?_
                  refine en_iadd rfl ?_
                  obtain ⟨g255, h⟩ := gd h
                  refine ec_iastore g220 g255 rfl ?_
                  refine en_aload rfl rfl ?_
                  refine en_iload rfl rfl ?_
                  obtain ⟨⟨q256, C257⟩, e258, h⟩ := gb h
                  dsimp only at h
                  refine ec_callV1 (k' := 205) (n := 2) (rc := 10) (a := p0) (as := [.int p4]) ⟨rfl, rfl⟩ rfl rfl (Nat.le_of_ble_eq_true rfl) (Nat.le_of_ble_eq_true rfl) (Nat.le_of_ble_eq_true rfl) g29 rfl (t_205 e258) ?_
                  refine en_istore (l' := [(6, .int q256), (5, .int (0 : Int32)), (7, .int q35), (0, .ref p0), (1, .int p1), (2, .int p2), (3, .int p3), (4, .int p4)]) rfl rfl ?_
                  refine en_goto rfl ?_
                  refine en_sub [3, 4, 5, 6, 7, 1, 0] rfl rfl ?_
                  exact ih _ _ _ _ _ _ _ _ _ h o M' hk
              · refine en_if_ne_f c212 rfl ?_
                refine en_goto rfl ?_
                refine en_aload rfl rfl ?_
                refine en_iload rfl rfl ?_
                obtain ⟨⟨q259, C260⟩, e261, h⟩ := gb h
                dsimp only at h
                refine ec_callV1 (k' := 205) (n := 2) (rc := 10) (a := p0) (as := [.int p4]) ⟨rfl, rfl⟩ rfl rfl (Nat.le_of_ble_eq_true rfl) (Nat.le_of_ble_eq_true rfl) (Nat.le_of_ble_eq_true rfl) g29 rfl (t_205 e261) ?_
                refine en_istore (l' := [(6, .int q259), (5, .int (0 : Int32)), (7, .int q35), (0, .ref p0), (1, .int p1), (2, .int p2), (3, .int p3), (4, .int p4)]) rfl rfl ?_
                refine en_goto rfl ?_
                refine en_sub [3, 4, 5, 6, 7, 1, 0] rfl rfl ?_
                exact ih _ _ _ _ _ _ _ _ _ h o M' hk
            · refine en_if_ne_f c206 rfl ?_
              refine en_aload rfl rfl ?_
              obtain ⟨r262, e263, h⟩ := gb h
              refine ec_getP (ci := 10) (j := 32) ⟨rfl, rfl, rfl⟩ g29 e263 rfl ?_
              refine en_iload rfl rfl ?_
              obtain ⟨g264, h⟩ := gd h
              obtain ⟨g265, h⟩ := gd h
              refine ec_iaload g264 g265 rfl ?_
              refine ec_iconst cst_3 rfl ?_
              rcases gi h with ⟨c266, h⟩ | ⟨c266, h⟩
              · refine en_icmp_eq_t c266 rfl ?_
                refine en_iload rfl rfl ?_
                rcases gi h with ⟨c267, h⟩ | ⟨c267, h⟩
                · refine en_if_ne_t c267 rfl ?_
                  refine en_aload rfl rfl ?_
                  obtain ⟨r268, e269, h⟩ := gb h
                  refine ec_getP (ci := 10) (j := 81) ⟨rfl, rfl, rfl⟩ g29 e269 rfl ?_
                  refine ec_iconst cst_2 rfl ?_
                  refine en_dup2 ⟨rfl, rfl⟩ rfl ?_
                  obtain ⟨g270, h⟩ := gd h
                  obtain ⟨g271, h⟩ := gd h
                  refine ec_iaload g270 g271 rfl ?_
                  refine ec_iconst cst_1 rfl ?_
                  refine en_iadd rfl ?_
                  obtain ⟨g272, h⟩ := gd h
                  refine ec_iastore g270 g272 rfl ?_
                  refine en_aload rfl rfl ?_
                  obtain ⟨r273, e274, h⟩ := gb h
                  refine ec_getP (ci := 10) (j := 81) ⟨rfl, rfl, rfl⟩ g29 e274 rfl ?_
                  refine ec_iconst cst_3 rfl ?_
                  refine en_dup2 ⟨rfl, rfl⟩ rfl ?_
                  obtain ⟨g275, h⟩ := gd h
                  obtain ⟨g276, h⟩ := gd h
                  refine ec_iaload g275 g276 rfl ?_
                  refine en_aload rfl rfl ?_
                  obtain ⟨r277, e278, h⟩ := gb h
                  refine ec_getP (ci := 10) (j := 32) ⟨rfl, rfl, rfl⟩ g29 e278 rfl ?_
                  refine en_iload rfl rfl ?_
                  obtain ⟨g279, h⟩ := gd h
                  obtain ⟨g280, h⟩ := gd h
                  refine ec_iaload g279 g280 rfl ?_
                  refine ec_iconst cst_3 rfl ?_
                  rcases gi h with ⟨c281, h⟩ | ⟨c281, h⟩
                  · refine en_icmp_eq_t c281 rfl ?_
                    refine en_aload rfl rfl ?_
                    obtain ⟨r282, e283, h⟩ := gb h
                    refine ec_getP (ci := 10) (j := 33) ⟨rfl, rfl, rfl⟩ g29 e283 rfl ?_
                    refine en_iload rfl rfl ?_
                    obtain ⟨g284, h⟩ := gd h
                    obtain ⟨g285, h⟩ := gd h
                    refine ec_iaload g284 g285 rfl ?_
                    refine ec_iconst cst_2 rfl ?_
                    rcases gi h with ⟨c286, h⟩ | ⟨c286, h⟩
                    · refine en_icmp_ne_t c286 rfl ?_
                      refine en_aload rfl rfl ?_
                      obtain ⟨r287, e288, h⟩ := gb h
                      refine ec_getP (ci := 10) (j := 33) ⟨rfl, rfl, rfl⟩ g29 e288 rfl ?_
                      refine en_iload rfl rfl ?_
                      obtain ⟨g289, h⟩ := gd h
                      obtain ⟨g290, h⟩ := gd h
                      refine ec_iaload g289 g290 rfl ?_
                      refine ec_iconst cst_1 rfl ?_
                      rcases gi h with ⟨c291, h⟩ | ⟨c291, h⟩
                      · refine en_icmp_ne_t c291 rfl ?_
                        refine ec_iconst cst_1 rfl ?_
                        refine en_aload rfl rfl ?_
                        refine en_iload rfl rfl ?_
                        obtain ⟨⟨q292, C293⟩, e294, h⟩ := gb h
                        dsimp only at h
                        refine ec_callV1 (k' := 239) (n := 2) (rc := 10) (a := p0) (as := [.int p1]) ⟨rfl, rfl⟩ rfl rfl (Nat.le_of_ble_eq_true rfl) (Nat.le_of_ble_eq_true rfl) (Nat.le_of_ble_eq_true rfl) g29 rfl (t_239 e294) ?_
                        refine en_iadd rfl ?_
                        refine en_iadd rfl ?_
                        obtain ⟨g295, h⟩ := gd h
                        refine ec_iastore g275 g295 rfl ?_
                        refine en_aload rfl rfl ?_
                        refine en_iload rfl rfl ?_
                        obtain ⟨⟨q296, C297⟩, e298, h⟩ := gb h
                        dsimp only at h
                        refine ec_callV1 (k' := 205) (n := 2) (rc := 10) (a := p0) (as := [.int p4]) ⟨rfl, rfl⟩ rfl rfl (Nat.le_of_ble_eq_true rfl) (Nat.le_of_ble_eq_true rfl) (Nat.le_of_ble_eq_true rfl) g29 rfl (t_205 e298) ?_
                        refine en_istore (l' := [(6, .int q296), (5, .int (0 : Int32)), (7, .int q35), (0, .ref p0), (1, .int p1), (2, .int p2), (3, .int p3), (4, .int p4)]) rfl rfl ?_
                        refine en_goto rfl ?_
                        refine en_sub [3, 4, 5, 6, 7, 1, 0] rfl rfl ?_
                        exact ih _ _ _ _ _ _ _ _ _ h o M' hk
                      · refine en_icmp_ne_f c291 rfl ?_
                        refine ec_iconst cst_1 rfl ?_
                        refine en_goto rfl ?_
                        refine en_iadd rfl ?_
                        obtain ⟨g299, h⟩ := gd h
                        refine ec_iastore g275 g299 rfl ?_
                        refine en_aload rfl rfl ?_
                        refine en_iload rfl rfl ?_
                        obtain ⟨⟨q300, C301⟩, e302, h⟩ := gb h
                        dsimp only at h
                        refine ec_callV1 (k' := 205) (n := 2) (rc := 10) (a := p0) (as := [.int p4]) ⟨rfl, rfl⟩ rfl rfl (Nat.le_of_ble_eq_true rfl) (Nat.le_of_ble_eq_true rfl) (Nat.le_of_ble_eq_true rfl) g29 rfl (t_205 e302) ?_
                        refine en_istore (l' := [(6, .int q300), (5, .int (0 : Int32)), (7, .int q35), (0, .ref p0), (1, .int p1), (2, .int p2), (3, .int p3), (4, .int p4)]) rfl rfl ?_
                        refine en_goto rfl ?_
                        refine en_sub [3, 4, 5, 6, 7, 1, 0] rfl rfl ?_
                        exact ih _ _ _ _ _ _ _ _ _ h o M' hk
                    · refine en_icmp_ne_f c286 rfl ?_
                      refine ec_iconst cst_0 rfl ?_
                      refine en_goto rfl ?_
                      refine en_iadd rfl ?_
                      obtain ⟨g303, h⟩ := gd h
                      refine ec_iastore g275 g303 rfl ?_
                      refine en_aload rfl rfl ?_
                      refine en_iload rfl rfl ?_
                      obtain ⟨⟨q304, C305⟩, e306, h⟩ := gb h
                      dsimp only at h
                      refine ec_callV1 (k' := 205) (n := 2) (rc := 10) (a := p0) (as := [.int p4]) ⟨rfl, rfl⟩ rfl rfl (Nat.le_of_ble_eq_true rfl) (Nat.le_of_ble_eq_true rfl) (Nat.le_of_ble_eq_true rfl) g29 rfl (t_205 e306) ?_
                      refine en_istore (l' := [(6, .int q304), (5, .int (0 : Int32)), (7, .int q35), (0, .ref p0), (1, .int p1), (2, .int p2), (3, .int p3), (4, .int p4)]) rfl rfl ?_
                      refine en_goto rfl ?_
                      refine en_sub [3, 4, 5, 6, 7, 1, 0] rfl rfl ?_
                      exact ih _ _ _ _ _ _ _ _ _ h o M' hk
                  · refine en_icmp_eq_f c281 rfl ?_
                    refine en_aload rfl rfl ?_
                    refine en_iload rfl rfl ?_
                    obtain ⟨⟨q307, C308⟩, e309, h⟩ := gb h
                    dsimp only at h
                    refine ec_callV1 (k' := 240) (n := 2) (rc := 10) (a := p0) (as := [.int p1]) ⟨rfl, rfl⟩ rfl rfl (Nat.le_of_ble_eq_true rfl) (Nat.le_of_ble_eq_true rfl) (Nat.le_of_ble_eq_true rfl) g29 rfl (t_240 e309) ?_
                    refine en_goto rfl ?_
                    refine en_iadd rfl ?_
                    obtain ⟨g310, h⟩ := gd h
                    refine ec_iastore g275 g310 rfl ?_
                    refine en_aload rfl rfl ?_
                    refine en_iload rfl rfl ?_
                    obtain ⟨⟨q311, C312⟩, e313, h⟩ := gb h
                    dsimp only at h
                    refine ec_callV1 (k' := 205) (n := 2) (rc := 10) (a := p0) (as := [.int p4]) ⟨rfl, rfl⟩ rfl rfl (Nat.le_of_ble_eq_true rfl) (Nat.le_of_ble_eq_true rfl) (Nat.le_of_ble_eq_true rfl) g29 rfl (t_205 e313) ?_
                    refine en_istore (l' := [(6, .int q311), (5, .int (0 : Int32)), (7, .int q35), (0, .ref p0), (1, .int p1), (2, .int p2), (3, .int p3), (4, .int p4)]) rfl rfl ?_
                    refine en_goto rfl ?_
                    refine en_sub [3, 4, 5, 6, 7, 1, 0] rfl rfl ?_
                    exact ih _ _ _ _ _ _ _ _ _ h o M' hk
                · refine en_if_ne_f c267 rfl ?_
                  refine en_goto rfl ?_
                  refine en_aload rfl rfl ?_
                  refine en_iload rfl rfl ?_
                  obtain ⟨⟨q314, C315⟩, e316, h⟩ := gb h
                  dsimp only at h
                  refine ec_callV1 (k' := 205) (n := 2) (rc := 10) (a := p0) (as := [.int p4]) ⟨rfl, rfl⟩ rfl rfl (Nat.le_of_ble_eq_true rfl) (Nat.le_of_ble_eq_true rfl) (Nat.le_of_ble_eq_true rfl) g29 rfl (t_205 e316) ?_
                  refine en_istore (l' := [(6, .int q314), (5, .int (0 : Int32)), (7, .int q35), (0, .ref p0), (1, .int p1), (2, .int p2), (3, .int p3), (4, .int p4)]) rfl rfl ?_
                  refine en_goto rfl ?_
                  refine en_sub [3, 4, 5, 6, 7, 1, 0] rfl rfl ?_
                  exact ih _ _ _ _ _ _ _ _ _ h o M' hk
              · refine en_icmp_eq_f c266 rfl ?_
                refine en_aload rfl rfl ?_
                obtain ⟨r317, e318, h⟩ := gb h
                refine ec_getP (ci := 10) (j := 81) ⟨rfl, rfl, rfl⟩ g29 e318 rfl ?_
                refine ec_iconst cst_1 rfl ?_
                refine en_dup2 ⟨rfl, rfl⟩ rfl ?_
                obtain ⟨g319, h⟩ := gd h
                obtain ⟨g320, h⟩ := gd h
                refine ec_iaload g319 g320 rfl ?_
                refine ec_iconst cst_1 rfl ?_
                refine en_iadd rfl ?_
                obtain ⟨g321, h⟩ := gd h
                refine ec_iastore g319 g321 rfl ?_
                refine en_iload rfl rfl ?_
                rcases gi h with ⟨c322, h⟩ | ⟨c322, h⟩
                · refine en_if_ne_t c322 rfl ?_
                  refine en_aload rfl rfl ?_
                  obtain ⟨r323, e324, h⟩ := gb h
                  refine ec_getP (ci := 10) (j := 81) ⟨rfl, rfl, rfl⟩ g29 e324 rfl ?_
                  refine ec_iconst cst_2 rfl ?_
                  refine en_dup2 ⟨rfl, rfl⟩ rfl ?_
                  obtain ⟨g325, h⟩ := gd h
                  obtain ⟨g326, h⟩ := gd h
                  refine ec_iaload g325 g326 rfl ?_
                  refine ec_iconst cst_1 rfl ?_
                  refine en_iadd rfl ?_
                  obtain ⟨g327, h⟩ := gd h
                  refine ec_iastore g325 g327 rfl ?_
                  refine en_aload rfl rfl ?_
                  obtain ⟨r328, e329, h⟩ := gb h
                  refine ec_getP (ci := 10) (j := 81) ⟨rfl, rfl, rfl⟩ g29 e329 rfl ?_
                  refine ec_iconst cst_3 rfl ?_
                  refine en_dup2 ⟨rfl, rfl⟩ rfl ?_
                  obtain ⟨g330, h⟩ := gd h
                  obtain ⟨g331, h⟩ := gd h
                  refine ec_iaload g330 g331 rfl ?_
                  refine en_aload rfl rfl ?_
                  obtain ⟨r332, e333, h⟩ := gb h
                  refine ec_getP (ci := 10) (j := 32) ⟨rfl, rfl, rfl⟩ g29 e333 rfl ?_
                  refine en_iload rfl rfl ?_
                  obtain ⟨g334, h⟩ := gd h
                  obtain ⟨g335, h⟩ := gd h
                  refine ec_iaload g334 g335 rfl ?_
                  refine ec_iconst cst_3 rfl ?_
                  rcases gi h with ⟨c336, h⟩ | ⟨c336, h⟩
                  · refine en_icmp_eq_t c336 rfl ?_
                    refine en_aload rfl rfl ?_
                    obtain ⟨r337, e338, h⟩ := gb h
                    refine ec_getP (ci := 10) (j := 33) ⟨rfl, rfl, rfl⟩ g29 e338 rfl ?_
                    refine en_iload rfl rfl ?_
                    obtain ⟨g339, h⟩ := gd h
                    obtain ⟨g340, h⟩ := gd h
                    refine ec_iaload g339 g340 rfl ?_
                    refine ec_iconst cst_2 rfl ?_
                    rcases gi h with ⟨c341, h⟩ | ⟨c341, h⟩
                    · refine en_icmp_ne_t c341 rfl ?_
                      refine en_aload rfl rfl ?_
                      obtain ⟨r342, e343, h⟩ := gb h
                      refine ec_getP (ci := 10) (j := 33) ⟨rfl, rfl, rfl⟩ g29 e343 rfl ?_
                      refine en_iload rfl rfl ?_
                      obtain ⟨g344, h⟩ := gd h
                      obtain ⟨g345, h⟩ := gd h
                      refine ec_iaload g344 g345 rfl ?_
                      refine ec_iconst cst_1 rfl ?_
                      rcases gi h with ⟨c346, h⟩ | ⟨c346, h⟩
                      · refine en_icmp_ne_t c346 rfl ?_
                        refine ec_iconst cst_1 rfl ?_
                        refine en_aload rfl rfl ?_
                        refine en_iload rfl rfl ?_
                        obtain ⟨⟨q347, C348⟩, e349, h⟩ := gb h
                        dsimp only at h
                        refine ec_callV1 (k' := 239) (n := 2) (rc := 10) (a := p0) (as := [.int p1]) ⟨rfl, rfl⟩ rfl rfl (Nat.le_of_ble_eq_true rfl) (Nat.le_of_ble_eq_true rfl) (Nat.le_of_ble_eq_true rfl) g29 rfl (t_239 e349) ?_
                        refine en_iadd rfl ?_
                        refine en_iadd rfl ?_
                        obtain ⟨g350, h⟩ := gd h
                        refine ec_iastore g330 g350 rfl ?_
                        refine en_aload rfl rfl ?_
                        refine en_iload rfl rfl ?_
                        obtain ⟨⟨q351, C352⟩, e353, h⟩ := gb h
                        dsimp only at h
                        refine ec_callV1 (k' := 205) (n := 2) (rc := 10) (a := p0) (as := [.int p4]) ⟨rfl, rfl⟩ rfl rfl (Nat.le_of_ble_eq_true rfl) (Nat.le_of_ble_eq_true rfl) (Nat.le_of_ble_eq_true rfl) g29 rfl (t_205 e353) ?_
                        refine en_istore (l' := [(6, .int q351), (5, .int (0 : Int32)), (7, .int q35), (0, .ref p0), (1, .int p1), (2, .int p2), (3, .int p3), (4, .int p4)]) rfl rfl ?_
                        refine en_goto rfl ?_
                        refine en_sub [3, 4, 5, 6, 7, 1, 0] rfl rfl ?_
                        exact ih _ _ _ _ _ _ _ _ _ h o M' hk
                      · refine en_icmp_ne_f c346 rfl ?_
                        refine ec_iconst cst_1 rfl ?_
                        refine en_goto rfl ?_
                        refine en_iadd rfl ?_
                        obtain ⟨g354, h⟩ := gd h
                        refine ec_iastore g330 g354 rfl ?_
                        refine en_aload rfl rfl ?_
                        refine en_iload rfl rfl ?_
                        obtain ⟨⟨q355, C356⟩, e357, h⟩ := gb h
                        dsimp only at h
                        refine ec_callV1 (k' := 205) (n := 2) (rc := 10) (a := p0) (as := [.int p4]) ⟨rfl, rfl⟩ rfl rfl (Nat.le_of_ble_eq_true rfl) (Nat.le_of_ble_eq_true rfl) (Nat.le_of_ble_eq_true rfl) g29 rfl (t_205 e357) ?_
                        refine en_istore (l' := [(6, .int q355), (5, .int (0 : Int32)), (7, .int q35), (0, .ref p0), (1, .int p1), (2, .int p2), (3, .int p3), (4, .int p4)]) rfl rfl ?_
                        refine en_goto rfl ?_
                        refine en_sub [3, 4, 5, 6, 7, 1, 0] rfl rfl ?_
                        exact ih _ _ _ _ _ _ _ _ _ h o M' hk
                    · refine en_icmp_ne_f c341 rfl ?_
                      refine ec_iconst cst_0 rfl ?_
                      refine en_goto rfl ?_
                      refine en_iadd rfl ?_
                      obtain ⟨g358, h⟩ := gd h
                      refine ec_iastore g330 g358 rfl ?_
                      refine en_aload rfl rfl ?_
                      refine en_iload rfl rfl ?_
                      obtain ⟨⟨q359, C360⟩, e361, h⟩ := gb h
                      dsimp only at h
                      refine ec_callV1 (k' := 205) (n := 2) (rc := 10) (a := p0) (as := [.int p4]) ⟨rfl, rfl⟩ rfl rfl (Nat.le_of_ble_eq_true rfl) (Nat.le_of_ble_eq_true rfl) (Nat.le_of_ble_eq_true rfl) g29 rfl (t_205 e361) ?_
                      refine en_istore (l' := [(6, .int q359), (5, .int (0 : Int32)), (7, .int q35), (0, .ref p0), (1, .int p1), (2, .int p2), (3, .int p3), (4, .int p4)]) rfl rfl ?_
                      refine en_goto rfl ?_
                      refine en_sub [3, 4, 5, 6, 7, 1, 0] rfl rfl ?_
                      exact ih _ _ _ _ _ _ _ _ _ h o M' hk
                  · refine en_icmp_eq_f c336 rfl ?_
                    refine en_aload rfl rfl ?_
                    refine en_iload rfl rfl ?_
                    obtain ⟨⟨q362, C363⟩, e364, h⟩ := gb h
                    dsimp only at h
                    refine ec_callV1 (k' := 240) (n := 2) (rc := 10) (a := p0) (as := [.int p1]) ⟨rfl, rfl⟩ rfl rfl (Nat.le_of_ble_eq_true rfl) (Nat.le_of_ble_eq_true rfl) (Nat.le_of_ble_eq_true rfl) g29 rfl (t_240 e364) ?_
                    refine en_goto rfl ?_
                    refine en_iadd rfl ?_
                    obtain ⟨g365, h⟩ := gd h
                    refine ec_iastore g330 g365 rfl ?_
                    refine en_aload rfl rfl ?_
                    refine en_iload rfl rfl ?_
                    obtain ⟨⟨q366, C367⟩, e368, h⟩ := gb h
                    dsimp only at h
                    refine ec_callV1 (k' := 205) (n := 2) (rc := 10) (a := p0) (as := [.int p4]) ⟨rfl, rfl⟩ rfl rfl (Nat.le_of_ble_eq_true rfl) (Nat.le_of_ble_eq_true rfl) (Nat.le_of_ble_eq_true rfl) g29 rfl (t_205 e368) ?_
                    refine en_istore (l' := [(6, .int q366), (5, .int (0 : Int32)), (7, .int q35), (0, .ref p0), (1, .int p1), (2, .int p2), (3, .int p3), (4, .int p4)]) rfl rfl ?_
                    refine en_goto rfl ?_
                    refine en_sub [3, 4, 5, 6, 7, 1, 0] rfl rfl ?_
                    exact ih _ _ _ _ _ _ _ _ _ h o M' hk
                · refine en_if_ne_f c322 rfl ?_
                  refine en_goto rfl ?_
                  refine en_aload rfl rfl ?_
                  refine en_iload rfl rfl ?_
                  obtain ⟨⟨q369, C370⟩, e371, h⟩ := gb h
                  dsimp only at h
                  refine ec_callV1 (k' := 205) (n := 2) (rc := 10) (a := p0) (as := [.int p4]) ⟨rfl, rfl⟩ rfl rfl (Nat.le_of_ble_eq_true rfl) (Nat.le_of_ble_eq_true rfl) (Nat.le_of_ble_eq_true rfl) g29 rfl (t_205 e371) ?_
                  refine en_istore (l' := [(6, .int q369), (5, .int (0 : Int32)), (7, .int q35), (0, .ref p0), (1, .int p1), (2, .int p2), (3, .int p3), (4, .int p4)]) rfl rfl ?_
                  refine en_goto rfl ?_
                  refine en_sub [3, 4, 5, 6, 7, 1, 0] rfl rfl ?_
                  exact ih _ _ _ _ _ _ _ _ _ h o M' hk
          · refine en_if_eq_f c205 rfl ?_
            refine ec_iconst cst_1 rfl ?_
            refine en_goto rfl ?_
            refine en_istore (l' := [(5, .int (1 : Int32)), (7, .int q35), (0, .ref p0), (1, .int p1), (2, .int p2), (3, .int p3), (4, .int p4), (6, .int p6)]) rfl rfl ?_
            refine en_iload rfl rfl ?_
            rcases gi h with ⟨c372, h⟩ | ⟨c372, h⟩
            · refine en_if_ne_t c372 rfl ?_
              refine en_aload rfl rfl ?_
              obtain ⟨r373, e374, h⟩ := gb h
              refine ec_getP (ci := 10) (j := 81) ⟨rfl, rfl, rfl⟩ g29 e374 rfl ?_
              refine ec_iconst cst_1 rfl ?_
              refine en_dup2 ⟨rfl, rfl⟩ rfl ?_
              obtain ⟨g375, h⟩ := gd h
              obtain ⟨g376, h⟩ := gd h
              refine ec_iaload g375 g376 rfl ?_
              refine ec_iconst cst_1 rfl ?_
              refine en_iadd rfl ?_
              obtain ⟨g377, h⟩ := gd h
              refine ec_iastore g375 g377 rfl ?_
              refine en_iload rfl rfl ?_
              rcases gi h with ⟨c378, h⟩ | ⟨c378, h⟩
              · refine en_if_ne_t c378 rfl ?_
                refine en_aload rfl rfl ?_
                obtain ⟨r379, e380, h⟩ := gb h
                refine ec_getP (ci := 10) (j := 81) ⟨rfl, rfl, rfl⟩ g29 e380 rfl ?_
                refine ec_iconst cst_2 rfl ?_
                refine en_dup2 ⟨rfl, rfl⟩ rfl ?_
                obtain ⟨g381, h⟩ := gd h
                obtain ⟨g382, h⟩ := gd h
                refine ec_iaload g381 g382 rfl ?_
                refine ec_iconst cst_1 rfl ?_
                refine en_iadd rfl ?_
                obtain ⟨g383, h⟩ := gd h
                refine ec_iastore g381 g383 rfl ?_
                refine en_aload rfl rfl ?_
                obtain ⟨r384, e385, h⟩ := gb h
                refine ec_getP (ci := 10) (j := 81) ⟨rfl, rfl, rfl⟩ g29 e385 rfl ?_
                refine ec_iconst cst_3 rfl ?_
                refine en_dup2 ⟨rfl, rfl⟩ rfl ?_
                obtain ⟨g386, h⟩ := gd h
                obtain ⟨g387, h⟩ := gd h
                refine ec_iaload g386 g387 rfl ?_
                refine en_aload rfl rfl ?_
                obtain ⟨r388, e389, h⟩ := gb h
                refine ec_getP (ci := 10) (j := 32) ⟨rfl, rfl, rfl⟩ g29 e389 rfl ?_
                refine en_iload rfl rfl ?_
                obtain ⟨g390, h⟩ := gd h
                obtain ⟨g391, h⟩ := gd h
                refine ec_iaload g390 g391 rfl ?_
                refine ec_iconst cst_3 rfl ?_
                rcases gi h with ⟨c392, h⟩ | ⟨c392, h⟩
                · refine en_icmp_eq_t c392 rfl ?_
                  refine en_aload rfl rfl ?_
                  obtain ⟨r393, e394, h⟩ := gb h
                  refine ec_getP (ci := 10) (j := 33) ⟨rfl, rfl, rfl⟩ g29 e394 rfl ?_
                  refine en_iload rfl rfl ?_
                  obtain ⟨g395, h⟩ := gd h
                  obtain ⟨g396, h⟩ := gd h
                  refine ec_iaload g395 g396 rfl ?_
                  refine ec_iconst cst_2 rfl ?_
                  rcases gi h with ⟨c397, h⟩ | ⟨c397, h⟩
                  · refine en_icmp_ne_t c397 rfl ?_
                    refine en_aload rfl rfl ?_
                    obtain ⟨r398, e399, h⟩ := gb h
                    refine ec_getP (ci := 10) (j := 33) ⟨rfl, rfl, rfl⟩ g29 e399 rfl ?_
                    refine en_iload rfl rfl ?_
                    obtain ⟨g400, h⟩ := gd h
                    obtain ⟨g401, h⟩ := gd h
                    refine ec_iaload g400 g401 rfl ?_
                    refine ec_iconst cst_1 rfl ?_
                    rcases gi h with ⟨c402, h⟩ | ⟨c402, h⟩
                    · refine en_icmp_ne_t c402 rfl ?_
                      refine ec_iconst cst_1 rfl ?_
                      refine en_aload rfl rfl ?_
                      refine en_iload rfl rfl ?_
                      obtain ⟨⟨q403, C404⟩, e405, h⟩ := gb h
                      dsimp only at h
                      refine ec_callV1 (k' := 239) (n := 2) (rc := 10) (a := p0) (as := [.int p1]) ⟨rfl, rfl⟩ rfl rfl (Nat.le_of_ble_eq_true rfl) (Nat.le_of_ble_eq_true rfl) (Nat.le_of_ble_eq_true rfl) g29 rfl (t_239 e405) ?_
                      refine en_iadd rfl ?_
                      refine en_iadd rfl ?_
                      obtain ⟨g406, h⟩ := gd h
                      refine ec_iastore g386 g406 rfl ?_
                      refine en_aload rfl rfl ?_
                      refine en_iload rfl rfl ?_
                      obtain ⟨⟨q407, C408⟩, e409, h⟩ := gb h
                      dsimp only at h
                      refine ec_callV1 (k' := 205) (n := 2) (rc := 10) (a := p0) (as := [.int p4]) ⟨rfl, rfl⟩ rfl rfl (Nat.le_of_ble_eq_true rfl) (Nat.le_of_ble_eq_true rfl) (Nat.le_of_ble_eq_true rfl) g29 rfl (t_205 e409) ?_
                      refine en_istore (l' := [(6, .int q407), (5, .int (1 : Int32)), (7, .int q35), (0, .ref p0), (1, .int p1), (2, .int p2), (3, .int p3), (4, .int p4)]) rfl rfl ?_
                      refine en_goto rfl ?_
                      refine en_sub [3, 4, 5, 6, 7, 1, 0] rfl rfl ?_
                      exact ih _ _ _ _ _ _ _ _ _ h o M' hk
                    · refine en_icmp_ne_f c402 rfl ?_
                      refine ec_iconst cst_1 rfl ?_
                      refine en_goto rfl ?_
                      refine en_iadd rfl ?_
                      obtain ⟨g410, h⟩ := gd h
                      refine ec_iastore g386 g410 rfl ?_
                      refine en_aload rfl rfl ?_
                      refine en_iload rfl rfl ?_
                      obtain ⟨⟨q411, C412⟩, e413, h⟩ := gb h
                      dsimp only at h
                      refine ec_callV1 (k' := 205) (n := 2) (rc := 10) (a := p0) (as := [.int p4]) ⟨rfl, rfl⟩ rfl rfl (Nat.le_of_ble_eq_true rfl) (Nat.le_of_ble_eq_true rfl) (Nat.le_of_ble_eq_true rfl) g29 rfl (t_205 e413) ?_
                      refine en_istore (l' := [(6, .int q411), (5, .int (1 : Int32)), (7, .int q35), (0, .ref p0), (1, .int p1), (2, .int p2), (3, .int p3), (4, .int p4)]) rfl rfl ?_
                      refine en_goto rfl ?_
                      refine en_sub [3, 4, 5, 6, 7, 1, 0] rfl rfl ?_
                      exact ih _ _ _ _ _ _ _ _ _ h o M' hk
                  · refine en_icmp_ne_f c397 rfl ?_
                    refine ec_iconst cst_0 rfl ?_
                    refine en_goto rfl ?_
                    refine en_iadd rfl ?_
                    obtain ⟨g414, h⟩ := gd h
                    refine ec_iastore g386 g414 rfl ?_
                    refine en_aload rfl rfl ?_
                    refine en_iload rfl rfl ?_
                    obtain ⟨⟨q415, C416⟩, e417, h⟩ := gb h
                    dsimp only at h
                    refine ec_callV1 (k' := 205) (n := 2) (rc := 10) (a := p0) (as := [.int p4]) ⟨rfl, rfl⟩ rfl rfl (Nat.le_of_ble_eq_true rfl) (Nat.le_of_ble_eq_true rfl) (Nat.le_of_ble_eq_true rfl) g29 rfl (t_205 e417) ?_
                    refine en_istore (l' := [(6, .int q415), (5, .int (1 : Int32)), (7, .int q35), (0, .ref p0), (1, .int p1), (2, .int p2), (3, .int p3), (4, .int p4)]) rfl rfl ?_
                    refine en_goto rfl ?_
                    refine en_sub [3, 4, 5, 6, 7, 1, 0] rfl rfl ?_
                    exact ih _ _ _ _ _ _ _ _ _ h o M' hk
                · refine en_icmp_eq_f c392 rfl ?_
                  refine en_aload rfl rfl ?_
                  refine en_iload rfl rfl ?_
                  obtain ⟨⟨q418, C419⟩, e420, h⟩ := gb h
                  dsimp only at h
                  refine ec_callV1 (k' := 240) (n := 2) (rc := 10) (a := p0) (as := [.int p1]) ⟨rfl, rfl⟩ rfl rfl (Nat.le_of_ble_eq_true rfl) (Nat.le_of_ble_eq_true rfl) (Nat.le_of_ble_eq_true rfl) g29 rfl (t_240 e420) ?_
                  refine en_goto rfl ?_
                  refine en_iadd rfl ?_
                  obtain ⟨g421, h⟩ := gd h
                  refine ec_iastore g386 g421 rfl ?_
                  refine en_aload rfl rfl ?_
                  refine en_iload rfl rfl ?_
                  obtain ⟨⟨q422, C423⟩, e424, h⟩ := gb h
                  dsimp only at h
                  refine ec_callV1 (k' := 205) (n := 2) (rc := 10) (a := p0) (as := [.int p4]) ⟨rfl, rfl⟩ rfl rfl (Nat.le_of_ble_eq_true rfl) (Nat.le_of_ble_eq_true rfl) (Nat.le_of_ble_eq_true rfl) g29 rfl (t_205 e424) ?_
                  refine en_istore (l' := [(6, .int q422), (5, .int (1 : Int32)), (7, .int q35), (0, .ref p0), (1, .int p1), (2, .int p2), (3, .int p3), (4, .int p4)]) rfl rfl ?_
                  refine en_goto rfl ?_
                  refine en_sub [3, 4, 5, 6, 7, 1, 0] rfl rfl ?_
                  exact ih _ _ _ _ _ _ _ _ _ h o M' hk
              · refine en_if_ne_f c378 rfl ?_
                refine en_goto rfl ?_
                refine en_aload rfl rfl ?_
                refine en_iload rfl rfl ?_
                obtain ⟨⟨q425, C426⟩, e427, h⟩ := gb h
                dsimp only at h
                refine ec_callV1 (k' := 205) (n := 2) (rc := 10) (a := p0) (as := [.int p4]) ⟨rfl, rfl⟩ rfl rfl (Nat.le_of_ble_eq_true rfl) (Nat.le_of_ble_eq_true rfl) (Nat.le_of_ble_eq_true rfl) g29 rfl (t_205 e427) ?_
                refine en_istore (l' := [(6, .int q425), (5, .int (1 : Int32)), (7, .int q35), (0, .ref p0), (1, .int p1), (2, .int p2), (3, .int p3), (4, .int p4)]) rfl rfl ?_
                refine en_goto rfl ?_
                refine en_sub [3, 4, 5, 6, 7, 1, 0] rfl rfl ?_
                exact ih _ _ _ _ _ _ _ _ _ h o M' hk
            · refine en_if_ne_f c372 rfl ?_
              refine en_aload rfl rfl ?_
              obtain ⟨r428, e429, h⟩ := gb h
              refine ec_getP (ci := 10) (j := 32) ⟨rfl, rfl, rfl⟩ g29 e429 rfl ?_
              refine en_iload rfl rfl ?_
              obtain ⟨g430, h⟩ := gd h
              obtain ⟨g431, h⟩ := gd h
              refine ec_iaload g430 g431 rfl ?_
              refine ec_iconst cst_3 rfl ?_
              rcases gi h with ⟨c432, h⟩ | ⟨c432, h⟩
              · refine en_icmp_eq_t c432 rfl ?_
                refine en_iload rfl rfl ?_
                rcases gi h with ⟨c433, h⟩ | ⟨c433, h⟩
                · refine en_if_ne_t c433 rfl ?_
                  refine en_aload rfl rfl ?_
                  obtain ⟨r434, e435, h⟩ := gb h
                  refine ec_getP (ci := 10) (j := 81) ⟨rfl, rfl, rfl⟩ g29 e435 rfl ?_
                  refine ec_iconst cst_2 rfl ?_
                  refine en_dup2 ⟨rfl, rfl⟩ rfl ?_
                  obtain ⟨g436, h⟩ := gd h
                  obtain ⟨g437, h⟩ := gd h
                  refine ec_iaload g436 g437 rfl ?_
                  refine ec_iconst cst_1 rfl ?_
                  refine en_iadd rfl ?_
                  obtain ⟨g438, h⟩ := gd h
                  refine ec_iastore g436 g438 rfl ?_
                  refine en_aload rfl rfl ?_
                  obtain ⟨r439, e440, h⟩ := gb h
                  refine ec_getP (ci := 10) (j := 81) ⟨rfl, rfl, rfl⟩ g29 e440 rfl ?_
                  refine ec_iconst cst_3 rfl ?_
                  refine en_dup2 ⟨rfl, rfl⟩ rfl ?_
                  obtain ⟨g441, h⟩ := gd h
                  obtain ⟨g442, h⟩ := gd h
                  refine ec_iaload g441 g442 rfl ?_
                  refine en_aload rfl rfl ?_
                  obtain ⟨r443, e444, h⟩ := gb h
                  refine ec_getP (ci := 10) (j := 32) ⟨rfl, rfl, rfl⟩ g29 e444 rfl ?_
                  refine en_iload rfl rfl ?_
                  obtain ⟨g445, h⟩ := gd h
                  obtain ⟨g446, h⟩ := gd h
                  refine ec_iaload g445 g446 rfl ?_
                  refine ec_iconst cst_3 rfl ?_
                  rcases gi h with ⟨c447, h⟩ | ⟨c447, h⟩
                  · refine en_icmp_eq_t c447 rfl ?_
                    refine en_aload rfl rfl ?_
                    obtain ⟨r448, e449, h⟩ := gb h
                    refine ec_getP (ci := 10) (j := 33) ⟨rfl, rfl, rfl⟩ g29 e449 rfl ?_
                    refine en_iload rfl rfl ?_
                    obtain ⟨g450, h⟩ := gd h
                    obtain ⟨g451, h⟩ := gd h
                    refine ec_iaload g450 g451 rfl ?_
                    refine ec_iconst cst_2 rfl ?_
                    rcases gi h with ⟨c452, h⟩ | ⟨c452, h⟩
                    · refine en_icmp_ne_t c452 rfl ?_
                      refine en_aload rfl rfl ?_
                      obtain ⟨r453, e454, h⟩ := gb h
                      refine ec_getP (ci := 10) (j := 33) ⟨rfl, rfl, rfl⟩ g29 e454 rfl ?_
                      refine en_iload rfl rfl ?_
                      obtain ⟨g455, h⟩ := gd h
                      obtain ⟨g456, h⟩ := gd h
                      refine ec_iaload g455 g456 rfl ?_
                      refine ec_iconst cst_1 rfl ?_
                      rcases gi h with ⟨c457, h⟩ | ⟨c457, h⟩
                      · refine en_icmp_ne_t c457 rfl ?_
                        refine ec_iconst cst_1 rfl ?_
                        refine en_aload rfl rfl ?_
                        refine en_iload rfl rfl ?_
                        obtain ⟨⟨q458, C459⟩, e460, h⟩ := gb h
                        dsimp only at h
                        refine ec_callV1 (k' := 239) (n := 2) (rc := 10) (a := p0) (as := [.int p1]) ⟨rfl, rfl⟩ rfl rfl (Nat.le_of_ble_eq_true rfl) (Nat.le_of_ble_eq_true rfl) (Nat.le_of_ble_eq_true rfl) g29 rfl (t_239 e460) ?_
                        refine en_iadd rfl ?_
                        refine en_iadd rfl ?_
                        obtain ⟨g461, h⟩ := gd h
                        refine ec_iastore g441 g461 rfl ?_
                        refine en_aload rfl rfl ?_
                        refine en_iload rfl rfl ?_
                        obtain ⟨⟨q462, C463⟩, e464, h⟩ := gb h
                        dsimp only at h
                        refine ec_callV1 (k' := 205) (n := 2) (rc := 10) (a := p0) (as := [.int p4]) ⟨rfl, rfl⟩ rfl rfl (Nat.le_of_ble_eq_true rfl) (Nat.le_of_ble_eq_true rfl) (Nat.le_of_ble_eq_true rfl) g29 rfl (t_205 e464) ?_
                        refine en_istore (l' := [(6, .int q462), (5, .int (1 : Int32)), (7, .int q35), (0, .ref p0), (1, .int p1), (2, .int p2), (3, .int p3), (4, .int p4)]) rfl rfl ?_
                        refine en_goto rfl ?_
                        refine en_sub [3, 4, 5, 6, 7, 1, 0] rfl rfl ?_
                        exact ih _ _ _ _ _ _ _ _ _ h o M' hk
                      · refine en_icmp_ne_f c457 rfl ?_
                        refine ec_iconst cst_1 rfl ?_
                        refine en_goto rfl ?_
                        refine en_iadd rfl ?_
                        obtain ⟨g465, h⟩ := gd h
                        refine ec_iastore g441 g465 rfl ?_
                        refine en_aload rfl rfl ?_
                        refine en_iload rfl rfl ?_
                        obtain ⟨⟨q466, C467⟩, e468, h⟩ := gb h
                        dsimp only at h
                        refine ec_callV1 (k' := 205) (n := 2) (rc := 10) (a := p0) (as := [.int p4]) ⟨rfl, rfl⟩ rfl rfl (Nat.le_of_ble_eq_true rfl) (Nat.le_of_ble_eq_true rfl) (Nat.le_of_ble_eq_true rfl) g29 rfl (t_205 e468) ?_
                        refine en_istore (l' := [(6, .int q466), (5, .int (1 : Int32)), (7, .int q35), (0, .ref p0), (1, .int p1), (2, .int p2), (3, .int p3), (4, .int p4)]) rfl rfl ?_
                        refine en_goto rfl ?_
                        refine en_sub [3, 4, 5, 6, 7, 1, 0] rfl rfl ?_
                        exact ih _ _ _ _ _ _ _ _ _ h o M' hk
                    · refine en_icmp_ne_f c452 rfl ?_
                      refine ec_iconst cst_0 rfl ?_
                      refine en_goto rfl ?_
                      refine en_iadd rfl ?_
                      obtain ⟨g469, h⟩ := gd h
                      refine ec_iastore g441 g469 rfl ?_
                      refine en_aload rfl rfl ?_
                      refine en_iload rfl rfl ?_
                      obtain ⟨⟨q470, C471⟩, e472, h⟩ := gb h
                      dsimp only at h
                      refine ec_callV1 (k' := 205) (n := 2) (rc := 10) (a := p0) (as := [.int p4]) ⟨rfl, rfl⟩ rfl rfl (Nat.le_of_ble_eq_true rfl) (Nat.le_of_ble_eq_true rfl) (Nat.le_of_ble_eq_true rfl) g29 rfl (t_205 e472) ?_
                      refine en_istore (l' := [(6, .int q470), (5, .int (1 : Int32)), (7, .int q35), (0, .ref p0), (1, .int p1), (2, .int p2), (3, .int p3), (4, .int p4)]) rfl rfl ?_
                      refine en_goto rfl ?_
                      refine en_sub [3, 4, 5, 6, 7, 1, 0] rfl rfl ?_
                      exact ih _ _ _ _ _ _ _ _ _ h o M' hk
                  · refine en_icmp_eq_f c447 rfl ?_
                    refine en_aload rfl rfl ?_
                    refine en_iload rfl rfl ?_
                    obtain ⟨⟨q473, C474⟩, e475, h⟩ := gb h
                    dsimp only at h
                    refine ec_callV1 (k' := 240) (n := 2) (rc := 10) (a := p0) (as := [.int p1]) ⟨rfl, rfl⟩ rfl rfl (Nat.le_of_ble_eq_true rfl) (Nat.le_of_ble_eq_true rfl) (Nat.le_of_ble_eq_true rfl) g29 rfl (t_240 e475) ?_
                    refine en_goto rfl ?_
                    refine en_iadd rfl ?_
                    obtain ⟨g476, h⟩ := gd h
                    refine ec_iastore g441 g476 rfl ?_
                    refine en_aload rfl rfl ?_
                    refine en_iload rfl rfl ?_
                    obtain ⟨⟨q477, C478⟩, e479, h⟩ := gb h
                    dsimp only at h
                    refine ec_callV1 (k' := 205) (n := 2) (rc := 10) (a := p0) (as := [.int p4]) ⟨rfl, rfl⟩ rfl rfl (Nat.le_of_ble_eq_true rfl) (Nat.le_of_ble_eq_true rfl) (Nat.le_of_ble_eq_true rfl) g29 rfl (t_205 e479) ?_
                    refine en_istore (l' := [(6, .int q477), (5, .int (1 : Int32)), (7, .int q35), (0, .ref p0), (1, .int p1), (2, .int p2), (3, .int p3), (4, .int p4)]) rfl rfl ?_
                    refine en_goto rfl ?_
                    refine en_sub [3, 4, 5, 6, 7, 1, 0] rfl rfl ?_
                    exact ih _ _ _ _ _ _ _ _ _ h o M' hk
                · refine en_if_ne_f c433 rfl ?_
                  refine en_goto rfl ?_
                  refine en_aload rfl rfl ?_
                  refine en_iload rfl rfl ?_
                  obtain ⟨⟨q480, C481⟩, e482, h⟩ := gb h
                  dsimp only at h
                  refine ec_callV1 (k' := 205) (n := 2) (rc := 10) (a := p0) (as := [.int p4]) ⟨rfl, rfl⟩ rfl rfl (Nat.le_of_ble_eq_true rfl) (Nat.le_of_ble_eq_true rfl) (Nat.le_of_ble_eq_true rfl) g29 rfl (t_205 e482) ?_
                  refine en_istore (l' := [(6, .int q480), (5, .int (1 : Int32)), (7, .int q35), (0, .ref p0), (1, .int p1), (2, .int p2), (3, .int p3), (4, .int p4)]) rfl rfl ?_
                  refine en_goto rfl ?_
                  refine en_sub [3, 4, 5, 6, 7, 1, 0] rfl rfl ?_
                  exact ih _ _ _ _ _ _ _ _ _ h o M' hk
              · refine en_icmp_eq_f c432 rfl ?_
                refine en_aload rfl rfl ?_
                obtain ⟨r483, e484, h⟩ := gb h
                refine ec_getP (ci := 10) (j := 81) ⟨rfl, rfl, rfl⟩ g29 e484 rfl ?_
                refine ec_iconst cst_1 rfl ?_
                refine en_dup2 ⟨rfl, rfl⟩ rfl ?_
                obtain ⟨g485, h⟩ := gd h
                obtain ⟨g486, h⟩ := gd h
                refine ec_iaload g485 g486 rfl ?_
                refine ec_iconst cst_1 rfl ?_
                refine en_iadd rfl ?_
                obtain ⟨g487, h⟩ := gd h
                refine ec_iastore g485 g487 rfl ?_
                refine en_iload rfl rfl ?_
                rcases gi h with ⟨c488, h⟩ | ⟨c488, h⟩
                · refine en_if_ne_t c488 rfl ?_
                  refine en_aload rfl rfl ?_
                  obtain ⟨r489, e490, h⟩ := gb h
                  refine ec_getP (ci := 10) (j := 81) ⟨rfl, rfl, rfl⟩ g29 e490 rfl ?_
                  refine ec_iconst cst_2 rfl ?_
                  refine en_dup2 ⟨rfl, rfl⟩ rfl ?_
                  obtain ⟨g491, h⟩ := gd h
                  obtain ⟨g492, h⟩ := gd h
                  refine ec_iaload g491 g492 rfl ?_
                  refine ec_iconst cst_1 rfl ?_
                  refine en_iadd rfl ?_
                  obtain ⟨g493, h⟩ := gd h
                  refine ec_iastore g491 g493 rfl ?_
                  refine en_aload rfl rfl ?_
                  obtain ⟨r494, e495, h⟩ := gb h
                  refine ec_getP (ci := 10) (j := 81) ⟨rfl, rfl, rfl⟩ g29 e495 rfl ?_
                  refine ec_iconst cst_3 rfl ?_
                  refine en_dup2 ⟨rfl, rfl⟩ rfl ?_
                  obtain ⟨g496, h⟩ := gd h
                  obtain ⟨g497, h⟩ := gd h
                  refine ec_iaload g496 g497 rfl ?_
                  refine en_aload rfl rfl ?_
                  obtain ⟨r498, e499, h⟩ := gb h
                  refine ec_getP (ci := 10) (j := 32) ⟨rfl, rfl, rfl⟩ g29 e499 rfl ?_
                  refine en_iload rfl rfl ?_
                  obtain ⟨g500, h⟩ := gd h
                  obtain ⟨g501, h⟩ := gd h
                  refine ec_iaload g500 g501 rfl ?_
                  refine ec_iconst cst_3 rfl ?_
                  rcases gi h with ⟨c502, h⟩ | ⟨c502, h⟩
                  · refine en_icmp_eq_t c502 rfl ?_
                    refine en_aload rfl rfl ?_
                    obtain ⟨r503, e504, h⟩ := gb h
                    refine ec_getP (ci := 10) (j := 33) ⟨rfl, rfl, rfl⟩ g29 e504 rfl ?_
                    refine en_iload rfl rfl ?_
                    obtain ⟨g505, h⟩ := gd h
                    obtain ⟨g506, h⟩ := gd h
                    refine ec_iaload g505 g506 rfl ?_
                    refine ec_iconst cst_2 rfl ?_
                    rcases gi h with ⟨c507, h⟩ | ⟨c507, h⟩
                    · refine en_icmp_ne_t c507 rfl ?_
                      refine en_aload rfl rfl ?_
                      obtain ⟨r508, e509, h⟩ := gb h
                      refine ec_getP (ci := 10) (j := 33) ⟨rfl, rfl, rfl⟩ g29 e509 rfl ?_
                      refine en_iload rfl rfl ?_
                      obtain ⟨g510, h⟩ := gd h
                      obtain ⟨g511, h⟩ := gd h
                      refine ec_iaload g510 g511 rfl ?_
                      refine ec_iconst cst_1 rfl ?_
                      rcases gi h with ⟨c512, h⟩ | ⟨c512, h⟩
                      · refine en_icmp_ne_t c512 rfl ?_
                        refine ec_iconst cst_1 rfl ?_
                        refine en_aload rfl rfl ?_
                        refine en_iload rfl rfl ?_
                        obtain ⟨⟨q513, C514⟩, e515, h⟩ := gb h
                        dsimp only at h
                        refine ec_callV1 (k' := 239) (n := 2) (rc := 10) (a := p0) (as := [.int p1]) ⟨rfl, rfl⟩ rfl rfl (Nat.le_of_ble_eq_true rfl) (Nat.le_of_ble_eq_true rfl) (Nat.le_of_ble_eq_true rfl) g29 rfl (t_239 e515) ?_
                        refine en_iadd rfl ?_
                        refine en_iadd rfl ?_
                        obtain ⟨g516, h⟩ := gd h
                        refine ec_iastore g496 g516 rfl ?_
                        refine en_aload rfl rfl ?_
                        refine en_iload rfl rfl ?_
                        obtain ⟨⟨q517, C518⟩, e519, h⟩ := gb h
                        dsimp only at h
                        refine ec_callV1 (k' := 205) (n := 2) (rc := 10) (a := p0) (as := [.int p4]) ⟨rfl, rfl⟩ rfl rfl (Nat.le_of_ble_eq_true rfl) (Nat.le_of_ble_eq_true rfl) (Nat.le_of_ble_eq_true rfl) g29 rfl (t_205 e519) ?_
                        refine en_istore (l' := [(6, .int q517), (5, .int (1 : Int32)), (7, .int q35), (0, .ref p0), (1, .int p1), (2, .int p2), (3, .int p3), (4, .int p4)]) rfl rfl ?_
                        refine en_goto rfl ?_
                        refine en_sub [3, 4, 5, 6, 7, 1, 0] rfl rfl ?_
                        exact ih _ _ _ _ _ _ _ _ _ h o M' hk
                      · refine en_icmp_ne_f c512 rfl ?_
                        refine ec_iconst cst_1 rfl ?_
                        refine en_goto rfl ?_
                        refine en_iadd rfl ?_
                        obtain ⟨g520, h⟩ := gd h
                        refine ec_iastore g496 g520 rfl ?_
                        refine en_aload rfl rfl ?_
                        refine en_iload rfl rfl ?_
                        obtain ⟨⟨q521, C522⟩, e523, h⟩ := gb h
                        dsimp only at h
                        refine ec_callV1 (k' := 205) (n := 2) (rc := 10) (a := p0) (as := [.int p4]) ⟨rfl, rfl⟩ rfl rfl (Nat.le_of_ble_eq_true rfl) (Nat.le_of_ble_eq_true rfl) (Nat.le_of_ble_eq_true rfl) g29 rfl (t_205 e523) ?_
                        refine en_istore (l' := [(6, .int q521), (5, .int (1 : Int32)), (7, .int q35), (0, .ref p0), (1, .int p1), (2, .int p2), (3, .int p3), (4, .int p4)]) rfl rfl ?_
                        refine en_goto rfl ?_
                        refine en_sub [3, 4, 5, 6, 7, 1, 0] rfl rfl ?_
                        exact ih _ _ _ _ _ _ _ _ _ h o M' hk
                    · refine en_icmp_ne_f c507 rfl ?_
                      refine ec_iconst cst_0 rfl ?_
                      refine en_goto rfl ?_
                      refine en_iadd rfl ?_
                      obtain ⟨g524, h⟩ := gd h
                      refine ec_iastore g496 g524 rfl ?_
                      refine en_aload rfl rfl ?_
                      refine en_iload rfl rfl ?_
                      obtain ⟨⟨q525, C526⟩, e527, h⟩ := gb h
                      dsimp only at h
                      refine ec_callV1 (k' := 205) (n := 2) (rc := 10) (a := p0) (as := [.int p4]) ⟨rfl, rfl⟩ rfl rfl (Nat.le_of_ble_eq_true rfl) (Nat.le_of_ble_eq_true rfl) (Nat.le_of_ble_eq_true rfl) g29 rfl (t_205 e527) ?_
                      refine en_istore (l' := [(6, .int q525), (5, .int (1 : Int32)), (7, .int q35), (0, .ref p0), (1, .int p1), (2, .int p2), (3, .int p3), (4, .int p4)]) rfl rfl ?_
                      refine en_goto rfl ?_
                      refine en_sub [3, 4, 5, 6, 7, 1, 0] rfl rfl ?_
                      exact ih _ _ _ _ _ _ _ _ _ h o M' hk
                  · refine en_icmp_eq_f c502 rfl ?_
                    refine en_aload rfl rfl ?_
                    refine en_iload rfl rfl ?_
                    obtain ⟨⟨q528, C529⟩, e530, h⟩ := gb h
                    dsimp only at h
                    refine ec_callV1 (k' := 240) (n := 2) (rc := 10) (a := p0) (as := [.int p1]) ⟨rfl, rfl⟩ rfl rfl (Nat.le_of_ble_eq_true rfl) (Nat.le_of_ble_eq_true rfl) (Nat.le_of_ble_eq_true rfl) g29 rfl (t_240 e530) ?_
                    refine en_goto rfl ?_
                    refine en_iadd rfl ?_
                    obtain ⟨g531, h⟩ := gd h
                    refine ec_iastore g496 g531 rfl ?_
                    refine en_aload rfl rfl ?_
                    refine en_iload rfl rfl ?_
                    obtain ⟨⟨q532, C533⟩, e534, h⟩ := gb h
                    dsimp only at h
                    refine ec_callV1 (k' := 205) (n := 2) (rc := 10) (a := p0) (as := [.int p4]) ⟨rfl, rfl⟩ rfl rfl (Nat.le_of_ble_eq_true rfl) (Nat.le_of_ble_eq_true rfl) (Nat.le_of_ble_eq_true rfl) g29 rfl (t_205 e534) ?_
                    refine en_istore (l' := [(6, .int q532), (5, .int (1 : Int32)), (7, .int q35), (0, .ref p0), (1, .int p1), (2, .int p2), (3, .int p3), (4, .int p4)]) rfl rfl ?_
                    refine en_goto rfl ?_
                    refine en_sub [3, 4, 5, 6, 7, 1, 0] rfl rfl ?_
                    exact ih _ _ _ _ _ _ _ _ _ h o M' hk
                · refine en_if_ne_f c488 rfl ?_
                  refine en_goto rfl ?_
                  refine en_aload rfl rfl ?_
                  refine en_iload rfl rfl ?_
                  obtain ⟨⟨q535, C536⟩, e537, h⟩ := gb h
                  dsimp only at h
                  refine ec_callV1 (k' := 205) (n := 2) (rc := 10) (a := p0) (as := [.int p4]) ⟨rfl, rfl⟩ rfl rfl (Nat.le_of_ble_eq_true rfl) (Nat.le_of_ble_eq_true rfl) (Nat.le_of_ble_eq_true rfl) g29 rfl (t_205 e537) ?_
                  refine en_istore (l' := [(6, .int q535), (5, .int (1 : Int32)), (7, .int q35), (0, .ref p0), (1, .int p1), (2, .int p2), (3, .int p3), (4, .int p4)]) rfl rfl ?_
                  refine en_goto rfl ?_
                  refine en_sub [3, 4, 5, 6, 7, 1, 0] rfl rfl ?_
                  exact ih _ _ _ _ _ _ _ _ _ h o M' hk
      · refine en_icmp_ne_f c34 rfl ?_
        refine en_aload rfl rfl ?_
        refine en_iload rfl rfl ?_
        refine en_aload rfl rfl ?_
        obtain ⟨r538, e539, h⟩ := gb h
        refine ec_getP (ci := 10) (j := 34) ⟨rfl, rfl, rfl⟩ g29 e539 rfl ?_
        refine en_iload rfl rfl ?_
        obtain ⟨g540, h⟩ := gd h
        obtain ⟨g541, h⟩ := gd h
        refine ec_iaload g540 g541 rfl ?_
        obtain ⟨⟨q542, C543⟩, e544, h⟩ := gb h
        dsimp only at h
        refine ec_callV1 (k' := 193) (n := 3) (rc := 10) (a := p0) (as := [.int p6, .int (cI (uI C p0 69 ((cI C p0 69) + (1 : Int32))) r538 (Int32.toNatClampNeg p1))]) ⟨rfl, rfl⟩ rfl rfl (Nat.le_of_ble_eq_true rfl) (Nat.le_of_ble_eq_true rfl) (Nat.le_of_ble_eq_true rfl) g29 rfl (t_193 e544) ?_
        refine en_aload rfl rfl ?_
        refine en_iload rfl rfl ?_
        refine en_aload rfl rfl ?_
        obtain ⟨r545, e546, h⟩ := gb h
        refine ec_getP (ci := 10) (j := 35) ⟨rfl, rfl, rfl⟩ g29 e546 rfl ?_
        refine en_iload rfl rfl ?_
        obtain ⟨g547, h⟩ := gd h
        obtain ⟨g548, h⟩ := gd h
        refine ec_iaload g547 g548 rfl ?_
        obtain ⟨⟨q549, C550⟩, e551, h⟩ := gb h
        dsimp only at h
        refine ec_callV1 (k' := 206) (n := 3) (rc := 10) (a := p0) (as := [.int p4, .int (cI C543 r545 (Int32.toNatClampNeg p1))]) ⟨rfl, rfl⟩ rfl rfl (Nat.le_of_ble_eq_true rfl) (Nat.le_of_ble_eq_true rfl) (Nat.le_of_ble_eq_true rfl) g29 rfl (t_206 e551) ?_
        rcases gi h with ⟨c552, h⟩ | ⟨c552, h⟩
        · refine en_icmp_ne_t c552 rfl ?_
          refine ec_iconst cst_0 rfl ?_
          refine en_goto rfl ?_
          refine en_istore (l' := [(7, .int (0 : Int32)), (0, .ref p0), (1, .int p1), (2, .int p2), (3, .int p3), (4, .int p4), (5, .int p5), (6, .int p6)]) rfl rfl ?_
          refine en_iload rfl rfl ?_
          rcases gi h with ⟨c553, h⟩ | ⟨c553, h⟩
          · refine en_if_ne_t c553 rfl ?_
            refine ec_iconst cst_1 rfl ?_
            refine en_goto rfl ?_
            refine en_istore (l' := [(5, .int (1 : Int32)), (7, .int (0 : Int32)), (0, .ref p0), (1, .int p1), (2, .int p2), (3, .int p3), (4, .int p4), (6, .int p6)]) rfl rfl ?_
            refine en_iload rfl rfl ?_
            refine en_if_ne_f (by decide) rfl ?_
            refine en_aload rfl rfl ?_
            obtain ⟨r554, e555, h⟩ := gb h
            refine ec_getP (ci := 10) (j := 32) ⟨rfl, rfl, rfl⟩ g29 e555 rfl ?_
            refine en_iload rfl rfl ?_
            obtain ⟨g556, h⟩ := gd h
            obtain ⟨g557, h⟩ := gd h
            refine ec_iaload g556 g557 rfl ?_
            refine ec_iconst cst_3 rfl ?_
            rcases gi h with ⟨c558, h⟩ | ⟨c558, h⟩
            · refine en_icmp_eq_t c558 rfl ?_
              refine en_iload rfl rfl ?_
              refine en_if_ne_f (by decide) rfl ?_
              refine en_goto rfl ?_
              refine en_aload rfl rfl ?_
              refine en_iload rfl rfl ?_
              obtain ⟨⟨q559, C560⟩, e561, h⟩ := gb h
              dsimp only at h
              refine ec_callV1 (k' := 205) (n := 2) (rc := 10) (a := p0) (as := [.int p4]) ⟨rfl, rfl⟩ rfl rfl (Nat.le_of_ble_eq_true rfl) (Nat.le_of_ble_eq_true rfl) (Nat.le_of_ble_eq_true rfl) g29 rfl (t_205 e561) ?_
              refine en_istore (l' := [(6, .int q559), (5, .int (1 : Int32)), (7, .int (0 : Int32)), (0, .ref p0), (1, .int p1), (2, .int p2), (3, .int p3), (4, .int p4)]) rfl rfl ?_
              refine en_goto rfl ?_
              refine en_sub [3, 4, 5, 6, 7, 1, 0] rfl rfl ?_
              exact ih _ _ _ _ _ _ _ _ _ h o M' hk
            · refine en_icmp_eq_f c558 rfl ?_
              refine en_aload rfl rfl ?_
              obtain ⟨r562, e563, h⟩ := gb h
              refine ec_getP (ci := 10) (j := 81) ⟨rfl, rfl, rfl⟩ g29 e563 rfl ?_
              refine ec_iconst cst_1 rfl ?_
              refine en_dup2 ⟨rfl, rfl⟩ rfl ?_
              obtain ⟨g564, h⟩ := gd h
              obtain ⟨g565, h⟩ := gd h
              refine ec_iaload g564 g565 rfl ?_
              refine ec_iconst cst_1 rfl ?_
              refine en_iadd rfl ?_
              obtain ⟨g566, h⟩ := gd h
              refine ec_iastore g564 g566 rfl ?_
              refine en_iload rfl rfl ?_
              refine en_if_ne_f (by decide) rfl ?_
              refine en_goto rfl ?_
              refine en_aload rfl rfl ?_
              refine en_iload rfl rfl ?_
              obtain ⟨⟨q567, C568⟩, e569, h⟩ := gb h
              dsimp only at h
              refine ec_callV1 (k' := 205) (n := 2) (rc := 10) (a := p0) (as := [.int p4]) ⟨rfl, rfl⟩ rfl rfl (Nat.le_of_ble_eq_true rfl) (Nat.le_of_ble_eq_true rfl) (Nat.le_of_ble_eq_true rfl) g29 rfl (t_205 e569) ?_
              refine en_istore (l' := [(6, .int q567), (5, .int (1 : Int32)), (7, .int (0 : Int32)), (0, .ref p0), (1, .int p1), (2, .int p2), (3, .int p3), (4, .int p4)]) rfl rfl ?_
              refine en_goto rfl ?_
              refine en_sub [3, 4, 5, 6, 7, 1, 0] rfl rfl ?_
              exact ih _ _ _ _ _ _ _ _ _ h o M' hk
          · refine en_if_ne_f c553 rfl ?_
            refine en_iload rfl rfl ?_
            refine en_if_eq_t (by decide) rfl ?_
            refine ec_iconst cst_0 rfl ?_
            refine en_istore (l' := [(5, .int (0 : Int32)), (7, .int (0 : Int32)), (0, .ref p0), (1, .int p1), (2, .int p2), (3, .int p3), (4, .int p4), (6, .int p6)]) rfl rfl ?_
            refine en_iload rfl rfl ?_
            refine en_if_ne_f (by decide) rfl ?_
            refine en_aload rfl rfl ?_
            obtain ⟨r570, e571, h⟩ := gb h
            refine ec_getP (ci := 10) (j := 32) ⟨rfl, rfl, rfl⟩ g29 e571 rfl ?_
            refine en_iload rfl rfl ?_
            obtain ⟨g572, h⟩ := gd h
            obtain ⟨g573, h⟩ := gd h
            refine ec_iaload g572 g573 rfl ?_
            refine ec_iconst cst_3 rfl ?_
            rcases gi h with ⟨c574, h⟩ | ⟨c574, h⟩
            · refine en_icmp_eq_t c574 rfl ?_
              refine en_iload rfl rfl ?_
              refine en_if_ne_f (by decide) rfl ?_
              refine en_goto rfl ?_
              refine en_aload rfl rfl ?_
              refine en_iload rfl rfl ?_
              obtain ⟨⟨q575, C576⟩, e577, h⟩ := gb h
              dsimp only at h
              refine ec_callV1 (k' := 205) (n := 2) (rc := 10) (a := p0) (as := [.int p4]) ⟨rfl, rfl⟩ rfl rfl (Nat.le_of_ble_eq_true rfl) (Nat.le_of_ble_eq_true rfl) (Nat.le_of_ble_eq_true rfl) g29 rfl (t_205 e577) ?_
              refine en_istore (l' := [(6, .int q575), (5, .int (0 : Int32)), (7, .int (0 : Int32)), (0, .ref p0), (1, .int p1), (2, .int p2), (3, .int p3), (4, .int p4)]) rfl rfl ?_
              refine en_goto rfl ?_
              refine en_sub [3, 4, 5, 6, 7, 1, 0] rfl rfl ?_
              exact ih _ _ _ _ _ _ _ _ _ h o M' hk
            · refine en_icmp_eq_f c574 rfl ?_
              refine en_aload rfl rfl ?_
              obtain ⟨r578, e579, h⟩ := gb h
              refine ec_getP (ci := 10) (j := 81) ⟨rfl, rfl, rfl⟩ g29 e579 rfl ?_
              refine ec_iconst cst_1 rfl ?_
              refine en_dup2 ⟨rfl, rfl⟩ rfl ?_
              obtain ⟨g580, h⟩ := gd h
              obtain ⟨g581, h⟩ := gd h
              refine ec_iaload g580 g581 rfl ?_
              refine ec_iconst cst_1 rfl ?_
              refine en_iadd rfl ?_
              obtain ⟨g582, h⟩ := gd h
              refine ec_iastore g580 g582 rfl ?_
              refine en_iload rfl rfl ?_
              refine en_if_ne_f (by decide) rfl ?_
              refine en_goto rfl ?_
              refine en_aload rfl rfl ?_
              refine en_iload rfl rfl ?_
              obtain ⟨⟨q583, C584⟩, e585, h⟩ := gb h
              dsimp only at h
              refine ec_callV1 (k' := 205) (n := 2) (rc := 10) (a := p0) (as := [.int p4]) ⟨rfl, rfl⟩ rfl rfl (Nat.le_of_ble_eq_true rfl) (Nat.le_of_ble_eq_true rfl) (Nat.le_of_ble_eq_true rfl) g29 rfl (t_205 e585) ?_
              refine en_istore (l' := [(6, .int q583), (5, .int (0 : Int32)), (7, .int (0 : Int32)), (0, .ref p0), (1, .int p1), (2, .int p2), (3, .int p3), (4, .int p4)]) rfl rfl ?_
              refine en_goto rfl ?_
              refine en_sub [3, 4, 5, 6, 7, 1, 0] rfl rfl ?_
              exact ih _ _ _ _ _ _ _ _ _ h o M' hk
        · refine en_icmp_ne_f c552 rfl ?_
          refine ec_iconst cst_1 rfl ?_
          refine en_goto rfl ?_
          refine en_istore (l' := [(7, .int (1 : Int32)), (0, .ref p0), (1, .int p1), (2, .int p2), (3, .int p3), (4, .int p4), (5, .int p5), (6, .int p6)]) rfl rfl ?_
          refine en_iload rfl rfl ?_
          rcases gi h with ⟨c586, h⟩ | ⟨c586, h⟩
          · refine en_if_ne_t c586 rfl ?_
            refine ec_iconst cst_1 rfl ?_
            refine en_goto rfl ?_
            refine en_istore (l' := [(5, .int (1 : Int32)), (7, .int (1 : Int32)), (0, .ref p0), (1, .int p1), (2, .int p2), (3, .int p3), (4, .int p4), (6, .int p6)]) rfl rfl ?_
            refine en_iload rfl rfl ?_
            refine en_if_ne_t (by decide) rfl ?_
            refine en_aload rfl rfl ?_
            obtain ⟨r587, e588, h⟩ := gb h
            refine ec_getP (ci := 10) (j := 81) ⟨rfl, rfl, rfl⟩ g29 e588 rfl ?_
            refine ec_iconst cst_1 rfl ?_
            refine en_dup2 ⟨rfl, rfl⟩ rfl ?_
            obtain ⟨g589, h⟩ := gd h
            obtain ⟨g590, h⟩ := gd h
            refine ec_iaload g589 g590 rfl ?_
            refine ec_iconst cst_1 rfl ?_
            refine en_iadd rfl ?_
            obtain ⟨g591, h⟩ := gd h
            refine ec_iastore g589 g591 rfl ?_
            refine en_iload rfl rfl ?_
            refine en_if_ne_t (by decide) rfl ?_
            refine en_aload rfl rfl ?_
            obtain ⟨r592, e593, h⟩ := gb h
            refine ec_getP (ci := 10) (j := 81) ⟨rfl, rfl, rfl⟩ g29 e593 rfl ?_
            refine ec_iconst cst_2 rfl ?_
            refine en_dup2 ⟨rfl, rfl⟩ rfl ?_
            obtain ⟨g594, h⟩ := gd h
            obtain ⟨g595, h⟩ := gd h
            refine ec_iaload g594 g595 rfl ?_
            refine ec_iconst cst_1 rfl ?_
            refine en_iadd rfl ?_
            obtain ⟨g596, h⟩ := gd h
            refine ec_iastore g594 g596 rfl ?_
            refine en_aload rfl rfl ?_
            obtain ⟨r597, e598, h⟩ := gb h
            refine ec_getP (ci := 10) (j := 81) ⟨rfl, rfl, rfl⟩ g29 e598 rfl ?_
            refine ec_iconst cst_3 rfl ?_
            refine en_dup2 ⟨rfl, rfl⟩ rfl ?_
            obtain ⟨g599, h⟩ := gd h
            obtain ⟨g600, h⟩ := gd h
            refine ec_iaload g599 g600 rfl ?_
            refine en_aload rfl rfl ?_
            obtain ⟨r601, e602, h⟩ := gb h
            refine ec_getP (ci := 10) (j := 32) ⟨rfl, rfl, rfl⟩ g29 e602 rfl ?_
            refine en_iload rfl rfl ?_
            obtain ⟨g603, h⟩ := gd h
            obtain ⟨g604, h⟩ := gd h
            refine ec_iaload g603 g604 rfl ?_
            refine ec_iconst cst_3 rfl ?_
            rcases gi h with ⟨c605, h⟩ | ⟨c605, h⟩
            · refine en_icmp_eq_t c605 rfl ?_
              refine en_aload rfl rfl ?_
              obtain ⟨r606, e607, h⟩ := gb h
              refine ec_getP (ci := 10) (j := 33) ⟨rfl, rfl, rfl⟩ g29 e607 rfl ?_
              refine en_iload rfl rfl ?_
              obtain ⟨g608, h⟩ := gd h
              obtain ⟨g609, h⟩ := gd h
              refine ec_iaload g608 g609 rfl ?_
              refine ec_iconst cst_2 rfl ?_
              rcases gi h with ⟨c610, h⟩ | ⟨c610, h⟩
              · refine en_icmp_ne_t c610 rfl ?_
                refine en_aload rfl rfl ?_
                obtain ⟨r611, e612, h⟩ := gb h
                refine ec_getP (ci := 10) (j := 33) ⟨rfl, rfl, rfl⟩ g29 e612 rfl ?_
                refine en_iload rfl rfl ?_
                obtain ⟨g613, h⟩ := gd h
                obtain ⟨g614, h⟩ := gd h
                refine ec_iaload g613 g614 rfl ?_
                refine ec_iconst cst_1 rfl ?_
                rcases gi h with ⟨c615, h⟩ | ⟨c615, h⟩
                · refine en_icmp_ne_t c615 rfl ?_
                  refine ec_iconst cst_1 rfl ?_
                  refine en_aload rfl rfl ?_
                  refine en_iload rfl rfl ?_
                  obtain ⟨⟨q616, C617⟩, e618, h⟩ := gb h
                  dsimp only at h
                  refine ec_callV1 (k' := 239) (n := 2) (rc := 10) (a := p0) (as := [.int p1]) ⟨rfl, rfl⟩ rfl rfl (Nat.le_of_ble_eq_true rfl) (Nat.le_of_ble_eq_true rfl) (Nat.le_of_ble_eq_true rfl) g29 rfl (t_239 e618) ?_
                  refine en_iadd rfl ?_
                  refine en_iadd rfl ?_
                  obtain ⟨g619, h⟩ := gd h
                  refine ec_iastore g599 g619 rfl ?_
                  refine en_aload rfl rfl ?_
                  refine en_iload rfl rfl ?_
                  obtain ⟨⟨q620, C621⟩, e622, h⟩ := gb h
                  dsimp only at h
                  refine ec_callV1 (k' := 205) (n := 2) (rc := 10) (a := p0) (as := [.int p4]) ⟨rfl, rfl⟩ rfl rfl (Nat.le_of_ble_eq_true rfl) (Nat.le_of_ble_eq_true rfl) (Nat.le_of_ble_eq_true rfl) g29 rfl (t_205 e622) ?_
                  refine en_istore (l' := [(6, .int q620), (5, .int (1 : Int32)), (7, .int (1 : Int32)), (0, .ref p0), (1, .int p1), (2, .int p2), (3, .int p3), (4, .int p4)]) rfl rfl ?_
                  refine en_goto rfl ?_
                  refine en_sub [3, 4, 5, 6, 7, 1, 0] rfl rfl ?_
                  exact ih _ _ _ _ _ _ _ _ _ h o M' hk
                · refine en_icmp_ne_f c615 rfl ?_
                  refine ec_iconst cst_1 rfl ?_
                  refine en_goto rfl ?_
                  refine en_iadd rfl ?_
                  obtain ⟨g623, h⟩ := gd h
                  refine ec_iastore g599 g623 rfl ?_
                  refine en_aload rfl rfl ?_
                  refine en_iload rfl rfl ?_
                  obtain ⟨⟨q624, C625⟩, e626, h⟩ := gb h
                  dsimp only at h
                  refine ec_callV1 (k' := 205) (n := 2) (rc := 10) (a := p0) (as := [.int p4]) ⟨rfl, rfl⟩ rfl rfl (Nat.le_of_ble_eq_true rfl) (Nat.le_of_ble_eq_true rfl) (Nat.le_of_ble_eq_true rfl) g29 rfl (t_205 e626) ?_
                  refine en_istore (l' := [(6, .int q624), (5, .int (1 : Int32)), (7, .int (1 : Int32)), (0, .ref p0), (1, .int p1), (2, .int p2), (3, .int p3), (4, .int p4)]) rfl rfl ?_
                  refine en_goto rfl ?_
                  refine en_sub [3, 4, 5, 6, 7, 1, 0] rfl rfl ?_
                  exact ih _ _ _ _ _ _ _ _ _ h o M' hk
              · refine en_icmp_ne_f c610 rfl ?_
                refine ec_iconst cst_0 rfl ?_
                refine en_goto rfl ?_
                refine en_iadd rfl ?_
                obtain ⟨g627, h⟩ := gd h
                refine ec_iastore g599 g627 rfl ?_
                refine en_aload rfl rfl ?_
                refine en_iload rfl rfl ?_
                obtain ⟨⟨q628, C629⟩, e630, h⟩ := gb h
                dsimp only at h
                refine ec_callV1 (k' := 205) (n := 2) (rc := 10) (a := p0) (as := [.int p4]) ⟨rfl, rfl⟩ rfl rfl (Nat.le_of_ble_eq_true rfl) (Nat.le_of_ble_eq_true rfl) (Nat.le_of_ble_eq_true rfl) g29 rfl (t_205 e630) ?_
                refine en_istore (l' := [(6, .int q628), (5, .int (1 : Int32)), (7, .int (1 : Int32)), (0, .ref p0), (1, .int p1), (2, .int p2), (3, .int p3), (4, .int p4)]) rfl rfl ?_
                refine en_goto rfl ?_
                refine en_sub [3, 4, 5, 6, 7, 1, 0] rfl rfl ?_
                exact ih _ _ _ _ _ _ _ _ _ h o M' hk
            · refine en_icmp_eq_f c605 rfl ?_
              refine en_aload rfl rfl ?_
              refine en_iload rfl rfl ?_
              obtain ⟨⟨q631, C632⟩, e633, h⟩ := gb h
              dsimp only at h
              refine ec_callV1 (k' := 240) (n := 2) (rc := 10) (a := p0) (as := [.int p1]) ⟨rfl, rfl⟩ rfl rfl (Nat.le_of_ble_eq_true rfl) (Nat.le_of_ble_eq_true rfl) (Nat.le_of_ble_eq_true rfl) g29 rfl (t_240 e633) ?_
              refine en_goto rfl ?_
              refine en_iadd rfl ?_
              obtain ⟨g634, h⟩ := gd h
              refine ec_iastore g599 g634 rfl ?_
              refine en_aload rfl rfl ?_
              refine en_iload rfl rfl ?_
              obtain ⟨⟨q635, C636⟩, e637, h⟩ := gb h
              dsimp only at h
              refine ec_callV1 (k' := 205) (n := 2) (rc := 10) (a := p0) (as := [.int p4]) ⟨rfl, rfl⟩ rfl rfl (Nat.le_of_ble_eq_true rfl) (Nat.le_of_ble_eq_true rfl) (Nat.le_of_ble_eq_true rfl) g29 rfl (t_205 e637) ?_
              refine en_istore (l' := [(6, .int q635), (5, .int (1 : Int32)), (7, .int (1 : Int32)), (0, .ref p0), (1, .int p1), (2, .int p2), (3, .int p3), (4, .int p4)]) rfl rfl ?_
              refine en_goto rfl ?_
              refine en_sub [3, 4, 5, 6, 7, 1, 0] rfl rfl ?_
              exact ih _ _ _ _ _ _ _ _ _ h o M' hk
          · refine en_if_ne_f c586 rfl ?_
            refine en_iload rfl rfl ?_
            refine en_if_eq_f (by decide) rfl ?_
            refine ec_iconst cst_1 rfl ?_
            refine en_goto rfl ?_
            refine en_istore (l' := [(5, .int (1 : Int32)), (7, .int (1 : Int32)), (0, .ref p0), (1, .int p1), (2, .int p2), (3, .int p3), (4, .int p4), (6, .int p6)]) rfl rfl ?_
            refine en_iload rfl rfl ?_
            refine en_if_ne_t (by decide) rfl ?_
            refine en_aload rfl rfl ?_
            obtain ⟨r638, e639, h⟩ := gb h
            refine ec_getP (ci := 10) (j := 81) ⟨rfl, rfl, rfl⟩ g29 e639 rfl ?_
            refine ec_iconst cst_1 rfl ?_
            refine en_dup2 ⟨rfl, rfl⟩ rfl ?_
            obtain ⟨g640, h⟩ := gd h
            obtain ⟨g641, h⟩ := gd h
            refine ec_iaload g640 g641 rfl ?_
            refine ec_iconst cst_1 rfl ?_
            refine en_iadd rfl ?_
            obtain ⟨g642, h⟩ := gd h
            refine ec_iastore g640 g642 rfl ?_
            refine en_iload rfl rfl ?_
            refine en_if_ne_t (by decide) rfl ?_
            refine en_aload rfl rfl ?_
            obtain ⟨r643, e644, h⟩ := gb h
            refine ec_getP (ci := 10) (j := 81) ⟨rfl, rfl, rfl⟩ g29 e644 rfl ?_
            refine ec_iconst cst_2 rfl ?_
            refine en_dup2 ⟨rfl, rfl⟩ rfl ?_
            obtain ⟨g645, h⟩ := gd h
            obtain ⟨g646, h⟩ := gd h
            refine ec_iaload g645 g646 rfl ?_
            refine ec_iconst cst_1 rfl ?_
            refine en_iadd rfl ?_
            obtain ⟨g647, h⟩ := gd h
            refine ec_iastore g645 g647 rfl ?_
            refine en_aload rfl rfl ?_
            obtain ⟨r648, e649, h⟩ := gb h
            refine ec_getP (ci := 10) (j := 81) ⟨rfl, rfl, rfl⟩ g29 e649 rfl ?_
            refine ec_iconst cst_3 rfl ?_
            refine en_dup2 ⟨rfl, rfl⟩ rfl ?_
            obtain ⟨g650, h⟩ := gd h
            obtain ⟨g651, h⟩ := gd h
            refine ec_iaload g650 g651 rfl ?_
            refine en_aload rfl rfl ?_
            obtain ⟨r652, e653, h⟩ := gb h
            refine ec_getP (ci := 10) (j := 32) ⟨rfl, rfl, rfl⟩ g29 e653 rfl ?_
            refine en_iload rfl rfl ?_
            obtain ⟨g654, h⟩ := gd h
            obtain ⟨g655, h⟩ := gd h
            refine ec_iaload g654 g655 rfl ?_
            refine ec_iconst cst_3 rfl ?_
            rcases gi h with ⟨c656, h⟩ | ⟨c656, h⟩
            · refine en_icmp_eq_t c656 rfl ?_
              refine en_aload rfl rfl ?_
              obtain ⟨r657, e658, h⟩ := gb h
              refine ec_getP (ci := 10) (j := 33) ⟨rfl, rfl, rfl⟩ g29 e658 rfl ?_
              refine en_iload rfl rfl ?_
              obtain ⟨g659, h⟩ := gd h
              obtain ⟨g660, h⟩ := gd h
              refine ec_iaload g659 g660 rfl ?_
              refine ec_iconst cst_2 rfl ?_
              rcases gi h with ⟨c661, h⟩ | ⟨c661, h⟩
              · refine en_icmp_ne_t c661 rfl ?_
                refine en_aload rfl rfl ?_
                obtain ⟨r662, e663, h⟩ := gb h
                refine ec_getP (ci := 10) (j := 33) ⟨rfl, rfl, rfl⟩ g29 e663 rfl ?_
                refine en_iload rfl rfl ?_
                obtain ⟨g664, h⟩ := gd h
                obtain ⟨g665, h⟩ := gd h
                refine ec_iaload g664 g665 rfl ?_
                refine ec_iconst cst_1 rfl ?_
                rcases gi h with ⟨c666, h⟩ | ⟨c666, h⟩
                · refine en_icmp_ne_t c666 rfl ?_
                  refine ec_iconst cst_1 rfl ?_
                  refine en_aload rfl rfl ?_
                  refine en_iload rfl rfl ?_
                  obtain ⟨⟨q667, C668⟩, e669, h⟩ := gb h
                  dsimp only at h
                  refine ec_callV1 (k' := 239) (n := 2) (rc := 10) (a := p0) (as := [.int p1]) ⟨rfl, rfl⟩ rfl rfl (Nat.le_of_ble_eq_true rfl) (Nat.le_of_ble_eq_true rfl) (Nat.le_of_ble_eq_true rfl) g29 rfl (t_239 e669) ?_
                  refine en_iadd rfl ?_
                  refine en_iadd rfl ?_
                  obtain ⟨g670, h⟩ := gd h
                  refine ec_iastore g650 g670 rfl ?_
                  refine en_aload rfl rfl ?_
                  refine en_iload rfl rfl ?_
                  obtain ⟨⟨q671, C672⟩, e673, h⟩ := gb h
                  dsimp only at h
                  refine ec_callV1 (k' := 205) (n := 2) (rc := 10) (a := p0) (as := [.int p4]) ⟨rfl, rfl⟩ rfl rfl (Nat.le_of_ble_eq_true rfl) (Nat.le_of_ble_eq_true rfl) (Nat.le_of_ble_eq_true rfl) g29 rfl (t_205 e673) ?_
                  refine en_istore (l' := [(6, .int q671), (5, .int (1 : Int32)), (7, .int (1 : Int32)), (0, .ref p0), (1, .int p1), (2, .int p2), (3, .int p3), (4, .int p4)]) rfl rfl ?_
                  refine en_goto rfl ?_
                  refine en_sub [3, 4, 5, 6, 7, 1, 0] rfl rfl ?_
                  exact ih _ _ _ _ _ _ _ _ _ h o M' hk
                · refine en_icmp_ne_f c666 rfl ?_
                  refine ec_iconst cst_1 rfl ?_
                  refine en_goto rfl ?_
                  refine en_iadd rfl ?_
                  obtain ⟨g674, h⟩ := gd h
                  refine ec_iastore g650 g674 rfl ?_
                  refine en_aload rfl rfl ?_
                  refine en_iload rfl rfl ?_
                  obtain ⟨⟨q675, C676⟩, e677, h⟩ := gb h
                  dsimp only at h
                  refine ec_callV1 (k' := 205) (n := 2) (rc := 10) (a := p0) (as := [.int p4]) ⟨rfl, rfl⟩ rfl rfl (Nat.le_of_ble_eq_true rfl) (Nat.le_of_ble_eq_true rfl) (Nat.le_of_ble_eq_true rfl) g29 rfl (t_205 e677) ?_
                  refine en_istore (l' := [(6, .int q675), (5, .int (1 : Int32)), (7, .int (1 : Int32)), (0, .ref p0), (1, .int p1), (2, .int p2), (3, .int p3), (4, .int p4)]) rfl rfl ?_
                  refine en_goto rfl ?_
                  refine en_sub [3, 4, 5, 6, 7, 1, 0] rfl rfl ?_
                  exact ih _ _ _ _ _ _ _ _ _ h o M' hk
              · refine en_icmp_ne_f c661 rfl ?_
                refine ec_iconst cst_0 rfl ?_
                refine en_goto rfl ?_
                refine en_iadd rfl ?_
                obtain ⟨g678, h⟩ := gd h
                refine ec_iastore g650 g678 rfl ?_
                refine en_aload rfl rfl ?_
                refine en_iload rfl rfl ?_
                obtain ⟨⟨q679, C680⟩, e681, h⟩ := gb h
                dsimp only at h
                refine ec_callV1 (k' := 205) (n := 2) (rc := 10) (a := p0) (as := [.int p4]) ⟨rfl, rfl⟩ rfl rfl (Nat.le_of_ble_eq_true rfl) (Nat.le_of_ble_eq_true rfl) (Nat.le_of_ble_eq_true rfl) g29 rfl (t_205 e681) ?_
                refine en_istore (l' := [(6, .int q679), (5, .int (1 : Int32)), (7, .int (1 : Int32)), (0, .ref p0), (1, .int p1), (2, .int p2), (3, .int p3), (4, .int p4)]) rfl rfl ?_
                refine en_goto rfl ?_
                refine en_sub [3, 4, 5, 6, 7, 1, 0] rfl rfl ?_
                exact ih _ _ _ _ _ _ _ _ _ h o M' hk
            · refine en_icmp_eq_f c656 rfl ?_
              refine en_aload rfl rfl ?_
              refine en_iload rfl rfl ?_
              obtain ⟨⟨q682, C683⟩, e684, h⟩ := gb h
              dsimp only at h
              refine ec_callV1 (k' := 240) (n := 2) (rc := 10) (a := p0) (as := [.int p1]) ⟨rfl, rfl⟩ rfl rfl (Nat.le_of_ble_eq_true rfl) (Nat.le_of_ble_eq_true rfl) (Nat.le_of_ble_eq_true rfl) g29 rfl (t_240 e684) ?_
              refine en_goto rfl ?_
              refine en_iadd rfl ?_
              obtain ⟨g685, h⟩ := gd h
              refine ec_iastore g650 g685 rfl ?_
              refine en_aload rfl rfl ?_
              refine en_iload rfl rfl ?_
              obtain ⟨⟨q686, C687⟩, e688, h⟩ := gb h
              dsimp only at h
              refine ec_callV1 (k' := 205) (n := 2) (rc := 10) (a := p0) (as := [.int p4]) ⟨rfl, rfl⟩ rfl rfl (Nat.le_of_ble_eq_true rfl) (Nat.le_of_ble_eq_true rfl) (Nat.le_of_ble_eq_true rfl) g29 rfl (t_205 e688) ?_
              refine en_istore (l' := [(6, .int q686), (5, .int (1 : Int32)), (7, .int (1 : Int32)), (0, .ref p0), (1, .int p1), (2, .int p2), (3, .int p3), (4, .int p4)]) rfl rfl ?_
              refine en_goto rfl ?_
              refine en_sub [3, 4, 5, 6, 7, 1, 0] rfl rfl ?_
              exact ih _ _ _ _ _ _ _ _ _ h o M' hk
def lp_241_34 : Nat → Nat → Int32 → Int32 → Int32 → Int32 → AmC → Option (((Unit)) × AmC)
  | 0, _, _, _, _, _, _ => none
  | n + 1, p0, p1, p2, p3, p4, C => (if p3 ≤ p4 then some ((), C) else if isK p0 10 = true then (f_204 n p0 p2 C).bind (fun z => match z with | (_, C23) => (f_205 n p0 p4 C23).bind (fun z => match z with | (q25, C26) => (lp_241_46 n p0 p1 p2 p3 p4 (0 : Int32) q25 C26).bind (fun q => match q with | ((u692, u693, u694, u695, u696, u697), C691) => if isK u692 10 = true then (cP C691 u692 32).bind (fun r699 => if isK r699 12 = true then if amIn u693 (aLen r699) = true then (if ¬ (cI C691 r699 (Int32.toNatClampNeg u693)) = (3 : Int32) then lp_241_34 n u692 u693 u694 u695 (u696 + (1 : Int32)) C691 else (if ¬ u697 = 0 then lp_241_34 n u692 u693 u694 u695 (u696 + (1 : Int32)) C691 else (cP C691 u692 39).bind (fun r705 => if isK r705 12 = true then if amIn ((4 : Int32) * u693) (aLen r705) = true then (if ¬ (cI C691 r705 (Int32.toNatClampNeg ((4 : Int32) * u693))) = (-1 : Int32) then (cP C691 u692 81).bind (fun r710 => if isK r710 12 = true then if amIn (1 : Int32) (aLen r710) = true then if amIn (1 : Int32) (aLen r710) = true then (cP (uI C691 r710 (Int32.toNatClampNeg (1 : Int32)) ((cI C691 r710 (Int32.toNatClampNeg (1 : Int32))) + (1 : Int32))) u692 81).bind (fun r715 => if isK r715 12 = true then if amIn (2 : Int32) (aLen r715) = true then if amIn (2 : Int32) (aLen r715) = true then (cP (uI (uI C691 r710 (Int32.toNatClampNeg (1 : Int32)) ((cI C691 r710 (Int32.toNatClampNeg (1 : Int32))) + (1 : Int32))) r715 (Int32.toNatClampNeg (2 : Int32)) ((cI (uI C691 r710 (Int32.toNatClampNeg (1 : Int32)) ((cI C691 r710 (Int32.toNatClampNeg (1 : Int32))) + (1 : Int32))) r715 (Int32.toNatClampNeg (2 : Int32))) + (1 : Int32))) u692 81).bind (fun r720 => if isK r720 12 = true then if amIn (3 : Int32) (aLen r720) = true then (cP (uI (uI C691 r710 (Int32.toNatClampNeg (1 : Int32)) ((cI C691 r710 (Int32.toNatClampNeg (1 : Int32))) + (1 : Int32))) r715 (Int32.toNatClampNeg (2 : Int32)) ((cI (uI C691 r710 (Int32.toNatClampNeg (1 : Int32)) ((cI C691 r710 (Int32.toNatClampNeg (1 : Int32))) + (1 : Int32))) r715 (Int32.toNatClampNeg (2 : Int32))) + (1 : Int32))) u692 21).bind (fun r724 => if isK r724 12 = true then if amIn (cI (uI (uI C691 r710 (Int32.toNatClampNeg (1 : Int32)) ((cI C691 r710 (Int32.toNatClampNeg (1 : Int32))) + (1 : Int32))) r715 (Int32.toNatClampNeg (2 : Int32)) ((cI (uI C691 r710 (Int32.toNatClampNeg (1 : Int32)) ((cI C691 r710 (Int32.toNatClampNeg (1 : Int32))) + (1 : Int32))) r715 (Int32.toNatClampNeg (2 : Int32))) + (1 : Int32))) u692 40) (aLen r724) = true then if amIn (3 : Int32) (aLen r720) = true then lp_241_34 n u692 u693 u694 u695 (u696 + (1 : Int32)) (uI (uI (uI C691 r710 (Int32.toNatClampNeg (1 : Int32)) ((cI C691 r710 (Int32.toNatClampNeg (1 : Int32))) + (1 : Int32))) r715 (Int32.toNatClampNeg (2 : Int32)) ((cI (uI C691 r710 (Int32.toNatClampNeg (1 : Int32)) ((cI C691 r710 (Int32.toNatClampNeg (1 : Int32))) + (1 : Int32))) r715 (Int32.toNatClampNeg (2 : Int32))) + (1 : Int32))) r720 (Int32.toNatClampNeg (3 : Int32)) ((cI (uI (uI C691 r710 (Int32.toNatClampNeg (1 : Int32)) ((cI C691 r710 (Int32.toNatClampNeg (1 : Int32))) + (1 : Int32))) r715 (Int32.toNatClampNeg (2 : Int32)) ((cI (uI C691 r710 (Int32.toNatClampNeg (1 : Int32)) ((cI C691 r710 (Int32.toNatClampNeg (1 : Int32))) + (1 : Int32))) r715 (Int32.toNatClampNeg (2 : Int32))) + (1 : Int32))) r720 (Int32.toNatClampNeg (3 : Int32))) + ((1 : Int32) + (cI (uI (uI C691 r710 (Int32.toNatClampNeg (1 : Int32)) ((cI C691 r710 (Int32.toNatClampNeg (1 : Int32))) + (1 : Int32))) r715 (Int32.toNatClampNeg (2 : Int32)) ((cI (uI C691 r710 (Int32.toNatClampNeg (1 : Int32)) ((cI C691 r710 (Int32.toNatClampNeg (1 : Int32))) + (1 : Int32))) r715 (Int32.toNatClampNeg (2 : Int32))) + (1 : Int32))) r724 (Int32.toNatClampNeg (cI (uI (uI C691 r710 (Int32.toNatClampNeg (1 : Int32)) ((cI C691 r710 (Int32.toNatClampNeg (1 : Int32))) + (1 : Int32))) r715 (Int32.toNatClampNeg (2 : Int32)) ((cI (uI C691 r710 (Int32.toNatClampNeg (1 : Int32)) ((cI C691 r710 (Int32.toNatClampNeg (1 : Int32))) + (1 : Int32))) r715 (Int32.toNatClampNeg (2 : Int32))) + (1 : Int32))) u692 40)))))) else none else none else none) else none else none) else none else none else none) else none else none else none) else lp_241_34 n u692 u693 u694 u695 (u696 + (1 : Int32)) C691) else none else none))) else none else none) else none))) else none)
set_option maxRecDepth 20000 in
set_option maxHeartbeats 4000000 in
theorem lt_241_34 : ∀ (n : Nat) (p0 : Nat) (p1 : Int32) (p2 : Int32) (p3 : Int32) (p4 : Int32) (C : AmC) (r : ((Unit)) × AmC), lp_241_34 n p0 p1 p2 p3 p4 C = some r → ∀ (o : AmO) (M' : AmM), (match r with
        | (_, C') => En false 241 211 [] [] (mkM C') o M') → En false 241 34 [(0, .ref p0), (1, .int p1), (2, .int p2), (3, .int p3), (4, .int p4)] [] (mkM C) o M' := by
  intro n
  induction n with
  | zero => intro p0 p1 p2 p3 p4 C r h; cases h
  | succ n ih =>
    intro p0 p1 p2 p3 p4 C r h o M' hk
    unfold lp_241_34 at h
    refine en_iload rfl rfl ?_
    refine en_iload rfl rfl ?_
    rcases gi h with ⟨c20, h⟩ | ⟨c20, h⟩
    · refine en_icmp_ge_t c20 rfl ?_
      cases h
      exact en_sub [] rfl rfl hk
    · refine en_icmp_ge_f c20 rfl ?_
      refine ec_iconst cst_0 rfl ?_
      refine en_istore (l' := [(5, .int (0 : Int32)), (0, .ref p0), (1, .int p1), (2, .int p2), (3, .int p3), (4, .int p4)]) rfl rfl ?_
      refine en_aload rfl rfl ?_
      refine en_iload rfl rfl ?_
      obtain ⟨g21, h⟩ := gd h
      obtain ⟨⟨q22, C23⟩, e24, h⟩ := gb h
      dsimp only at h
      refine ec_callV0 (k' := 204) (n := 2) (rc := 10) (a := p0) (as := [.int p2]) ⟨rfl, rfl⟩ rfl rfl (Nat.le_of_ble_eq_true rfl) (Nat.le_of_ble_eq_true rfl) (Nat.le_of_ble_eq_true rfl) g21 rfl (t_204 e24) ?_
      refine en_aload rfl rfl ?_
      refine en_iload rfl rfl ?_
      obtain ⟨⟨q25, C26⟩, e27, h⟩ := gb h
      dsimp only at h
      refine ec_callV1 (k' := 205) (n := 2) (rc := 10) (a := p0) (as := [.int p4]) ⟨rfl, rfl⟩ rfl rfl (Nat.le_of_ble_eq_true rfl) (Nat.le_of_ble_eq_true rfl) (Nat.le_of_ble_eq_true rfl) g21 rfl (t_205 e27) ?_
      refine en_istore (l' := [(6, .int q25), (5, .int (0 : Int32)), (0, .ref p0), (1, .int p1), (2, .int p2), (3, .int p3), (4, .int p4)]) rfl rfl ?_
      obtain ⟨⟨q689, C691⟩, e690, h⟩ := gb h
      refine en_sub [2, 3, 4, 5, 6, 1, 0] rfl rfl (lt_241_46 n _ _ _ _ _ _ _ _ _ e690 o M' ?_)
      obtain ⟨u692, u693, u694, u695, u696, u697⟩ := q689
      dsimp only at h ⊢
      refine en_aload rfl rfl ?_
      obtain ⟨g698, h⟩ := gd h
      obtain ⟨r699, e700, h⟩ := gb h
      refine ec_getP (ci := 10) (j := 32) ⟨rfl, rfl, rfl⟩ g698 e700 rfl ?_
      refine en_iload rfl rfl ?_
      obtain ⟨g701, h⟩ := gd h
      obtain ⟨g702, h⟩ := gd h
      refine ec_iaload g701 g702 rfl ?_
      refine ec_iconst cst_3 rfl ?_
      rcases gi h with ⟨c703, h⟩ | ⟨c703, h⟩
      · refine en_icmp_ne_t c703 rfl ?_
        refine ec_iinc (l' := [(4, .int (u696 + (1 : Int32))), (0, .ref u692), (1, .int u693), (2, .int u694), (3, .int u695), (5, .int u697)]) rfl cst_1 rfl rfl ?_
        refine en_goto rfl ?_
        refine en_sub [1, 2, 3, 4, 0] rfl rfl ?_
        exact ih _ _ _ _ _ _ _ h o M' hk
      · refine en_icmp_ne_f c703 rfl ?_
        refine en_iload rfl rfl ?_
        rcases gi h with ⟨c704, h⟩ | ⟨c704, h⟩
        · refine en_if_ne_t c704 rfl ?_
          refine ec_iinc (l' := [(4, .int (u696 + (1 : Int32))), (0, .ref u692), (1, .int u693), (2, .int u694), (3, .int u695), (5, .int u697)]) rfl cst_1 rfl rfl ?_
          refine en_goto rfl ?_
          refine en_sub [1, 2, 3, 4, 0] rfl rfl ?_
          exact ih _ _ _ _ _ _ _ h o M' hk
        · refine en_if_ne_f c704 rfl ?_
          refine en_aload rfl rfl ?_
          obtain ⟨r705, e706, h⟩ := gb h
          refine ec_getP (ci := 10) (j := 39) ⟨rfl, rfl, rfl⟩ g698 e706 rfl ?_
          refine ec_iconst cst_4 rfl ?_
          refine en_iload rfl rfl ?_
          refine en_imul rfl ?_
          obtain ⟨g707, h⟩ := gd h
          obtain ⟨g708, h⟩ := gd h
          refine ec_iaload g707 g708 rfl ?_
          refine ec_iconst cst_m1 rfl ?_
          rcases gi h with ⟨c709, h⟩ | ⟨c709, h⟩
          · refine en_icmp_ne_t c709 rfl ?_
            refine en_aload rfl rfl ?_
            obtain ⟨r710, e711, h⟩ := gb h
            refine ec_getP (ci := 10) (j := 81) ⟨rfl, rfl, rfl⟩ g698 e711 rfl ?_
            refine ec_iconst cst_1 rfl ?_
            refine en_dup2 ⟨rfl, rfl⟩ rfl ?_
            obtain ⟨g712, h⟩ := gd h
            obtain ⟨g713, h⟩ := gd h
            refine ec_iaload g712 g713 rfl ?_
            refine ec_iconst cst_1 rfl ?_
            refine en_iadd rfl ?_
            obtain ⟨g714, h⟩ := gd h
            refine ec_iastore g712 g714 rfl ?_
            refine en_aload rfl rfl ?_
            obtain ⟨r715, e716, h⟩ := gb h
            refine ec_getP (ci := 10) (j := 81) ⟨rfl, rfl, rfl⟩ g698 e716 rfl ?_
            refine ec_iconst cst_2 rfl ?_
            refine en_dup2 ⟨rfl, rfl⟩ rfl ?_
            obtain ⟨g717, h⟩ := gd h
            obtain ⟨g718, h⟩ := gd h
            refine ec_iaload g717 g718 rfl ?_
            refine ec_iconst cst_1 rfl ?_
            refine en_iadd rfl ?_
            obtain ⟨g719, h⟩ := gd h
            refine ec_iastore g717 g719 rfl ?_
            refine en_aload rfl rfl ?_
            obtain ⟨r720, e721, h⟩ := gb h
            refine ec_getP (ci := 10) (j := 81) ⟨rfl, rfl, rfl⟩ g698 e721 rfl ?_
            refine ec_iconst cst_3 rfl ?_
            refine en_dup2 ⟨rfl, rfl⟩ rfl ?_
            obtain ⟨g722, h⟩ := gd h
            obtain ⟨g723, h⟩ := gd h
            refine ec_iaload g722 g723 rfl ?_
            refine ec_iconst cst_1 rfl ?_
            refine en_aload rfl rfl ?_
            obtain ⟨r724, e725, h⟩ := gb h
            refine ec_getP (ci := 10) (j := 21) ⟨rfl, rfl, rfl⟩ g698 e725 rfl ?_
            refine en_aload rfl rfl ?_
            refine ec_getI (ci := 10) (j := 40) ⟨rfl, rfl, rfl⟩ g698 rfl ?_
            obtain ⟨g726, h⟩ := gd h
            obtain ⟨g727, h⟩ := gd h
            refine ec_iaload g726 g727 rfl ?_
            refine en_iadd rfl ?_
            refine en_iadd rfl ?_
            obtain ⟨g728, h⟩ := gd h
            refine ec_iastore g722 g728 rfl ?_
            refine ec_iinc (l' := [(4, .int (u696 + (1 : Int32))), (0, .ref u692), (1, .int u693), (2, .int u694), (3, .int u695), (5, .int u697)]) rfl cst_1 rfl rfl ?_
            refine en_goto rfl ?_
            refine en_sub [1, 2, 3, 4, 0] rfl rfl ?_
            exact ih _ _ _ _ _ _ _ h o M' hk
          · refine en_icmp_ne_f c709 rfl ?_
            refine en_goto rfl ?_
            refine ec_iinc (l' := [(4, .int (u696 + (1 : Int32))), (0, .ref u692), (1, .int u693), (2, .int u694), (3, .int u695), (5, .int u697)]) rfl cst_1 rfl rfl ?_
            refine en_goto rfl ?_
            refine en_sub [1, 2, 3, 4, 0] rfl rfl ?_
            exact ih _ _ _ _ _ _ _ h o M' hk
/-- BulkWriterModel.holdsFor(II)V -/
def f_241 (n : Nat) (a0 : Nat) (a1 : Int32) (a2 : Int32) (C : AmC) : Option (Unit × AmC) := if isK a0 10 = true then (lp_241_8 n a0 a1 a2 (0 : Int32) (uI (uI C a0 59 a1) a0 69 (0 : Int32))).bind (fun q => match q with | ((u11, u12, u13), C10) => if isK u11 10 = true then (cP C10 u11 32).bind (fun r15 => if isK r15 12 = true then if amIn u12 (aLen r15) = true then (if ¬ (cI C10 r15 (Int32.toNatClampNeg u12)) = (3 : Int32) then (lp_241_34 n u11 u12 u13 (1 : Int32) (0 : Int32) C10).bind (fun q => match q with | (_, C731) => some ((), C731)) else (cP C10 u11 24).bind (fun r732 => if isK r732 12 = true then if amIn (cI C10 u11 40) (aLen r732) = true then (lp_241_34 n u11 u12 u13 (cI C10 r732 (Int32.toNatClampNeg (cI C10 u11 40))) (0 : Int32) C10).bind (fun q => match q with | (_, C738) => some ((), C738)) else none else none)) else none else none) else none) else none
set_option maxRecDepth 20000 in
set_option maxHeartbeats 4000000 in
theorem t_241 {n : Nat} {a0 : Nat} {a1 : Int32} {a2 : Int32} {C : AmC} {r : Unit} {C' : AmC} (h : f_241 n a0 a1 a2 C = some (r, C')) : En false 241 0 [(0, .ref a0), (1, .int a1), (2, .int a2)] [] (mkM C) (.inl none) (mkM C') := by
  unfold f_241 at h
  refine en_aload rfl rfl ?_
  refine en_iload rfl rfl ?_
  obtain ⟨g1, h⟩ := gd h
  refine ec_putI (ci := 10) (j := 59) ⟨rfl, rfl, rfl⟩ g1 rfl ?_
  refine en_aload rfl rfl ?_
  refine ec_iconst cst_0 rfl ?_
  refine ec_putI (ci := 10) (j := 69) ⟨rfl, rfl, rfl⟩ g1 rfl ?_
  refine ec_iconst cst_0 rfl ?_
  refine en_istore (l' := [(3, .int (0 : Int32)), (0, .ref a0), (1, .int a1), (2, .int a2)]) rfl rfl ?_
  obtain ⟨⟨q8, C10⟩, e9, h⟩ := gb h
  refine en_sub [1, 2, 3, 0] rfl rfl (lt_241_8 n _ _ _ _ _ _ e9 _ _ ?_)
  obtain ⟨u11, u12, u13⟩ := q8
  dsimp only at h ⊢
  refine en_aload rfl rfl ?_
  obtain ⟨g14, h⟩ := gd h
  obtain ⟨r15, e16, h⟩ := gb h
  refine ec_getP (ci := 10) (j := 32) ⟨rfl, rfl, rfl⟩ g14 e16 rfl ?_
  refine en_iload rfl rfl ?_
  obtain ⟨g17, h⟩ := gd h
  obtain ⟨g18, h⟩ := gd h
  refine ec_iaload g17 g18 rfl ?_
  refine ec_iconst cst_3 rfl ?_
  rcases gi h with ⟨c19, h⟩ | ⟨c19, h⟩
  · refine en_icmp_ne_t c19 rfl ?_
    refine ec_iconst cst_1 rfl ?_
    refine en_istore (l' := [(3, .int (1 : Int32)), (0, .ref u11), (1, .int u12), (2, .int u13)]) rfl rfl ?_
    refine ec_iconst cst_0 rfl ?_
    refine en_istore (l' := [(4, .int (0 : Int32)), (3, .int (1 : Int32)), (0, .ref u11), (1, .int u12), (2, .int u13)]) rfl rfl ?_
    obtain ⟨⟨q729, C731⟩, e730, h⟩ := gb h
    refine en_sub [2, 3, 4, 1, 0] rfl rfl (lt_241_34 n _ _ _ _ _ _ _ e730 _ _ ?_)
    dsimp only at h ⊢
    cases h
    exact en_vret rfl
  · refine en_icmp_ne_f c19 rfl ?_
    refine en_aload rfl rfl ?_
    obtain ⟨r732, e733, h⟩ := gb h
    refine ec_getP (ci := 10) (j := 24) ⟨rfl, rfl, rfl⟩ g14 e733 rfl ?_
    refine en_aload rfl rfl ?_
    refine ec_getI (ci := 10) (j := 40) ⟨rfl, rfl, rfl⟩ g14 rfl ?_
    obtain ⟨g734, h⟩ := gd h
    obtain ⟨g735, h⟩ := gd h
    refine ec_iaload g734 g735 rfl ?_
    refine en_goto rfl ?_
    refine en_istore (l' := [(3, .int (cI C10 r732 (Int32.toNatClampNeg (cI C10 u11 40)))), (0, .ref u11), (1, .int u12), (2, .int u13)]) rfl rfl ?_
    refine ec_iconst cst_0 rfl ?_
    refine en_istore (l' := [(4, .int (0 : Int32)), (3, .int (cI C10 r732 (Int32.toNatClampNeg (cI C10 u11 40)))), (0, .ref u11), (1, .int u12), (2, .int u13)]) rfl rfl ?_
    obtain ⟨⟨q736, C738⟩, e737, h⟩ := gb h
    refine en_sub [2, 3, 4, 1, 0] rfl rfl (lt_241_34 n _ _ _ _ _ _ _ e737 _ _ ?_)
    dsimp only at h ⊢
    cases h
    exact en_vret rfl
