/-- BulkWriterModel.merge(I)V -/
def f_184 (n : Nat) (a0 : Nat) (a1 : Int32) (C : AmC) : Option (Unit × AmC) := if isK a0 10 = true then (cP C a0 34).bind (fun r2 => (f_176 n a0 C).bind (fun z => match z with | (q4, C5) => if isK r2 12 = true then if amIn a1 (aLen r2) = true then (cP (uI C5 r2 (Int32.toNatClampNeg a1) q4) a0 35).bind (fun r9 => (f_176 n a0 (uI C5 r2 (Int32.toNatClampNeg a1) q4)).bind (fun z => match z with | (q11, C12) => if isK r9 12 = true then if amIn a1 (aLen r9) = true then (f_171 n a0 (9 : Int32) (uI C12 r9 (Int32.toNatClampNeg a1) q11)).bind (fun z => match z with | (q16, C17) => (if ¬ q16 = 0 then (f_170 n a0 (1 : Int32) (1 : Int32) C17).bind (fun z => match z with | (q20, C21) => (if ¬ q20 = 0 then (cP C21 a0 33).bind (fun r24 => (f_171 n a0 (9 : Int32) C21).bind (fun z => match z with | (q26, C27) => (if q26 = 0 then (f_171 n a0 (6 : Int32) C27).bind (fun z => match z with | (q30, C31) => (if q30 = 0 then if isK r24 12 = true then if amIn a1 (aLen r24) = true then (f_169 n a0 (uI C31 r24 (Int32.toNatClampNeg a1) (2 : Int32))).bind (fun z => match z with | (_, C37) => (cP C37 a0 33).bind (fun r39 => if isK r39 12 = true then if amIn a1 (aLen r39) = true then (if ¬ (cI C37 r39 (Int32.toNatClampNeg a1)) = 0 then (f_171 n a0 (7 : Int32) C37).bind (fun z => match z with | (q44, C45) => (if ¬ q44 = 0 then (f_169 n a0 C45).bind (fun z => match z with | (_, C49) => (f_181 n a0 a1 (1 : Int32) C49).bind (fun z => match z with | (_, C52) => some ((), C52))) else some ((), C45))) else (f_180 n a0 a1 (1 : Int32) C37).bind (fun z => match z with | (_, C55) => (f_171 n a0 (7 : Int32) C55).bind (fun z => match z with | (q57, C58) => (if ¬ q57 = 0 then (f_169 n a0 C58).bind (fun z => match z with | (_, C62) => (f_181 n a0 a1 (1 : Int32) C62).bind (fun z => match z with | (_, C65) => some ((), C65))) else some ((), C58))))) else none else none)) else none else none else if isK r24 12 = true then if amIn a1 (aLen r24) = true then (f_169 n a0 (uI C31 r24 (Int32.toNatClampNeg a1) (1 : Int32))).bind (fun z => match z with | (_, C70) => (cP C70 a0 33).bind (fun r72 => if isK r72 12 = true then if amIn a1 (aLen r72) = true then (if ¬ (cI C70 r72 (Int32.toNatClampNeg a1)) = 0 then (f_171 n a0 (7 : Int32) C70).bind (fun z => match z with | (q77, C78) => (if ¬ q77 = 0 then (f_169 n a0 C78).bind (fun z => match z with | (_, C82) => (f_181 n a0 a1 (1 : Int32) C82).bind (fun z => match z with | (_, C85) => some ((), C85))) else some ((), C78))) else (f_180 n a0 a1 (1 : Int32) C70).bind (fun z => match z with | (_, C88) => (f_171 n a0 (7 : Int32) C88).bind (fun z => match z with | (q90, C91) => (if ¬ q90 = 0 then (f_169 n a0 C91).bind (fun z => match z with | (_, C95) => (f_181 n a0 a1 (1 : Int32) C95).bind (fun z => match z with | (_, C98) => some ((), C98))) else some ((), C91))))) else none else none)) else none else none)) else if isK r24 12 = true then if amIn a1 (aLen r24) = true then (f_169 n a0 (uI C27 r24 (Int32.toNatClampNeg a1) (0 : Int32))).bind (fun z => match z with | (_, C103) => (cP C103 a0 33).bind (fun r105 => if isK r105 12 = true then if amIn a1 (aLen r105) = true then (if ¬ (cI C103 r105 (Int32.toNatClampNeg a1)) = 0 then (f_171 n a0 (7 : Int32) C103).bind (fun z => match z with | (q110, C111) => (if ¬ q110 = 0 then (f_169 n a0 C111).bind (fun z => match z with | (_, C115) => (f_181 n a0 a1 (1 : Int32) C115).bind (fun z => match z with | (_, C118) => some ((), C118))) else some ((), C111))) else (f_180 n a0 a1 (1 : Int32) C103).bind (fun z => match z with | (_, C121) => (f_171 n a0 (7 : Int32) C121).bind (fun z => match z with | (q123, C124) => (if ¬ q123 = 0 then (f_169 n a0 C124).bind (fun z => match z with | (_, C128) => (f_181 n a0 a1 (1 : Int32) C128).bind (fun z => match z with | (_, C131) => some ((), C131))) else some ((), C124))))) else none else none)) else none else none))) else some ((), C21))) else (f_171 n a0 (6 : Int32) C17).bind (fun z => match z with | (q133, C134) => (if ¬ q133 = 0 then (f_170 n a0 (1 : Int32) (1 : Int32) C134).bind (fun z => match z with | (q137, C138) => (if ¬ q137 = 0 then (cP C138 a0 33).bind (fun r141 => (f_171 n a0 (9 : Int32) C138).bind (fun z => match z with | (q143, C144) => (if q143 = 0 then (f_171 n a0 (6 : Int32) C144).bind (fun z => match z with | (q147, C148) => (if q147 = 0 then if isK r141 12 = true then if amIn a1 (aLen r141) = true then (f_169 n a0 (uI C148 r141 (Int32.toNatClampNeg a1) (2 : Int32))).bind (fun z => match z with | (_, C154) => (cP C154 a0 33).bind (fun r156 => if isK r156 12 = true then if amIn a1 (aLen r156) = true then (if ¬ (cI C154 r156 (Int32.toNatClampNeg a1)) = 0 then (f_171 n a0 (7 : Int32) C154).bind (fun z => match z with | (q161, C162) => (if ¬ q161 = 0 then (f_169 n a0 C162).bind (fun z => match z with | (_, C166) => (f_181 n a0 a1 (1 : Int32) C166).bind (fun z => match z with | (_, C169) => some ((), C169))) else some ((), C162))) else (f_180 n a0 a1 (1 : Int32) C154).bind (fun z => match z with | (_, C172) => (f_171 n a0 (7 : Int32) C172).bind (fun z => match z with | (q174, C175) => (if ¬ q174 = 0 then (f_169 n a0 C175).bind (fun z => match z with | (_, C179) => (f_181 n a0 a1 (1 : Int32) C179).bind (fun z => match z with | (_, C182) => some ((), C182))) else some ((), C175))))) else none else none)) else none else none else if isK r141 12 = true then if amIn a1 (aLen r141) = true then (f_169 n a0 (uI C148 r141 (Int32.toNatClampNeg a1) (1 : Int32))).bind (fun z => match z with | (_, C187) => (cP C187 a0 33).bind (fun r189 => if isK r189 12 = true then if amIn a1 (aLen r189) = true then (if ¬ (cI C187 r189 (Int32.toNatClampNeg a1)) = 0 then (f_171 n a0 (7 : Int32) C187).bind (fun z => match z with | (q194, C195) => (if ¬ q194 = 0 then (f_169 n a0 C195).bind (fun z => match z with | (_, C199) => (f_181 n a0 a1 (1 : Int32) C199).bind (fun z => match z with | (_, C202) => some ((), C202))) else some ((), C195))) else (f_180 n a0 a1 (1 : Int32) C187).bind (fun z => match z with | (_, C205) => (f_171 n a0 (7 : Int32) C205).bind (fun z => match z with | (q207, C208) => (if ¬ q207 = 0 then (f_169 n a0 C208).bind (fun z => match z with | (_, C212) => (f_181 n a0 a1 (1 : Int32) C212).bind (fun z => match z with | (_, C215) => some ((), C215))) else some ((), C208))))) else none else none)) else none else none)) else if isK r141 12 = true then if amIn a1 (aLen r141) = true then (f_169 n a0 (uI C144 r141 (Int32.toNatClampNeg a1) (0 : Int32))).bind (fun z => match z with | (_, C220) => (cP C220 a0 33).bind (fun r222 => if isK r222 12 = true then if amIn a1 (aLen r222) = true then (if ¬ (cI C220 r222 (Int32.toNatClampNeg a1)) = 0 then (f_171 n a0 (7 : Int32) C220).bind (fun z => match z with | (q227, C228) => (if ¬ q227 = 0 then (f_169 n a0 C228).bind (fun z => match z with | (_, C232) => (f_181 n a0 a1 (1 : Int32) C232).bind (fun z => match z with | (_, C235) => some ((), C235))) else some ((), C228))) else (f_180 n a0 a1 (1 : Int32) C220).bind (fun z => match z with | (_, C238) => (f_171 n a0 (7 : Int32) C238).bind (fun z => match z with | (q240, C241) => (if ¬ q240 = 0 then (f_169 n a0 C241).bind (fun z => match z with | (_, C245) => (f_181 n a0 a1 (1 : Int32) C245).bind (fun z => match z with | (_, C248) => some ((), C248))) else some ((), C241))))) else none else none)) else none else none))) else some ((), C138))) else (f_171 n a0 (10 : Int32) C134).bind (fun z => match z with | (q250, C251) => (if q250 = 0 then (f_170 n a0 (0 : Int32) (1 : Int32) C251).bind (fun z => match z with | (q254, C255) => (if ¬ q254 = 0 then (cP C255 a0 33).bind (fun r258 => (f_171 n a0 (9 : Int32) C255).bind (fun z => match z with | (q260, C261) => (if q260 = 0 then (f_171 n a0 (6 : Int32) C261).bind (fun z => match z with | (q264, C265) => (if q264 = 0 then if isK r258 12 = true then if amIn a1 (aLen r258) = true then (f_169 n a0 (uI C265 r258 (Int32.toNatClampNeg a1) (2 : Int32))).bind (fun z => match z with | (_, C271) => (cP C271 a0 33).bind (fun r273 => if isK r273 12 = true then if amIn a1 (aLen r273) = true then (if ¬ (cI C271 r273 (Int32.toNatClampNeg a1)) = 0 then (f_171 n a0 (7 : Int32) C271).bind (fun z => match z with | (q278, C279) => (if ¬ q278 = 0 then (f_169 n a0 C279).bind (fun z => match z with | (_, C283) => (f_181 n a0 a1 (1 : Int32) C283).bind (fun z => match z with | (_, C286) => some ((), C286))) else some ((), C279))) else (f_180 n a0 a1 (1 : Int32) C271).bind (fun z => match z with | (_, C289) => (f_171 n a0 (7 : Int32) C289).bind (fun z => match z with | (q291, C292) => (if ¬ q291 = 0 then (f_169 n a0 C292).bind (fun z => match z with | (_, C296) => (f_181 n a0 a1 (1 : Int32) C296).bind (fun z => match z with | (_, C299) => some ((), C299))) else some ((), C292))))) else none else none)) else none else none else if isK r258 12 = true then if amIn a1 (aLen r258) = true then (f_169 n a0 (uI C265 r258 (Int32.toNatClampNeg a1) (1 : Int32))).bind (fun z => match z with | (_, C304) => (cP C304 a0 33).bind (fun r306 => if isK r306 12 = true then if amIn a1 (aLen r306) = true then (if ¬ (cI C304 r306 (Int32.toNatClampNeg a1)) = 0 then (f_171 n a0 (7 : Int32) C304).bind (fun z => match z with | (q311, C312) => (if ¬ q311 = 0 then (f_169 n a0 C312).bind (fun z => match z with | (_, C316) => (f_181 n a0 a1 (1 : Int32) C316).bind (fun z => match z with | (_, C319) => some ((), C319))) else some ((), C312))) else (f_180 n a0 a1 (1 : Int32) C304).bind (fun z => match z with | (_, C322) => (f_171 n a0 (7 : Int32) C322).bind (fun z => match z with | (q324, C325) => (if ¬ q324 = 0 then (f_169 n a0 C325).bind (fun z => match z with | (_, C329) => (f_181 n a0 a1 (1 : Int32) C329).bind (fun z => match z with | (_, C332) => some ((), C332))) else some ((), C325))))) else none else none)) else none else none)) else if isK r258 12 = true then if amIn a1 (aLen r258) = true then (f_169 n a0 (uI C261 r258 (Int32.toNatClampNeg a1) (0 : Int32))).bind (fun z => match z with | (_, C337) => (cP C337 a0 33).bind (fun r339 => if isK r339 12 = true then if amIn a1 (aLen r339) = true then (if ¬ (cI C337 r339 (Int32.toNatClampNeg a1)) = 0 then (f_171 n a0 (7 : Int32) C337).bind (fun z => match z with | (q344, C345) => (if ¬ q344 = 0 then (f_169 n a0 C345).bind (fun z => match z with | (_, C349) => (f_181 n a0 a1 (1 : Int32) C349).bind (fun z => match z with | (_, C352) => some ((), C352))) else some ((), C345))) else (f_180 n a0 a1 (1 : Int32) C337).bind (fun z => match z with | (_, C355) => (f_171 n a0 (7 : Int32) C355).bind (fun z => match z with | (q357, C358) => (if ¬ q357 = 0 then (f_169 n a0 C358).bind (fun z => match z with | (_, C362) => (f_181 n a0 a1 (1 : Int32) C362).bind (fun z => match z with | (_, C365) => some ((), C365))) else some ((), C358))))) else none else none)) else none else none))) else some ((), C255))) else (f_170 n a0 (1 : Int32) (1 : Int32) C251).bind (fun z => match z with | (q367, C368) => (if ¬ q367 = 0 then (cP C368 a0 33).bind (fun r371 => (f_171 n a0 (9 : Int32) C368).bind (fun z => match z with | (q373, C374) => (if q373 = 0 then (f_171 n a0 (6 : Int32) C374).bind (fun z => match z with | (q377, C378) => (if q377 = 0 then if isK r371 12 = true then if amIn a1 (aLen r371) = true then (f_169 n a0 (uI C378 r371 (Int32.toNatClampNeg a1) (2 : Int32))).bind (fun z => match z with | (_, C384) => (cP C384 a0 33).bind (fun r386 => if isK r386 12 = true then if amIn a1 (aLen r386) = true then (if ¬ (cI C384 r386 (Int32.toNatClampNeg a1)) = 0 then (f_171 n a0 (7 : Int32) C384).bind (fun z => match z with | (q391, C392) => (if ¬ q391 = 0 then (f_169 n a0 C392).bind (fun z => match z with | (_, C396) => (f_181 n a0 a1 (1 : Int32) C396).bind (fun z => match z with | (_, C399) => some ((), C399))) else some ((), C392))) else (f_180 n a0 a1 (1 : Int32) C384).bind (fun z => match z with | (_, C402) => (f_171 n a0 (7 : Int32) C402).bind (fun z => match z with | (q404, C405) => (if ¬ q404 = 0 then (f_169 n a0 C405).bind (fun z => match z with | (_, C409) => (f_181 n a0 a1 (1 : Int32) C409).bind (fun z => match z with | (_, C412) => some ((), C412))) else some ((), C405))))) else none else none)) else none else none else if isK r371 12 = true then if amIn a1 (aLen r371) = true then (f_169 n a0 (uI C378 r371 (Int32.toNatClampNeg a1) (1 : Int32))).bind (fun z => match z with | (_, C417) => (cP C417 a0 33).bind (fun r419 => if isK r419 12 = true then if amIn a1 (aLen r419) = true then (if ¬ (cI C417 r419 (Int32.toNatClampNeg a1)) = 0 then (f_171 n a0 (7 : Int32) C417).bind (fun z => match z with | (q424, C425) => (if ¬ q424 = 0 then (f_169 n a0 C425).bind (fun z => match z with | (_, C429) => (f_181 n a0 a1 (1 : Int32) C429).bind (fun z => match z with | (_, C432) => some ((), C432))) else some ((), C425))) else (f_180 n a0 a1 (1 : Int32) C417).bind (fun z => match z with | (_, C435) => (f_171 n a0 (7 : Int32) C435).bind (fun z => match z with | (q437, C438) => (if ¬ q437 = 0 then (f_169 n a0 C438).bind (fun z => match z with | (_, C442) => (f_181 n a0 a1 (1 : Int32) C442).bind (fun z => match z with | (_, C445) => some ((), C445))) else some ((), C438))))) else none else none)) else none else none)) else if isK r371 12 = true then if amIn a1 (aLen r371) = true then (f_169 n a0 (uI C374 r371 (Int32.toNatClampNeg a1) (0 : Int32))).bind (fun z => match z with | (_, C450) => (cP C450 a0 33).bind (fun r452 => if isK r452 12 = true then if amIn a1 (aLen r452) = true then (if ¬ (cI C450 r452 (Int32.toNatClampNeg a1)) = 0 then (f_171 n a0 (7 : Int32) C450).bind (fun z => match z with | (q457, C458) => (if ¬ q457 = 0 then (f_169 n a0 C458).bind (fun z => match z with | (_, C462) => (f_181 n a0 a1 (1 : Int32) C462).bind (fun z => match z with | (_, C465) => some ((), C465))) else some ((), C458))) else (f_180 n a0 a1 (1 : Int32) C450).bind (fun z => match z with | (_, C468) => (f_171 n a0 (7 : Int32) C468).bind (fun z => match z with | (q470, C471) => (if ¬ q470 = 0 then (f_169 n a0 C471).bind (fun z => match z with | (_, C475) => (f_181 n a0 a1 (1 : Int32) C475).bind (fun z => match z with | (_, C478) => some ((), C478))) else some ((), C471))))) else none else none)) else none else none))) else some ((), C368))))))))) else none else none)) else none else none)) else none
set_option maxRecDepth 20000 in
set_option maxHeartbeats 4000000 in
theorem t_184 {n : Nat} {a0 : Nat} {a1 : Int32} {C : AmC} {r : Unit} {C' : AmC} (h : f_184 n a0 a1 C = some (r, C')) : En false 184 0 [(0, .ref a0), (1, .int a1)] [] (mkM C) (.inl none) (mkM C') := by
  unfold f_184 at h
  refine en_aload rfl rfl ?_
  obtain ⟨g1, h⟩ := gd h
  obtain ⟨r2, e3, h⟩ := gb h
  refine ec_getP (ci := 10) (j := 34) ⟨rfl, rfl, rfl⟩ g1 e3 rfl ?_
  refine en_iload rfl rfl ?_
  refine en_aload rfl rfl ?_
  obtain ⟨⟨q4, C5⟩, e6, h⟩ := gb h
  dsimp only at h
  refine ec_callV1 (k' := 176) (n := 1) (rc := 10) (a := a0) (as := []) ⟨rfl, rfl⟩ rfl rfl (Nat.le_of_ble_eq_true rfl) (Nat.le_of_ble_eq_true rfl) (Nat.le_of_ble_eq_true rfl) g1 rfl (t_176 e6) ?_
  obtain ⟨g7, h⟩ := gd h
  obtain ⟨g8, h⟩ := gd h
  refine ec_iastore g7 g8 rfl ?_
  refine en_aload rfl rfl ?_
  obtain ⟨r9, e10, h⟩ := gb h
  refine ec_getP (ci := 10) (j := 35) ⟨rfl, rfl, rfl⟩ g1 e10 rfl ?_
  refine en_iload rfl rfl ?_
  refine en_aload rfl rfl ?_
  obtain ⟨⟨q11, C12⟩, e13, h⟩ := gb h
  dsimp only at h
  refine ec_callV1 (k' := 176) (n := 1) (rc := 10) (a := a0) (as := []) ⟨rfl, rfl⟩ rfl rfl (Nat.le_of_ble_eq_true rfl) (Nat.le_of_ble_eq_true rfl) (Nat.le_of_ble_eq_true rfl) g1 rfl (t_176 e13) ?_
  obtain ⟨g14, h⟩ := gd h
  obtain ⟨g15, h⟩ := gd h
  refine ec_iastore g14 g15 rfl ?_
  refine en_aload rfl rfl ?_
  refine en_aload rfl rfl ?_
  refine ec_iconst cst_9 rfl ?_
  obtain ⟨⟨q16, C17⟩, e18, h⟩ := gb h
  dsimp only at h
  refine ec_callV1 (k' := 171) (n := 2) (rc := 10) (a := a0) (as := [.int (9 : Int32)]) ⟨rfl, rfl⟩ rfl rfl (Nat.le_of_ble_eq_true rfl) (Nat.le_of_ble_eq_true rfl) (Nat.le_of_ble_eq_true rfl) g1 rfl (t_171 e18) ?_
  rcases gi h with ⟨c19, h⟩ | ⟨c19, h⟩
  · refine en_if_ne_t c19 rfl ?_
    refine ec_iconst cst_1 rfl ?_
    refine en_goto rfl ?_
    refine ec_iconst cst_1 rfl ?_
    obtain ⟨⟨q20, C21⟩, e22, h⟩ := gb h
    dsimp only at h
    refine ec_callV1 (k' := 170) (n := 3) (rc := 10) (a := a0) (as := [.int (1 : Int32), .int (1 : Int32)]) ⟨rfl, rfl⟩ rfl rfl (Nat.le_of_ble_eq_true rfl) (Nat.le_of_ble_eq_true rfl) (Nat.le_of_ble_eq_true rfl) g1 rfl (t_170 e22) ?_
    rcases gi h with ⟨c23, h⟩ | ⟨c23, h⟩
    · refine en_if_ne_t c23 rfl ?_
      refine en_aload rfl rfl ?_
      obtain ⟨r24, e25, h⟩ := gb h
      refine ec_getP (ci := 10) (j := 33) ⟨rfl, rfl, rfl⟩ g1 e25 rfl ?_
      refine en_iload rfl rfl ?_
      refine en_aload rfl rfl ?_
      refine ec_iconst cst_9 rfl ?_
      obtain ⟨⟨q26, C27⟩, e28, h⟩ := gb h
      dsimp only at h
      refine ec_callV1 (k' := 171) (n := 2) (rc := 10) (a := a0) (as := [.int (9 : Int32)]) ⟨rfl, rfl⟩ rfl rfl (Nat.le_of_ble_eq_true rfl) (Nat.le_of_ble_eq_true rfl) (Nat.le_of_ble_eq_true rfl) g1 rfl (t_171 e28) ?_
      rcases gi h with ⟨c29, h⟩ | ⟨c29, h⟩
      · refine en_if_eq_t c29 rfl ?_
        refine en_aload rfl rfl ?_
        refine ec_iconst cst_6 rfl ?_
        obtain ⟨⟨q30, C31⟩, e32, h⟩ := gb h
        dsimp only at h
        refine ec_callV1 (k' := 171) (n := 2) (rc := 10) (a := a0) (as := [.int (6 : Int32)]) ⟨rfl, rfl⟩ rfl rfl (Nat.le_of_ble_eq_true rfl) (Nat.le_of_ble_eq_true rfl) (Nat.le_of_ble_eq_true rfl) g1 rfl (t_171 e32) ?_
        rcases gi h with ⟨c33, h⟩ | ⟨c33, h⟩
        · refine en_if_eq_t c33 rfl ?_
          refine ec_iconst cst_2 rfl ?_
          obtain ⟨g34, h⟩ := gd h
          obtain ⟨g35, h⟩ := gd h
          refine ec_iastore g34 g35 rfl ?_
          refine en_aload rfl rfl ?_
          obtain ⟨⟨q36, C37⟩, e38, h⟩ := gb h
          dsimp only at h
          refine ec_callV0 (k' := 169) (n := 1) (rc := 10) (a := a0) (as := []) ⟨rfl, rfl⟩ rfl rfl (Nat.le_of_ble_eq_true rfl) (Nat.le_of_ble_eq_true rfl) (Nat.le_of_ble_eq_true rfl) g1 rfl (t_169 e38) ?_
          refine en_aload rfl rfl ?_
          obtain ⟨r39, e40, h⟩ := gb h
          refine ec_getP (ci := 10) (j := 33) ⟨rfl, rfl, rfl⟩ g1 e40 rfl ?_
          refine en_iload rfl rfl ?_
          obtain ⟨g41, h⟩ := gd h
          obtain ⟨g42, h⟩ := gd h
          refine ec_iaload g41 g42 rfl ?_
          rcases gi h with ⟨c43, h⟩ | ⟨c43, h⟩
          · refine en_if_ne_t c43 rfl ?_
            refine en_aload rfl rfl ?_
            refine ec_iconst cst_7 rfl ?_
            obtain ⟨⟨q44, C45⟩, e46, h⟩ := gb h
            dsimp only at h
            refine ec_callV1 (k' := 171) (n := 2) (rc := 10) (a := a0) (as := [.int (7 : Int32)]) ⟨rfl, rfl⟩ rfl rfl (Nat.le_of_ble_eq_true rfl) (Nat.le_of_ble_eq_true rfl) (Nat.le_of_ble_eq_true rfl) g1 rfl (t_171 e46) ?_
            rcases gi h with ⟨c47, h⟩ | ⟨c47, h⟩
            · refine en_if_ne_t c47 rfl ?_
              refine en_aload rfl rfl ?_
              obtain ⟨⟨q48, C49⟩, e50, h⟩ := gb h
              dsimp only at h
              refine ec_callV0 (k' := 169) (n := 1) (rc := 10) (a := a0) (as := []) ⟨rfl, rfl⟩ rfl rfl (Nat.le_of_ble_eq_true rfl) (Nat.le_of_ble_eq_true rfl) (Nat.le_of_ble_eq_true rfl) g1 rfl (t_169 e50) ?_
              refine en_aload rfl rfl ?_
              refine en_iload rfl rfl ?_
              refine ec_iconst cst_1 rfl ?_
              obtain ⟨⟨q51, C52⟩, e53, h⟩ := gb h
              dsimp only at h
              refine ec_callV0 (k' := 181) (n := 3) (rc := 10) (a := a0) (as := [.int a1, .int (1 : Int32)]) ⟨rfl, rfl⟩ rfl rfl (Nat.le_of_ble_eq_true rfl) (Nat.le_of_ble_eq_true rfl) (Nat.le_of_ble_eq_true rfl) g1 rfl (t_181 e53) ?_
              cases h
              exact en_vret rfl
            · refine en_if_ne_f c47 rfl ?_
              cases h
              exact en_vret rfl
          · refine en_if_ne_f c43 rfl ?_
            refine en_aload rfl rfl ?_
            refine en_iload rfl rfl ?_
            refine ec_iconst cst_1 rfl ?_
            obtain ⟨⟨q54, C55⟩, e56, h⟩ := gb h
            dsimp only at h
            refine ec_callV0 (k' := 180) (n := 3) (rc := 10) (a := a0) (as := [.int a1, .int (1 : Int32)]) ⟨rfl, rfl⟩ rfl rfl (Nat.le_of_ble_eq_true rfl) (Nat.le_of_ble_eq_true rfl) (Nat.le_of_ble_eq_true rfl) g1 rfl (t_180 e56) ?_
            refine en_aload rfl rfl ?_
            refine ec_iconst cst_7 rfl ?_
            obtain ⟨⟨q57, C58⟩, e59, h⟩ := gb h
            dsimp only at h
            refine ec_callV1 (k' := 171) (n := 2) (rc := 10) (a := a0) (as := [.int (7 : Int32)]) ⟨rfl, rfl⟩ rfl rfl (Nat.le_of_ble_eq_true rfl) (Nat.le_of_ble_eq_true rfl) (Nat.le_of_ble_eq_true rfl) g1 rfl (t_171 e59) ?_
            rcases gi h with ⟨c60, h⟩ | ⟨c60, h⟩
            · refine en_if_ne_t c60 rfl ?_
              refine en_aload rfl rfl ?_
              obtain ⟨⟨q61, C62⟩, e63, h⟩ := gb h
              dsimp only at h
              refine ec_callV0 (k' := 169) (n := 1) (rc := 10) (a := a0) (as := []) ⟨rfl, rfl⟩ rfl rfl (Nat.le_of_ble_eq_true rfl) (Nat.le_of_ble_eq_true rfl) (Nat.le_of_ble_eq_true rfl) g1 rfl (t_169 e63) ?_
              refine en_aload rfl rfl ?_
              refine en_iload rfl rfl ?_
              refine ec_iconst cst_1 rfl ?_
              obtain ⟨⟨q64, C65⟩, e66, h⟩ := gb h
              dsimp only at h
              refine ec_callV0 (k' := 181) (n := 3) (rc := 10) (a := a0) (as := [.int a1, .int (1 : Int32)]) ⟨rfl, rfl⟩ rfl rfl (Nat.le_of_ble_eq_true rfl) (Nat.le_of_ble_eq_true rfl) (Nat.le_of_ble_eq_true rfl) g1 rfl (t_181 e66) ?_
              cases h
              exact en_vret rfl
            · refine en_if_ne_f c60 rfl ?_
              cases h
              exact en_vret rfl
        · refine en_if_eq_f c33 rfl ?_
          refine ec_iconst cst_1 rfl ?_
          refine en_goto rfl ?_
          obtain ⟨g67, h⟩ := gd h
          obtain ⟨g68, h⟩ := gd h
          refine ec_iastore g67 g68 rfl ?_
          refine en_aload rfl rfl ?_
          obtain ⟨⟨q69, C70⟩, e71, h⟩ := gb h
          dsimp only at h
          refine ec_callV0 (k' := 169) (n := 1) (rc := 10) (a := a0) (as := []) ⟨rfl, rfl⟩ rfl rfl (Nat.le_of_ble_eq_true rfl) (Nat.le_of_ble_eq_true rfl) (Nat.le_of_ble_eq_true rfl) g1 rfl (t_169 e71) ?_
          refine en_aload rfl rfl ?_
          obtain ⟨r72, e73, h⟩ := gb h
          refine ec_getP (ci := 10) (j := 33) ⟨rfl, rfl, rfl⟩ g1 e73 rfl ?_
          refine en_iload rfl rfl ?_
          obtain ⟨g74, h⟩ := gd h
          obtain ⟨g75, h⟩ := gd h
          refine ec_iaload g74 g75 rfl ?_
          rcases gi h with ⟨c76, h⟩ | ⟨c76, h⟩
          · refine en_if_ne_t c76 rfl ?_
            refine en_aload rfl rfl ?_
            refine ec_iconst cst_7 rfl ?_
            obtain ⟨⟨q77, C78⟩, e79, h⟩ := gb h
            dsimp only at h
            refine ec_callV1 (k' := 171) (n := 2) (rc := 10) (a := a0) (as := [.int (7 : Int32)]) ⟨rfl, rfl⟩ rfl rfl (Nat.le_of_ble_eq_true rfl) (Nat.le_of_ble_eq_true rfl) (Nat.le_of_ble_eq_true rfl) g1 rfl (t_171 e79) ?_
            rcases gi h with ⟨c80, h⟩ | ⟨c80, h⟩
            · refine en_if_ne_t c80 rfl ?_
              refine en_aload rfl rfl ?_
              obtain ⟨⟨q81, C82⟩, e83, h⟩ := gb h
              dsimp only at h
              refine ec_callV0 (k' := 169) (n := 1) (rc := 10) (a := a0) (as := []) ⟨rfl, rfl⟩ rfl rfl (Nat.le_of_ble_eq_true rfl) (Nat.le_of_ble_eq_true rfl) (Nat.le_of_ble_eq_true rfl) g1 rfl (t_169 e83) ?_
              refine en_aload rfl rfl ?_
              refine en_iload rfl rfl ?_
              refine ec_iconst cst_1 rfl ?_
              obtain ⟨⟨q84, C85⟩, e86, h⟩ := gb h
              dsimp only at h
              refine ec_callV0 (k' := 181) (n := 3) (rc := 10) (a := a0) (as := [.int a1, .int (1 : Int32)]) ⟨rfl, rfl⟩ rfl rfl (Nat.le_of_ble_eq_true rfl) (Nat.le_of_ble_eq_true rfl) (Nat.le_of_ble_eq_true rfl) g1 rfl (t_181 e86) ?_
              cases h
              exact en_vret rfl
            · refine en_if_ne_f c80 rfl ?_
              cases h
              exact en_vret rfl
          · refine en_if_ne_f c76 rfl ?_
            refine en_aload rfl rfl ?_
            refine en_iload rfl rfl ?_
            refine ec_iconst cst_1 rfl ?_
            obtain ⟨⟨q87, C88⟩, e89, h⟩ := gb h
            dsimp only at h
            refine ec_callV0 (k' := 180) (n := 3) (rc := 10) (a := a0) (as := [.int a1, .int (1 : Int32)]) ⟨rfl, rfl⟩ rfl rfl (Nat.le_of_ble_eq_true rfl) (Nat.le_of_ble_eq_true rfl) (Nat.le_of_ble_eq_true rfl) g1 rfl (t_180 e89) ?_
            refine en_aload rfl rfl ?_
            refine ec_iconst cst_7 rfl ?_
            obtain ⟨⟨q90, C91⟩, e92, h⟩ := gb h
            dsimp only at h
            refine ec_callV1 (k' := 171) (n := 2) (rc := 10) (a := a0) (as := [.int (7 : Int32)]) ⟨rfl, rfl⟩ rfl rfl (Nat.le_of_ble_eq_true rfl) (Nat.le_of_ble_eq_true rfl) (Nat.le_of_ble_eq_true rfl) g1 rfl (t_171 e92) ?_
            rcases gi h with ⟨c93, h⟩ | ⟨c93, h⟩
            · refine en_if_ne_t c93 rfl ?_
              refine en_aload rfl rfl ?_
              obtain ⟨⟨q94, C95⟩, e96, h⟩ := gb h
              dsimp only at h
              refine ec_callV0 (k' := 169) (n := 1) (rc := 10) (a := a0) (as := []) ⟨rfl, rfl⟩ rfl rfl (Nat.le_of_ble_eq_true rfl) (Nat.le_of_ble_eq_true rfl) (Nat.le_of_ble_eq_true rfl) g1 rfl (t_169 e96) ?_
              refine en_aload rfl rfl ?_
              refine en_iload rfl rfl ?_
              refine ec_iconst cst_1 rfl ?_
              obtain ⟨⟨q97, C98⟩, e99, h⟩ := gb h
              dsimp only at h
              refine ec_callV0 (k' := 181) (n := 3) (rc := 10) (a := a0) (as := [.int a1, .int (1 : Int32)]) ⟨rfl, rfl⟩ rfl rfl (Nat.le_of_ble_eq_true rfl) (Nat.le_of_ble_eq_true rfl) (Nat.le_of_ble_eq_true rfl) g1 rfl (t_181 e99) ?_
              cases h
              exact en_vret rfl
            · refine en_if_ne_f c93 rfl ?_
              cases h
              exact en_vret rfl
      · refine en_if_eq_f c29 rfl ?_
        refine ec_iconst cst_0 rfl ?_
        refine en_goto rfl ?_
        obtain ⟨g100, h⟩ := gd h
        obtain ⟨g101, h⟩ := gd h
        refine ec_iastore g100 g101 rfl ?_
        refine en_aload rfl rfl ?_
        obtain ⟨⟨q102, C103⟩, e104, h⟩ := gb h
        dsimp only at h
        refine ec_callV0 (k' := 169) (n := 1) (rc := 10) (a := a0) (as := []) ⟨rfl, rfl⟩ rfl rfl (Nat.le_of_ble_eq_true rfl) (Nat.le_of_ble_eq_true rfl) (Nat.le_of_ble_eq_true rfl) g1 rfl (t_169 e104) ?_
        refine en_aload rfl rfl ?_
        obtain ⟨r105, e106, h⟩ := gb h
        refine ec_getP (ci := 10) (j := 33) ⟨rfl, rfl, rfl⟩ g1 e106 rfl ?_
        refine en_iload rfl rfl ?_
        obtain ⟨g107, h⟩ := gd h
        obtain ⟨g108, h⟩ := gd h
        refine ec_iaload g107 g108 rfl ?_
        rcases gi h with ⟨c109, h⟩ | ⟨c109, h⟩
        · refine en_if_ne_t c109 rfl ?_
          refine en_aload rfl rfl ?_
          refine ec_iconst cst_7 rfl ?_
          obtain ⟨⟨q110, C111⟩, e112, h⟩ := gb h
          dsimp only at h
          refine ec_callV1 (k' := 171) (n := 2) (rc := 10) (a := a0) (as := [.int (7 : Int32)]) ⟨rfl, rfl⟩ rfl rfl (Nat.le_of_ble_eq_true rfl) (Nat.le_of_ble_eq_true rfl) (Nat.le_of_ble_eq_true rfl) g1 rfl (t_171 e112) ?_
          rcases gi h with ⟨c113, h⟩ | ⟨c113, h⟩
          · refine en_if_ne_t c113 rfl ?_
            refine en_aload rfl rfl ?_
            obtain ⟨⟨q114, C115⟩, e116, h⟩ := gb h
            dsimp only at h
            refine ec_callV0 (k' := 169) (n := 1) (rc := 10) (a := a0) (as := []) ⟨rfl, rfl⟩ rfl rfl (Nat.le_of_ble_eq_true rfl) (Nat.le_of_ble_eq_true rfl) (Nat.le_of_ble_eq_true rfl) g1 rfl (t_169 e116) ?_
            refine en_aload rfl rfl ?_
            refine en_iload rfl rfl ?_
            refine ec_iconst cst_1 rfl ?_
            obtain ⟨⟨q117, C118⟩, e119, h⟩ := gb h
            dsimp only at h
            refine ec_callV0 (k' := 181) (n := 3) (rc := 10) (a := a0) (as := [.int a1, .int (1 : Int32)]) ⟨rfl, rfl⟩ rfl rfl (Nat.le_of_ble_eq_true rfl) (Nat.le_of_ble_eq_true rfl) (Nat.le_of_ble_eq_true rfl) g1 rfl (t_181 e119) ?_
            cases h
            exact en_vret rfl
          · refine en_if_ne_f c113 rfl ?_
            cases h
            exact en_vret rfl
        · refine en_if_ne_f c109 rfl ?_
          refine en_aload rfl rfl ?_
          refine en_iload rfl rfl ?_
          refine ec_iconst cst_1 rfl ?_
          obtain ⟨⟨q120, C121⟩, e122, h⟩ := gb h
          dsimp only at h
          refine ec_callV0 (k' := 180) (n := 3) (rc := 10) (a := a0) (as := [.int a1, .int (1 : Int32)]) ⟨rfl, rfl⟩ rfl rfl (Nat.le_of_ble_eq_true rfl) (Nat.le_of_ble_eq_true rfl) (Nat.le_of_ble_eq_true rfl) g1 rfl (t_180 e122) ?_
          refine en_aload rfl rfl ?_
          refine ec_iconst cst_7 rfl ?_
          obtain ⟨⟨q123, C124⟩, e125, h⟩ := gb h
          dsimp only at h
          refine ec_callV1 (k' := 171) (n := 2) (rc := 10) (a := a0) (as := [.int (7 : Int32)]) ⟨rfl, rfl⟩ rfl rfl (Nat.le_of_ble_eq_true rfl) (Nat.le_of_ble_eq_true rfl) (Nat.le_of_ble_eq_true rfl) g1 rfl (t_171 e125) ?_
          rcases gi h with ⟨c126, h⟩ | ⟨c126, h⟩
          · refine en_if_ne_t c126 rfl ?_
            refine en_aload rfl rfl ?_
            obtain ⟨⟨q127, C128⟩, e129, h⟩ := gb h
            dsimp only at h
            refine ec_callV0 (k' := 169) (n := 1) (rc := 10) (a := a0) (as := []) ⟨rfl, rfl⟩ rfl rfl (Nat.le_of_ble_eq_true rfl) (Nat.le_of_ble_eq_true rfl) (Nat.le_of_ble_eq_true rfl) g1 rfl (t_169 e129) ?_
            refine en_aload rfl rfl ?_
            refine en_iload rfl rfl ?_
            refine ec_iconst cst_1 rfl ?_
            obtain ⟨⟨q130, C131⟩, e132, h⟩ := gb h
            dsimp only at h
            refine ec_callV0 (k' := 181) (n := 3) (rc := 10) (a := a0) (as := [.int a1, .int (1 : Int32)]) ⟨rfl, rfl⟩ rfl rfl (Nat.le_of_ble_eq_true rfl) (Nat.le_of_ble_eq_true rfl) (Nat.le_of_ble_eq_true rfl) g1 rfl (t_181 e132) ?_
            cases h
            exact en_vret rfl
          · refine en_if_ne_f c126 rfl ?_
            cases h
            exact en_vret rfl
    · refine en_if_ne_f c23 rfl ?_
      cases h
      exact en_vret rfl
  · refine en_if_ne_f c19 rfl ?_
    refine en_aload rfl rfl ?_
    refine ec_iconst cst_6 rfl ?_
    obtain ⟨⟨q133, C134⟩, e135, h⟩ := gb h
    dsimp only at h
    refine ec_callV1 (k' := 171) (n := 2) (rc := 10) (a := a0) (as := [.int (6 : Int32)]) ⟨rfl, rfl⟩ rfl rfl (Nat.le_of_ble_eq_true rfl) (Nat.le_of_ble_eq_true rfl) (Nat.le_of_ble_eq_true rfl) g1 rfl (t_171 e135) ?_
    rcases gi h with ⟨c136, h⟩ | ⟨c136, h⟩
    · refine en_if_ne_t c136 rfl ?_
      refine ec_iconst cst_1 rfl ?_
      refine en_goto rfl ?_
      refine ec_iconst cst_1 rfl ?_
      obtain ⟨⟨q137, C138⟩, e139, h⟩ := gb h
      dsimp only at h
      refine ec_callV1 (k' := 170) (n := 3) (rc := 10) (a := a0) (as := [.int (1 : Int32), .int (1 : Int32)]) ⟨rfl, rfl⟩ rfl rfl (Nat.le_of_ble_eq_true rfl) (Nat.le_of_ble_eq_true rfl) (Nat.le_of_ble_eq_true rfl) g1 rfl (t_170 e139) ?_
      rcases gi h with ⟨c140, h⟩ | ⟨c140, h⟩
      · refine en_if_ne_t c140 rfl ?_
        refine en_aload rfl rfl ?_
        obtain ⟨r141, e142, h⟩ := gb h
        refine ec_getP (ci := 10) (j := 33) ⟨rfl, rfl, rfl⟩ g1 e142 rfl ?_
        refine en_iload rfl rfl ?_
        refine en_aload rfl rfl ?_
        refine ec_iconst cst_9 rfl ?_
        obtain ⟨⟨q143, C144⟩, e145, h⟩ := gb h
        dsimp only at h
        refine ec_callV1 (k' := 171) (n := 2) (rc := 10) (a := a0) (as := [.int (9 : Int32)]) ⟨rfl, rfl⟩ rfl rfl (Nat.le_of_ble_eq_true rfl) (Nat.le_of_ble_eq_true rfl) (Nat.le_of_ble_eq_true rfl) g1 rfl (t_171 e145) ?_
        rcases gi h with ⟨c146, h⟩ | ⟨c146, h⟩
        · refine en_if_eq_t c146 rfl ?_
          refine en_aload rfl rfl ?_
          refine ec_iconst cst_6 rfl ?_
          obtain ⟨⟨q147, C148⟩, e149, h⟩ := gb h
          dsimp only at h
          refine ec_callV1 (k' := 171) (n := 2) (rc := 10) (a := a0) (as := [.int (6 : Int32)]) ⟨rfl, rfl⟩ rfl rfl (Nat.le_of_ble_eq_true rfl) (Nat.le_of_ble_eq_true rfl) (Nat.le_of_ble_eq_true rfl) g1 rfl (t_171 e149) ?_
          rcases gi h with ⟨c150, h⟩ | ⟨c150, h⟩
          · refine en_if_eq_t c150 rfl ?_
            refine ec_iconst cst_2 rfl ?_
            obtain ⟨g151, h⟩ := gd h
            obtain ⟨g152, h⟩ := gd h
            refine ec_iastore g151 g152 rfl ?_
            refine en_aload rfl rfl ?_
            obtain ⟨⟨q153, C154⟩, e155, h⟩ := gb h
            dsimp only at h
            refine ec_callV0 (k' := 169) (n := 1) (rc := 10) (a := a0) (as := []) ⟨rfl, rfl⟩ rfl rfl (Nat.le_of_ble_eq_true rfl) (Nat.le_of_ble_eq_true rfl) (Nat.le_of_ble_eq_true rfl) g1 rfl (t_169 e155) ?_
            refine en_aload rfl rfl ?_
            obtain ⟨r156, e157, h⟩ := gb h
            refine ec_getP (ci := 10) (j := 33) ⟨rfl, rfl, rfl⟩ g1 e157 rfl ?_
            refine en_iload rfl rfl ?_
            obtain ⟨g158, h⟩ := gd h
            obtain ⟨g159, h⟩ := gd h
            refine ec_iaload g158 g159 rfl ?_
            rcases gi h with ⟨c160, h⟩ | ⟨c160, h⟩
            · refine en_if_ne_t c160 rfl ?_
              refine en_aload rfl rfl ?_
              refine ec_iconst cst_7 rfl ?_
              obtain ⟨⟨q161, C162⟩, e163, h⟩ := gb h
              dsimp only at h
              refine ec_callV1 (k' := 171) (n := 2) (rc := 10) (a := a0) (as := [.int (7 : Int32)]) ⟨rfl, rfl⟩ rfl rfl (Nat.le_of_ble_eq_true rfl) (Nat.le_of_ble_eq_true rfl) (Nat.le_of_ble_eq_true rfl) g1 rfl (t_171 e163) ?_
              rcases gi h with ⟨c164, h⟩ | ⟨c164, h⟩
              · refine en_if_ne_t c164 rfl ?_
                refine en_aload rfl rfl ?_
                obtain ⟨⟨q165, C166⟩, e167, h⟩ := gb h
                dsimp only at h
                refine ec_callV0 (k' := 169) (n := 1) (rc := 10) (a := a0) (as := []) ⟨rfl, rfl⟩ rfl rfl (Nat.le_of_ble_eq_true rfl) (Nat.le_of_ble_eq_true rfl) (Nat.le_of_ble_eq_true rfl) g1 rfl (t_169 e167) ?_
                refine en_aload rfl rfl ?_
                refine en_iload rfl rfl ?_
                refine ec_iconst cst_1 rfl ?_
                obtain ⟨⟨q168, C169⟩, e170, h⟩ := gb h
                dsimp only at h
                refine ec_callV0 (k' := 181) (n := 3) (rc := 10) (a := a0) (as := [.int a1, .int (1 : Int32)]) ⟨rfl, rfl⟩ rfl rfl (Nat.le_of_ble_eq_true rfl) (Nat.le_of_ble_eq_true rfl) (Nat.le_of_ble_eq_true rfl) g1 rfl (t_181 e170) ?_
                cases h
                exact en_vret rfl
              · refine en_if_ne_f c164 rfl ?_
                cases h
                exact en_vret rfl
            · refine en_if_ne_f c160 rfl ?_
              refine en_aload rfl rfl ?_
              refine en_iload rfl rfl ?_
              refine ec_iconst cst_1 rfl ?_
              obtain ⟨⟨q171, C172⟩, e173, h⟩ := gb h
              dsimp only at h
              refine ec_callV0 (k' := 180) (n := 3) (rc := 10) (a := a0) (as := [.int a1, .int (1 : Int32)]) ⟨rfl, rfl⟩ rfl rfl (Nat.le_of_ble_eq_true rfl) (Nat.le_of_ble_eq_true rfl) (Nat.le_of_ble_eq_true rfl) g1 rfl (t_180 e173) ?_
              refine en_aload rfl rfl ?_
              refine ec_iconst cst_7 rfl ?_
              obtain ⟨⟨q174, C175⟩, e176, h⟩ := gb h
              dsimp only at h
              refine ec_callV1 (k' := 171) (n := 2) (rc := 10) (a := a0) (as := [.int (7 : Int32)]) ⟨rfl, rfl⟩ rfl rfl (Nat.le_of_ble_eq_true rfl) (Nat.le_of_ble_eq_true rfl) (Nat.le_of_ble_eq_true rfl) g1 rfl (t_171 e176) ?_
              rcases gi h with ⟨c177, h⟩ | ⟨c177, h⟩
              · refine en_if_ne_t c177 rfl ?_
                refine en_aload rfl rfl ?_
                obtain ⟨⟨q178, C179⟩, e180, h⟩ := gb h
                dsimp only at h
                refine ec_callV0 (k' := 169) (n := 1) (rc := 10) (a := a0) (as := []) ⟨rfl, rfl⟩ rfl rfl (Nat.le_of_ble_eq_true rfl) (Nat.le_of_ble_eq_true rfl) (Nat.le_of_ble_eq_true rfl) g1 rfl (t_169 e180) ?_
                refine en_aload rfl rfl ?_
                refine en_iload rfl rfl ?_
                refine ec_iconst cst_1 rfl ?_
                obtain ⟨⟨q181, C182⟩, e183, h⟩ := gb h
                dsimp only at h
                refine ec_callV0 (k' := 181) (n := 3) (rc := 10) (a := a0) (as := [.int a1, .int (1 : Int32)]) ⟨rfl, rfl⟩ rfl rfl (Nat.le_of_ble_eq_true rfl) (Nat.le_of_ble_eq_true rfl) (Nat.le_of_ble_eq_true rfl) g1 rfl (t_181 e183) ?_
                cases h
                exact en_vret rfl
              · refine en_if_ne_f c177 rfl ?_
                cases h
                exact en_vret rfl
          · refine en_if_eq_f c150 rfl ?_
            refine ec_iconst cst_1 rfl ?_
            refine en_goto rfl ?_
            obtain ⟨g184, h⟩ := gd h
            obtain ⟨g185, h⟩ := gd h
            refine ec_iastore g184 g185 rfl ?_
            refine en_aload rfl rfl ?_
            obtain ⟨⟨q186, C187⟩, e188, h⟩ := gb h
            dsimp only at h
            refine ec_callV0 (k' := 169) (n := 1) (rc := 10) (a := a0) (as := []) ⟨rfl, rfl⟩ rfl rfl (Nat.le_of_ble_eq_true rfl) (Nat.le_of_ble_eq_true rfl) (Nat.le_of_ble_eq_true rfl) g1 rfl (t_169 e188) ?_
            refine en_aload rfl rfl ?_
            obtain ⟨r189, e190, h⟩ := gb h
            refine ec_getP (ci := 10) (j := 33) ⟨rfl, rfl, rfl⟩ g1 e190 rfl ?_
            refine en_iload rfl rfl ?_
            obtain ⟨g191, h⟩ := gd h
            obtain ⟨g192, h⟩ := gd h
            refine ec_iaload g191 g192 rfl ?_
            rcases gi h with ⟨c193, h⟩ | ⟨c193, h⟩
            · refine en_if_ne_t c193 rfl ?_
              refine en_aload rfl rfl ?_
              refine ec_iconst cst_7 rfl ?_
              obtain ⟨⟨q194, C195⟩, e196, h⟩ := gb h
              dsimp only at h
              refine ec_callV1 (k' := 171) (n := 2) (rc := 10) (a := a0) (as := [.int (7 : Int32)]) ⟨rfl, rfl⟩ rfl rfl (Nat.le_of_ble_eq_true rfl) (Nat.le_of_ble_eq_true rfl) (Nat.le_of_ble_eq_true rfl) g1 rfl (t_171 e196) ?_
              rcases gi h with ⟨c197, h⟩ | ⟨c197, h⟩
              · refine en_if_ne_t c197 rfl ?_
                refine en_aload rfl rfl ?_
                obtain ⟨⟨q198, C199⟩, e200, h⟩ := gb h
                dsimp only at h
                refine ec_callV0 (k' := 169) (n := 1) (rc := 10) (a := a0) (as := []) ⟨rfl, rfl⟩ rfl rfl (Nat.le_of_ble_eq_true rfl) (Nat.le_of_ble_eq_true rfl) (Nat.le_of_ble_eq_true rfl) g1 rfl (t_169 e200) ?_
                refine en_aload rfl rfl ?_
                refine en_iload rfl rfl ?_
                refine ec_iconst cst_1 rfl ?_
                obtain ⟨⟨q201, C202⟩, e203, h⟩ := gb h
                dsimp only at h
                refine ec_callV0 (k' := 181) (n := 3) (rc := 10) (a := a0) (as := [.int a1, .int (1 : Int32)]) ⟨rfl, rfl⟩ rfl rfl (Nat.le_of_ble_eq_true rfl) (Nat.le_of_ble_eq_true rfl) (Nat.le_of_ble_eq_true rfl) g1 rfl (t_181 e203) ?_
                cases h
                exact en_vret rfl
              · refine en_if_ne_f c197 rfl ?_
                cases h
                exact en_vret rfl
            · refine en_if_ne_f c193 rfl ?_
              refine en_aload rfl rfl ?_
              refine en_iload rfl rfl ?_
              refine ec_iconst cst_1 rfl ?_
              obtain ⟨⟨q204, C205⟩, e206, h⟩ := gb h
              dsimp only at h
              refine ec_callV0 (k' := 180) (n := 3) (rc := 10) (a := a0) (as := [.int a1, .int (1 : Int32)]) ⟨rfl, rfl⟩ rfl rfl (Nat.le_of_ble_eq_true rfl) (Nat.le_of_ble_eq_true rfl) (Nat.le_of_ble_eq_true rfl) g1 rfl (t_180 e206) ?_
              refine en_aload rfl rfl ?_
              refine ec_iconst cst_7 rfl ?_
              obtain ⟨⟨q207, C208⟩, e209, h⟩ := gb h
              dsimp only at h
              refine ec_callV1 (k' := 171) (n := 2) (rc := 10) (a := a0) (as := [.int (7 : Int32)]) ⟨rfl, rfl⟩ rfl rfl (Nat.le_of_ble_eq_true rfl) (Nat.le_of_ble_eq_true rfl) (Nat.le_of_ble_eq_true rfl) g1 rfl (t_171 e209) ?_
              rcases gi h with ⟨c210, h⟩ | ⟨c210, h⟩
              · refine en_if_ne_t c210 rfl ?_
                refine en_aload rfl rfl ?_
                obtain ⟨⟨q211, C212⟩, e213, h⟩ := gb h
                dsimp only at h
                refine ec_callV0 (k' := 169) (n := 1) (rc := 10) (a := a0) (as := []) ⟨rfl, rfl⟩ rfl rfl (Nat.le_of_ble_eq_true rfl) (Nat.le_of_ble_eq_true rfl) (Nat.le_of_ble_eq_true rfl) g1 rfl (t_169 e213) ?_
                refine en_aload rfl rfl ?_
                refine en_iload rfl rfl ?_
                refine ec_iconst cst_1 rfl ?_
                obtain ⟨⟨q214, C215⟩, e216, h⟩ := gb h
                dsimp only at h
                refine ec_callV0 (k' := 181) (n := 3) (rc := 10) (a := a0) (as := [.int a1, .int (1 : Int32)]) ⟨rfl, rfl⟩ rfl rfl (Nat.le_of_ble_eq_true rfl) (Nat.le_of_ble_eq_true rfl) (Nat.le_of_ble_eq_true rfl) g1 rfl (t_181 e216) ?_
                cases h
                exact en_vret rfl
              · refine en_if_ne_f c210 rfl ?_
                cases h
                exact en_vret rfl
        · refine en_if_eq_f c146 rfl ?_
          refine ec_iconst cst_0 rfl ?_
          refine en_goto rfl ?_
          obtain ⟨g217, h⟩ := gd h
          obtain ⟨g218, h⟩ := gd h
          refine ec_iastore g217 g218 rfl ?_
          refine en_aload rfl rfl ?_
          obtain ⟨⟨q219, C220⟩, e221, h⟩ := gb h
          dsimp only at h
          refine ec_callV0 (k' := 169) (n := 1) (rc := 10) (a := a0) (as := []) ⟨rfl, rfl⟩ rfl rfl (Nat.le_of_ble_eq_true rfl) (Nat.le_of_ble_eq_true rfl) (Nat.le_of_ble_eq_true rfl) g1 rfl (t_169 e221) ?_
          refine en_aload rfl rfl ?_
          obtain ⟨r222, e223, h⟩ := gb h
          refine ec_getP (ci := 10) (j := 33) ⟨rfl, rfl, rfl⟩ g1 e223 rfl ?_
          refine en_iload rfl rfl ?_
          obtain ⟨g224, h⟩ := gd h
          obtain ⟨g225, h⟩ := gd h
          refine ec_iaload g224 g225 rfl ?_
          rcases gi h with ⟨c226, h⟩ | ⟨c226, h⟩
          · refine en_if_ne_t c226 rfl ?_
            refine en_aload rfl rfl ?_
            refine ec_iconst cst_7 rfl ?_
            obtain ⟨⟨q227, C228⟩, e229, h⟩ := gb h
            dsimp only at h
            refine ec_callV1 (k' := 171) (n := 2) (rc := 10) (a := a0) (as := [.int (7 : Int32)]) ⟨rfl, rfl⟩ rfl rfl (Nat.le_of_ble_eq_true rfl) (Nat.le_of_ble_eq_true rfl) (Nat.le_of_ble_eq_true rfl) g1 rfl (t_171 e229) ?_
            rcases gi h with ⟨c230, h⟩ | ⟨c230, h⟩
            · refine en_if_ne_t c230 rfl ?_
              refine en_aload rfl rfl ?_
              obtain ⟨⟨q231, C232⟩, e233, h⟩ := gb h
              dsimp only at h
              refine ec_callV0 (k' := 169) (n := 1) (rc := 10) (a := a0) (as := []) ⟨rfl, rfl⟩ rfl rfl (Nat.le_of_ble_eq_true rfl) (Nat.le_of_ble_eq_true rfl) (Nat.le_of_ble_eq_true rfl) g1 rfl (t_169 e233) ?_
              refine en_aload rfl rfl ?_
              refine en_iload rfl rfl ?_
              refine ec_iconst cst_1 rfl ?_
              obtain ⟨⟨q234, C235⟩, e236, h⟩ := gb h
              dsimp only at h
              refine ec_callV0 (k' := 181) (n := 3) (rc := 10) (a := a0) (as := [.int a1, .int (1 : Int32)]) ⟨rfl, rfl⟩ rfl rfl (Nat.le_of_ble_eq_true rfl) (Nat.le_of_ble_eq_true rfl) (Nat.le_of_ble_eq_true rfl) g1 rfl (t_181 e236) ?_
              cases h
              exact en_vret rfl
            · refine en_if_ne_f c230 rfl ?_
              cases h
              exact en_vret rfl
          · refine en_if_ne_f c226 rfl ?_
            refine en_aload rfl rfl ?_
            refine en_iload rfl rfl ?_
            refine ec_iconst cst_1 rfl ?_
            obtain ⟨⟨q237, C238⟩, e239, h⟩ := gb h
            dsimp only at h
            refine ec_callV0 (k' := 180) (n := 3) (rc := 10) (a := a0) (as := [.int a1, .int (1 : Int32)]) ⟨rfl, rfl⟩ rfl rfl (Nat.le_of_ble_eq_true rfl) (Nat.le_of_ble_eq_true rfl) (Nat.le_of_ble_eq_true rfl) g1 rfl (t_180 e239) ?_
            refine en_aload rfl rfl ?_
            refine ec_iconst cst_7 rfl ?_
            obtain ⟨⟨q240, C241⟩, e242, h⟩ := gb h
            dsimp only at h
            refine ec_callV1 (k' := 171) (n := 2) (rc := 10) (a := a0) (as := [.int (7 : Int32)]) ⟨rfl, rfl⟩ rfl rfl (Nat.le_of_ble_eq_true rfl) (Nat.le_of_ble_eq_true rfl) (Nat.le_of_ble_eq_true rfl) g1 rfl (t_171 e242) ?_
            rcases gi h with ⟨c243, h⟩ | ⟨c243, h⟩
            · refine en_if_ne_t c243 rfl ?_
              refine en_aload rfl rfl ?_
              obtain ⟨⟨q244, C245⟩, e246, h⟩ := gb h
              dsimp only at h
              refine ec_callV0 (k' := 169) (n := 1) (rc := 10) (a := a0) (as := []) ⟨rfl, rfl⟩ rfl rfl (Nat.le_of_ble_eq_true rfl) (Nat.le_of_ble_eq_true rfl) (Nat.le_of_ble_eq_true rfl) g1 rfl (t_169 e246) ?_
              refine en_aload rfl rfl ?_
              refine en_iload rfl rfl ?_
              refine ec_iconst cst_1 rfl ?_
              obtain ⟨⟨q247, C248⟩, e249, h⟩ := gb h
              dsimp only at h
              refine ec_callV0 (k' := 181) (n := 3) (rc := 10) (a := a0) (as := [.int a1, .int (1 : Int32)]) ⟨rfl, rfl⟩ rfl rfl (Nat.le_of_ble_eq_true rfl) (Nat.le_of_ble_eq_true rfl) (Nat.le_of_ble_eq_true rfl) g1 rfl (t_181 e249) ?_
              cases h
              exact en_vret rfl
            · refine en_if_ne_f c243 rfl ?_
              cases h
              exact en_vret rfl
      · refine en_if_ne_f c140 rfl ?_
        cases h
        exact en_vret rfl
    · refine en_if_ne_f c136 rfl ?_
      refine en_aload rfl rfl ?_
      refine ec_iconst cst_10 rfl ?_
      obtain ⟨⟨q250, C251⟩, e252, h⟩ := gb h
      dsimp only at h
      refine ec_callV1 (k' := 171) (n := 2) (rc := 10) (a := a0) (as := [.int (10 : Int32)]) ⟨rfl, rfl⟩ rfl rfl (Nat.le_of_ble_eq_true rfl) (Nat.le_of_ble_eq_true rfl) (Nat.le_of_ble_eq_true rfl) g1 rfl (t_171 e252) ?_
      rcases gi h with ⟨c253, h⟩ | ⟨c253, h⟩
      · refine en_if_eq_t c253 rfl ?_
        refine ec_iconst cst_0 rfl ?_
        refine ec_iconst cst_1 rfl ?_
        obtain ⟨⟨q254, C255⟩, e256, h⟩ := gb h
        dsimp only at h
        refine ec_callV1 (k' := 170) (n := 3) (rc := 10) (a := a0) (as := [.int (0 : Int32), .int (1 : Int32)]) ⟨rfl, rfl⟩ rfl rfl (Nat.le_of_ble_eq_true rfl) (Nat.le_of_ble_eq_true rfl) (Nat.le_of_ble_eq_true rfl) g1 rfl (t_170 e256) ?_
        rcases gi h with ⟨c257, h⟩ | ⟨c257, h⟩
        · refine en_if_ne_t c257 rfl ?_
          refine en_aload rfl rfl ?_
          obtain ⟨r258, e259, h⟩ := gb h
          refine ec_getP (ci := 10) (j := 33) ⟨rfl, rfl, rfl⟩ g1 e259 rfl ?_
          refine en_iload rfl rfl ?_
          refine en_aload rfl rfl ?_
          refine ec_iconst cst_9 rfl ?_
          obtain ⟨⟨q260, C261⟩, e262, h⟩ := gb h
          dsimp only at h
          refine ec_callV1 (k' := 171) (n := 2) (rc := 10) (a := a0) (as := [.int (9 : Int32)]) ⟨rfl, rfl⟩ rfl rfl (Nat.le_of_ble_eq_true rfl) (Nat.le_of_ble_eq_true rfl) (Nat.le_of_ble_eq_true rfl) g1 rfl (t_171 e262) ?_
          rcases gi h with ⟨c263, h⟩ | ⟨c263, h⟩
          · refine en_if_eq_t c263 rfl ?_
            refine en_aload rfl rfl ?_
            refine ec_iconst cst_6 rfl ?_
            obtain ⟨⟨q264, C265⟩, e266, h⟩ := gb h
            dsimp only at h
            refine ec_callV1 (k' := 171) (n := 2) (rc := 10) (a := a0) (as := [.int (6 : Int32)]) ⟨rfl, rfl⟩ rfl rfl (Nat.le_of_ble_eq_true rfl) (Nat.le_of_ble_eq_true rfl) (Nat.le_of_ble_eq_true rfl) g1 rfl (t_171 e266) ?_
            rcases gi h with ⟨c267, h⟩ | ⟨c267, h⟩
            · refine en_if_eq_t c267 rfl ?_
              refine ec_iconst cst_2 rfl ?_
              obtain ⟨g268, h⟩ := gd h
              obtain ⟨g269, h⟩ := gd h
              refine ec_iastore g268 g269 rfl ?_
              refine en_aload rfl rfl ?_
              obtain ⟨⟨q270, C271⟩, e272, h⟩ := gb h
              dsimp only at h
              refine ec_callV0 (k' := 169) (n := 1) (rc := 10) (a := a0) (as := []) ⟨rfl, rfl⟩ rfl rfl (Nat.le_of_ble_eq_true rfl) (Nat.le_of_ble_eq_true rfl) (Nat.le_of_ble_eq_true rfl) g1 rfl (t_169 e272) ?_
              refine en_aload rfl rfl ?_
              obtain ⟨r273, e274, h⟩ := gb h
              refine ec_getP (ci := 10) (j := 33) ⟨rfl, rfl, rfl⟩ g1 e274 rfl ?_
              refine en_iload rfl rfl ?_
              obtain ⟨g275, h⟩ := gd h
              obtain ⟨g276, h⟩ := gd h
              refine ec_iaload g275 g276 rfl ?_
              rcases gi h with ⟨c277, h⟩ | ⟨c277, h⟩
              · refine en_if_ne_t c277 rfl ?_
                refine en_aload rfl rfl ?_
                refine ec_iconst cst_7 rfl ?_
                obtain ⟨⟨q278, C279⟩, e280, h⟩ := gb h
                dsimp only at h
                refine ec_callV1 (k' := 171) (n := 2) (rc := 10) (a := a0) (as := [.int (7 : Int32)]) ⟨rfl, rfl⟩ rfl rfl (Nat.le_of_ble_eq_true rfl) (Nat.le_of_ble_eq_true rfl) (Nat.le_of_ble_eq_true rfl) g1 rfl (t_171 e280) ?_
                rcases gi h with ⟨c281, h⟩ | ⟨c281, h⟩
                · refine en_if_ne_t c281 rfl ?_
                  refine en_aload rfl rfl ?_
                  obtain ⟨⟨q282, C283⟩, e284, h⟩ := gb h
                  dsimp only at h
                  refine ec_callV0 (k' := 169) (n := 1) (rc := 10) (a := a0) (as := []) ⟨rfl, rfl⟩ rfl rfl (Nat.le_of_ble_eq_true rfl) (Nat.le_of_ble_eq_true rfl) (Nat.le_of_ble_eq_true rfl) g1 rfl (t_169 e284) ?_
                  refine en_aload rfl rfl ?_
                  refine en_iload rfl rfl ?_
                  refine ec_iconst cst_1 rfl ?_
                  obtain ⟨⟨q285, C286⟩, e287, h⟩ := gb h
                  dsimp only at h
                  refine ec_callV0 (k' := 181) (n := 3) (rc := 10) (a := a0) (as := [.int a1, .int (1 : Int32)]) ⟨rfl, rfl⟩ rfl rfl (Nat.le_of_ble_eq_true rfl) (Nat.le_of_ble_eq_true rfl) (Nat.le_of_ble_eq_true rfl) g1 rfl (t_181 e287) ?_
                  cases h
                  exact en_vret rfl
                · refine en_if_ne_f c281 rfl ?_
                  cases h
                  exact en_vret rfl
              · refine en_if_ne_f c277 rfl ?_
                refine en_aload rfl rfl ?_
                refine en_iload rfl rfl ?_
                refine ec_iconst cst_1 rfl ?_
                obtain ⟨⟨q288, C289⟩, e290, h⟩ := gb h
                dsimp only at h
                refine ec_callV0 (k' := 180) (n := 3) (rc := 10) (a := a0) (as := [.int a1, .int (1 : Int32)]) ⟨rfl, rfl⟩ rfl rfl (Nat.le_of_ble_eq_true rfl) (Nat.le_of_ble_eq_true rfl) (Nat.le_of_ble_eq_true rfl) g1 rfl (t_180 e290) ?_
                refine en_aload rfl rfl ?_
                refine ec_iconst cst_7 rfl ?_
                obtain ⟨⟨q291, C292⟩, e293, h⟩ := gb h
                dsimp only at h
                refine ec_callV1 (k' := 171) (n := 2) (rc := 10) (a := a0) (as := [.int (7 : Int32)]) ⟨rfl, rfl⟩ rfl rfl (Nat.le_of_ble_eq_true rfl) (Nat.le_of_ble_eq_true rfl) (Nat.le_of_ble_eq_true rfl) g1 rfl (t_171 e293) ?_
                rcases gi h with ⟨c294, h⟩ | ⟨c294, h⟩
                · refine en_if_ne_t c294 rfl ?_
                  refine en_aload rfl rfl ?_
                  obtain ⟨⟨q295, C296⟩, e297, h⟩ := gb h
                  dsimp only at h
                  refine ec_callV0 (k' := 169) (n := 1) (rc := 10) (a := a0) (as := []) ⟨rfl, rfl⟩ rfl rfl (Nat.le_of_ble_eq_true rfl) (Nat.le_of_ble_eq_true rfl) (Nat.le_of_ble_eq_true rfl) g1 rfl (t_169 e297) ?_
                  refine en_aload rfl rfl ?_
                  refine en_iload rfl rfl ?_
                  refine ec_iconst cst_1 rfl ?_
                  obtain ⟨⟨q298, C299⟩, e300, h⟩ := gb h
                  dsimp only at h
                  refine ec_callV0 (k' := 181) (n := 3) (rc := 10) (a := a0) (as := [.int a1, .int (1 : Int32)]) ⟨rfl, rfl⟩ rfl rfl (Nat.le_of_ble_eq_true rfl) (Nat.le_of_ble_eq_true rfl) (Nat.le_of_ble_eq_true rfl) g1 rfl (t_181 e300) ?_
                  cases h
                  exact en_vret rfl
                · refine en_if_ne_f c294 rfl ?_
                  cases h
                  exact en_vret rfl
            · refine en_if_eq_f c267 rfl ?_
              refine ec_iconst cst_1 rfl ?_
              refine en_goto rfl ?_
              obtain ⟨g301, h⟩ := gd h
              obtain ⟨g302, h⟩ := gd h
              refine ec_iastore g301 g302 rfl ?_
              refine en_aload rfl rfl ?_
              obtain ⟨⟨q303, C304⟩, e305, h⟩ := gb h
              dsimp only at h
              refine ec_callV0 (k' := 169) (n := 1) (rc := 10) (a := a0) (as := []) ⟨rfl, rfl⟩ rfl rfl (Nat.le_of_ble_eq_true rfl) (Nat.le_of_ble_eq_true rfl) (Nat.le_of_ble_eq_true rfl) g1 rfl (t_169 e305) ?_
              refine en_aload rfl rfl ?_
              obtain ⟨r306, e307, h⟩ := gb h
              refine ec_getP (ci := 10) (j := 33) ⟨rfl, rfl, rfl⟩ g1 e307 rfl ?_
              refine en_iload rfl rfl ?_
              obtain ⟨g308, h⟩ := gd h
              obtain ⟨g309, h⟩ := gd h
              refine ec_iaload g308 g309 rfl ?_
              rcases gi h with ⟨c310, h⟩ | ⟨c310, h⟩
              · refine en_if_ne_t c310 rfl ?_
                refine en_aload rfl rfl ?_
                refine ec_iconst cst_7 rfl ?_
                obtain ⟨⟨q311, C312⟩, e313, h⟩ := gb h
                dsimp only at h
                refine ec_callV1 (k' := 171) (n := 2) (rc := 10) (a := a0) (as := [.int (7 : Int32)]) ⟨rfl, rfl⟩ rfl rfl (Nat.le_of_ble_eq_true rfl) (Nat.le_of_ble_eq_true rfl) (Nat.le_of_ble_eq_true rfl) g1 rfl (t_171 e313) ?_
                rcases gi h with ⟨c314, h⟩ | ⟨c314, h⟩
                · refine en_if_ne_t c314 rfl ?_
                  refine en_aload rfl rfl ?_
                  obtain ⟨⟨q315, C316⟩, e317, h⟩ := gb h
                  dsimp only at h
                  refine ec_callV0 (k' := 169) (n := 1) (rc := 10) (a := a0) (as := []) ⟨rfl, rfl⟩ rfl rfl (Nat.le_of_ble_eq_true rfl) (Nat.le_of_ble_eq_true rfl) (Nat.le_of_ble_eq_true rfl) g1 rfl (t_169 e317) ?_
                  refine en_aload rfl rfl ?_
                  refine en_iload rfl rfl ?_
                  refine ec_iconst cst_1 rfl ?_
                  obtain ⟨⟨q318, C319⟩, e320, h⟩ := gb h
                  dsimp only at h
                  refine ec_callV0 (k' := 181) (n := 3) (rc := 10) (a := a0) (as := [.int a1, .int (1 : Int32)]) ⟨rfl, rfl⟩ rfl rfl (Nat.le_of_ble_eq_true rfl) (Nat.le_of_ble_eq_true rfl) (Nat.le_of_ble_eq_true rfl) g1 rfl (t_181 e320) ?_
                  cases h
                  exact en_vret rfl
                · refine en_if_ne_f c314 rfl ?_
                  cases h
                  exact en_vret rfl
              · refine en_if_ne_f c310 rfl ?_
                refine en_aload rfl rfl ?_
                refine en_iload rfl rfl ?_
                refine ec_iconst cst_1 rfl ?_
                obtain ⟨⟨q321, C322⟩, e323, h⟩ := gb h
                dsimp only at h
                refine ec_callV0 (k' := 180) (n := 3) (rc := 10) (a := a0) (as := [.int a1, .int (1 : Int32)]) ⟨rfl, rfl⟩ rfl rfl (Nat.le_of_ble_eq_true rfl) (Nat.le_of_ble_eq_true rfl) (Nat.le_of_ble_eq_true rfl) g1 rfl (t_180 e323) ?_
                refine en_aload rfl rfl ?_
                refine ec_iconst cst_7 rfl ?_
                obtain ⟨⟨q324, C325⟩, e326, h⟩ := gb h
                dsimp only at h
                refine ec_callV1 (k' := 171) (n := 2) (rc := 10) (a := a0) (as := [.int (7 : Int32)]) ⟨rfl, rfl⟩ rfl rfl (Nat.le_of_ble_eq_true rfl) (Nat.le_of_ble_eq_true rfl) (Nat.le_of_ble_eq_true rfl) g1 rfl (t_171 e326) ?_
                rcases gi h with ⟨c327, h⟩ | ⟨c327, h⟩
                · refine en_if_ne_t c327 rfl ?_
                  refine en_aload rfl rfl ?_
                  obtain ⟨⟨q328, C329⟩, e330, h⟩ := gb h
                  dsimp only at h
                  refine ec_callV0 (k' := 169) (n := 1) (rc := 10) (a := a0) (as := []) ⟨rfl, rfl⟩ rfl rfl (Nat.le_of_ble_eq_true rfl) (Nat.le_of_ble_eq_true rfl) (Nat.le_of_ble_eq_true rfl) g1 rfl (t_169 e330) ?_
                  refine en_aload rfl rfl ?_
                  refine en_iload rfl rfl ?_
                  refine ec_iconst cst_1 rfl ?_
                  obtain ⟨⟨q331, C332⟩, e333, h⟩ := gb h
                  dsimp only at h
                  refine ec_callV0 (k' := 181) (n := 3) (rc := 10) (a := a0) (as := [.int a1, .int (1 : Int32)]) ⟨rfl, rfl⟩ rfl rfl (Nat.le_of_ble_eq_true rfl) (Nat.le_of_ble_eq_true rfl) (Nat.le_of_ble_eq_true rfl) g1 rfl (t_181 e333) ?_
                  cases h
                  exact en_vret rfl
                · refine en_if_ne_f c327 rfl ?_
                  cases h
                  exact en_vret rfl
          · refine en_if_eq_f c263 rfl ?_
            refine ec_iconst cst_0 rfl ?_
            refine en_goto rfl ?_
            obtain ⟨g334, h⟩ := gd h
            obtain ⟨g335, h⟩ := gd h
            refine ec_iastore g334 g335 rfl ?_
            refine en_aload rfl rfl ?_
            obtain ⟨⟨q336, C337⟩, e338, h⟩ := gb h
            dsimp only at h
            refine ec_callV0 (k' := 169) (n := 1) (rc := 10) (a := a0) (as := []) ⟨rfl, rfl⟩ rfl rfl (Nat.le_of_ble_eq_true rfl) (Nat.le_of_ble_eq_true rfl) (Nat.le_of_ble_eq_true rfl) g1 rfl (t_169 e338) ?_
            refine en_aload rfl rfl ?_
            obtain ⟨r339, e340, h⟩ := gb h
            refine ec_getP (ci := 10) (j := 33) ⟨rfl, rfl, rfl⟩ g1 e340 rfl ?_
            refine en_iload rfl rfl ?_
            obtain ⟨g341, h⟩ := gd h
            obtain ⟨g342, h⟩ := gd h
            refine ec_iaload g341 g342 rfl ?_
            rcases gi h with ⟨c343, h⟩ | ⟨c343, h⟩
            · refine en_if_ne_t c343 rfl ?_
              refine en_aload rfl rfl ?_
              refine ec_iconst cst_7 rfl ?_
              obtain ⟨⟨q344, C345⟩, e346, h⟩ := gb h
              dsimp only at h
              refine ec_callV1 (k' := 171) (n := 2) (rc := 10) (a := a0) (as := [.int (7 : Int32)]) ⟨rfl, rfl⟩ rfl rfl (Nat.le_of_ble_eq_true rfl) (Nat.le_of_ble_eq_true rfl) (Nat.le_of_ble_eq_true rfl) g1 rfl (t_171 e346) ?_
              rcases gi h with ⟨c347, h⟩ | ⟨c347, h⟩
              · refine en_if_ne_t c347 rfl ?_
                refine en_aload rfl rfl ?_
                obtain ⟨⟨q348, C349⟩, e350, h⟩ := gb h
                dsimp only at h
                refine ec_callV0 (k' := 169) (n := 1) (rc := 10) (a := a0) (as := []) ⟨rfl, rfl⟩ rfl rfl (Nat.le_of_ble_eq_true rfl) (Nat.le_of_ble_eq_true rfl) (Nat.le_of_ble_eq_true rfl) g1 rfl (t_169 e350) ?_
                refine en_aload rfl rfl ?_
                refine en_iload rfl rfl ?_
                refine ec_iconst cst_1 rfl ?_
                obtain ⟨⟨q351, C352⟩, e353, h⟩ := gb h
                dsimp only at h
                refine ec_callV0 (k' := 181) (n := 3) (rc := 10) (a := a0) (as := [.int a1, .int (1 : Int32)]) ⟨rfl, rfl⟩ rfl rfl (Nat.le_of_ble_eq_true rfl) (Nat.le_of_ble_eq_true rfl) (Nat.le_of_ble_eq_true rfl) g1 rfl (t_181 e353) ?_
                cases h
                exact en_vret rfl
              · refine en_if_ne_f c347 rfl ?_
                cases h
                exact en_vret rfl
            · refine en_if_ne_f c343 rfl ?_
              refine en_aload rfl rfl ?_
              refine en_iload rfl rfl ?_
              refine ec_iconst cst_1 rfl ?_
              obtain ⟨⟨q354, C355⟩, e356, h⟩ := gb h
              dsimp only at h
              refine ec_callV0 (k' := 180) (n := 3) (rc := 10) (a := a0) (as := [.int a1, .int (1 : Int32)]) ⟨rfl, rfl⟩ rfl rfl (Nat.le_of_ble_eq_true rfl) (Nat.le_of_ble_eq_true rfl) (Nat.le_of_ble_eq_true rfl) g1 rfl (t_180 e356) ?_
              refine en_aload rfl rfl ?_
              refine ec_iconst cst_7 rfl ?_
              obtain ⟨⟨q357, C358⟩, e359, h⟩ := gb h
              dsimp only at h
              refine ec_callV1 (k' := 171) (n := 2) (rc := 10) (a := a0) (as := [.int (7 : Int32)]) ⟨rfl, rfl⟩ rfl rfl (Nat.le_of_ble_eq_true rfl) (Nat.le_of_ble_eq_true rfl) (Nat.le_of_ble_eq_true rfl) g1 rfl (t_171 e359) ?_
              rcases gi h with ⟨c360, h⟩ | ⟨c360, h⟩
              · refine en_if_ne_t c360 rfl ?_
                refine en_aload rfl rfl ?_
                obtain ⟨⟨q361, C362⟩, e363, h⟩ := gb h
                dsimp only at h
                refine ec_callV0 (k' := 169) (n := 1) (rc := 10) (a := a0) (as := []) ⟨rfl, rfl⟩ rfl rfl (Nat.le_of_ble_eq_true rfl) (Nat.le_of_ble_eq_true rfl) (Nat.le_of_ble_eq_true rfl) g1 rfl (t_169 e363) ?_
                refine en_aload rfl rfl ?_
                refine en_iload rfl rfl ?_
                refine ec_iconst cst_1 rfl ?_
                obtain ⟨⟨q364, C365⟩, e366, h⟩ := gb h
                dsimp only at h
                refine ec_callV0 (k' := 181) (n := 3) (rc := 10) (a := a0) (as := [.int a1, .int (1 : Int32)]) ⟨rfl, rfl⟩ rfl rfl (Nat.le_of_ble_eq_true rfl) (Nat.le_of_ble_eq_true rfl) (Nat.le_of_ble_eq_true rfl) g1 rfl (t_181 e366) ?_
                cases h
                exact en_vret rfl
              · refine en_if_ne_f c360 rfl ?_
                cases h
                exact en_vret rfl
        · refine en_if_ne_f c257 rfl ?_
          cases h
          exact en_vret rfl
      · refine en_if_eq_f c253 rfl ?_
        refine ec_iconst cst_1 rfl ?_
        refine en_goto rfl ?_
        refine ec_iconst cst_1 rfl ?_
        obtain ⟨⟨q367, C368⟩, e369, h⟩ := gb h
        dsimp only at h
        refine ec_callV1 (k' := 170) (n := 3) (rc := 10) (a := a0) (as := [.int (1 : Int32), .int (1 : Int32)]) ⟨rfl, rfl⟩ rfl rfl (Nat.le_of_ble_eq_true rfl) (Nat.le_of_ble_eq_true rfl) (Nat.le_of_ble_eq_true rfl) g1 rfl (t_170 e369) ?_
        rcases gi h with ⟨c370, h⟩ | ⟨c370, h⟩
        · refine en_if_ne_t c370 rfl ?_
          refine en_aload rfl rfl ?_
          obtain ⟨r371, e372, h⟩ := gb h
          refine ec_getP (ci := 10) (j := 33) ⟨rfl, rfl, rfl⟩ g1 e372 rfl ?_
          refine en_iload rfl rfl ?_
          refine en_aload rfl rfl ?_
          refine ec_iconst cst_9 rfl ?_
          obtain ⟨⟨q373, C374⟩, e375, h⟩ := gb h
          dsimp only at h
          refine ec_callV1 (k' := 171) (n := 2) (rc := 10) (a := a0) (as := [.int (9 : Int32)]) ⟨rfl, rfl⟩ rfl rfl (Nat.le_of_ble_eq_true rfl) (Nat.le_of_ble_eq_true rfl) (Nat.le_of_ble_eq_true rfl) g1 rfl (t_171 e375) ?_
          rcases gi h with ⟨c376, h⟩ | ⟨c376, h⟩
          · refine en_if_eq_t c376 rfl ?_
            refine en_aload rfl rfl ?_
            refine ec_iconst cst_6 rfl ?_
            obtain ⟨⟨q377, C378⟩, e379, h⟩ := gb h
            dsimp only at h
            refine ec_callV1 (k' := 171) (n := 2) (rc := 10) (a := a0) (as := [.int (6 : Int32)]) ⟨rfl, rfl⟩ rfl rfl (Nat.le_of_ble_eq_true rfl) (Nat.le_of_ble_eq_true rfl) (Nat.le_of_ble_eq_true rfl) g1 rfl (t_171 e379) ?_
            rcases gi h with ⟨c380, h⟩ | ⟨c380, h⟩
            · refine en_if_eq_t c380 rfl ?_
              refine ec_iconst cst_2 rfl ?_
              obtain ⟨g381, h⟩ := gd h
              obtain ⟨g382, h⟩ := gd h
              refine ec_iastore g381 g382 rfl ?_
              refine en_aload rfl rfl ?_
              obtain ⟨⟨q383, C384⟩, e385, h⟩ := gb h
              dsimp only at h
              refine ec_callV0 (k' := 169) (n := 1) (rc := 10) (a := a0) (as := []) ⟨rfl, rfl⟩ rfl rfl (Nat.le_of_ble_eq_true rfl) (Nat.le_of_ble_eq_true rfl) (Nat.le_of_ble_eq_true rfl) g1 rfl (t_169 e385) ?_
              refine en_aload rfl rfl ?_
              obtain ⟨r386, e387, h⟩ := gb h
              refine ec_getP (ci := 10) (j := 33) ⟨rfl, rfl, rfl⟩ g1 e387 rfl ?_
              refine en_iload rfl rfl ?_
              obtain ⟨g388, h⟩ := gd h
              obtain ⟨g389, h⟩ := gd h
              refine ec_iaload g388 g389 rfl ?_
              rcases gi h with ⟨c390, h⟩ | ⟨c390, h⟩
              · refine en_if_ne_t c390 rfl ?_
                refine en_aload rfl rfl ?_
                refine ec_iconst cst_7 rfl ?_
                obtain ⟨⟨q391, C392⟩, e393, h⟩ := gb h
                dsimp only at h
                refine ec_callV1 (k' := 171) (n := 2) (rc := 10) (a := a0) (as := [.int (7 : Int32)]) ⟨rfl, rfl⟩ rfl rfl (Nat.le_of_ble_eq_true rfl) (Nat.le_of_ble_eq_true rfl) (Nat.le_of_ble_eq_true rfl) g1 rfl (t_171 e393) ?_
                rcases gi h with ⟨c394, h⟩ | ⟨c394, h⟩
                · refine en_if_ne_t c394 rfl ?_
                  refine en_aload rfl rfl ?_
                  obtain ⟨⟨q395, C396⟩, e397, h⟩ := gb h
                  dsimp only at h
                  refine ec_callV0 (k' := 169) (n := 1) (rc := 10) (a := a0) (as := []) ⟨rfl, rfl⟩ rfl rfl (Nat.le_of_ble_eq_true rfl) (Nat.le_of_ble_eq_true rfl) (Nat.le_of_ble_eq_true rfl) g1 rfl (t_169 e397) ?_
                  refine en_aload rfl rfl ?_
                  refine en_iload rfl rfl ?_
                  refine ec_iconst cst_1 rfl ?_
                  obtain ⟨⟨q398, C399⟩, e400, h⟩ := gb h
                  dsimp only at h
                  refine ec_callV0 (k' := 181) (n := 3) (rc := 10) (a := a0) (as := [.int a1, .int (1 : Int32)]) ⟨rfl, rfl⟩ rfl rfl (Nat.le_of_ble_eq_true rfl) (Nat.le_of_ble_eq_true rfl) (Nat.le_of_ble_eq_true rfl) g1 rfl (t_181 e400) ?_
                  cases h
                  exact en_vret rfl
                · refine en_if_ne_f c394 rfl ?_
                  cases h
                  exact en_vret rfl
              · refine en_if_ne_f c390 rfl ?_
                refine en_aload rfl rfl ?_
                refine en_iload rfl rfl ?_
                refine ec_iconst cst_1 rfl ?_
                obtain ⟨⟨q401, C402⟩, e403, h⟩ := gb h
                dsimp only at h
                refine ec_callV0 (k' := 180) (n := 3) (rc := 10) (a := a0) (as := [.int a1, .int (1 : Int32)]) ⟨rfl, rfl⟩ rfl rfl (Nat.le_of_ble_eq_true rfl) (Nat.le_of_ble_eq_true rfl) (Nat.le_of_ble_eq_true rfl) g1 rfl (t_180 e403) ?_
                refine en_aload rfl rfl ?_
                refine ec_iconst cst_7 rfl ?_
                obtain ⟨⟨q404, C405⟩, e406, h⟩ := gb h
                dsimp only at h
                refine ec_callV1 (k' := 171) (n := 2) (rc := 10) (a := a0) (as := [.int (7 : Int32)]) ⟨rfl, rfl⟩ rfl rfl (Nat.le_of_ble_eq_true rfl) (Nat.le_of_ble_eq_true rfl) (Nat.le_of_ble_eq_true rfl) g1 rfl (t_171 e406) ?_
                rcases gi h with ⟨c407, h⟩ | ⟨c407, h⟩
                · refine en_if_ne_t c407 rfl ?_
                  refine en_aload rfl rfl ?_
                  obtain ⟨⟨q408, C409⟩, e410, h⟩ := gb h
                  dsimp only at h
                  refine ec_callV0 (k' := 169) (n := 1) (rc := 10) (a := a0) (as := []) ⟨rfl, rfl⟩ rfl rfl (Nat.le_of_ble_eq_true rfl) (Nat.le_of_ble_eq_true rfl) (Nat.le_of_ble_eq_true rfl) g1 rfl (t_169 e410) ?_
                  refine en_aload rfl rfl ?_
                  refine en_iload rfl rfl ?_
                  refine ec_iconst cst_1 rfl ?_
                  obtain ⟨⟨q411, C412⟩, e413, h⟩ := gb h
                  dsimp only at h
                  refine ec_callV0 (k' := 181) (n := 3) (rc := 10) (a := a0) (as := [.int a1, .int (1 : Int32)]) ⟨rfl, rfl⟩ rfl rfl (Nat.le_of_ble_eq_true rfl) (Nat.le_of_ble_eq_true rfl) (Nat.le_of_ble_eq_true rfl) g1 rfl (t_181 e413) ?_
                  cases h
                  exact en_vret rfl
                · refine en_if_ne_f c407 rfl ?_
                  cases h
                  exact en_vret rfl
            · refine en_if_eq_f c380 rfl ?_
              refine ec_iconst cst_1 rfl ?_
              refine en_goto rfl ?_
              obtain ⟨g414, h⟩ := gd h
              obtain ⟨g415, h⟩ := gd h
              refine ec_iastore g414 g415 rfl ?_
              refine en_aload rfl rfl ?_
              obtain ⟨⟨q416, C417⟩, e418, h⟩ := gb h
              dsimp only at h
              refine ec_callV0 (k' := 169) (n := 1) (rc := 10) (a := a0) (as := []) ⟨rfl, rfl⟩ rfl rfl (Nat.le_of_ble_eq_true rfl) (Nat.le_of_ble_eq_true rfl) (Nat.le_of_ble_eq_true rfl) g1 rfl (t_169 e418) ?_
              refine en_aload rfl rfl ?_
              obtain ⟨r419, e420, h⟩ := gb h
              refine ec_getP (ci := 10) (j := 33) ⟨rfl, rfl, rfl⟩ g1 e420 rfl ?_
              refine en_iload rfl rfl ?_
              obtain ⟨g421, h⟩ := gd h
              obtain ⟨g422, h⟩ := gd h
              refine ec_iaload g421 g422 rfl ?_
              rcases gi h with ⟨c423, h⟩ | ⟨c423, h⟩
              · refine en_if_ne_t c423 rfl ?_
                refine en_aload rfl rfl ?_
                refine ec_iconst cst_7 rfl ?_
                obtain ⟨⟨q424, C425⟩, e426, h⟩ := gb h
                dsimp only at h
                refine ec_callV1 (k' := 171) (n := 2) (rc := 10) (a := a0) (as := [.int (7 : Int32)]) ⟨rfl, rfl⟩ rfl rfl (Nat.le_of_ble_eq_true rfl) (Nat.le_of_ble_eq_true rfl) (Nat.le_of_ble_eq_true rfl) g1 rfl (t_171 e426) ?_
                rcases gi h with ⟨c427, h⟩ | ⟨c427, h⟩
                · refine en_if_ne_t c427 rfl ?_
                  refine en_aload rfl rfl ?_
                  obtain ⟨⟨q428, C429⟩, e430, h⟩ := gb h
                  dsimp only at h
                  refine ec_callV0 (k' := 169) (n := 1) (rc := 10) (a := a0) (as := []) ⟨rfl, rfl⟩ rfl rfl (Nat.le_of_ble_eq_true rfl) (Nat.le_of_ble_eq_true rfl) (Nat.le_of_ble_eq_true rfl) g1 rfl (t_169 e430) ?_
                  refine en_aload rfl rfl ?_
                  refine en_iload rfl rfl ?_
                  refine ec_iconst cst_1 rfl ?_
                  obtain ⟨⟨q431, C432⟩, e433, h⟩ := gb h
                  dsimp only at h
                  refine ec_callV0 (k' := 181) (n := 3) (rc := 10) (a := a0) (as := [.int a1, .int (1 : Int32)]) ⟨rfl, rfl⟩ rfl rfl (Nat.le_of_ble_eq_true rfl) (Nat.le_of_ble_eq_true rfl) (Nat.le_of_ble_eq_true rfl) g1 rfl (t_181 e433) ?_
                  cases h
                  exact en_vret rfl
                · refine en_if_ne_f c427 rfl ?_
                  cases h
                  exact en_vret rfl
              · refine en_if_ne_f c423 rfl ?_
                refine en_aload rfl rfl ?_
                refine en_iload rfl rfl ?_
                refine ec_iconst cst_1 rfl ?_
                obtain ⟨⟨q434, C435⟩, e436, h⟩ := gb h
                dsimp only at h
                refine ec_callV0 (k' := 180) (n := 3) (rc := 10) (a := a0) (as := [.int a1, .int (1 : Int32)]) ⟨rfl, rfl⟩ rfl rfl (Nat.le_of_ble_eq_true rfl) (Nat.le_of_ble_eq_true rfl) (Nat.le_of_ble_eq_true rfl) g1 rfl (t_180 e436) ?_
                refine en_aload rfl rfl ?_
                refine ec_iconst cst_7 rfl ?_
                obtain ⟨⟨q437, C438⟩, e439, h⟩ := gb h
                dsimp only at h
                refine ec_callV1 (k' := 171) (n := 2) (rc := 10) (a := a0) (as := [.int (7 : Int32)]) ⟨rfl, rfl⟩ rfl rfl (Nat.le_of_ble_eq_true rfl) (Nat.le_of_ble_eq_true rfl) (Nat.le_of_ble_eq_true rfl) g1 rfl (t_171 e439) ?_
                rcases gi h with ⟨c440, h⟩ | ⟨c440, h⟩
                · refine en_if_ne_t c440 rfl ?_
                  refine en_aload rfl rfl ?_
                  obtain ⟨⟨q441, C442⟩, e443, h⟩ := gb h
                  dsimp only at h
                  refine ec_callV0 (k' := 169) (n := 1) (rc := 10) (a := a0) (as := []) ⟨rfl, rfl⟩ rfl rfl (Nat.le_of_ble_eq_true rfl) (Nat.le_of_ble_eq_true rfl) (Nat.le_of_ble_eq_true rfl) g1 rfl (t_169 e443) ?_
                  refine en_aload rfl rfl ?_
                  refine en_iload rfl rfl ?_
                  refine ec_iconst cst_1 rfl ?_
                  obtain ⟨⟨q444, C445⟩, e446, h⟩ := gb h
                  dsimp only at h
                  refine ec_callV0 (k' := 181) (n := 3) (rc := 10) (a := a0) (as := [.int a1, .int (1 : Int32)]) ⟨rfl, rfl⟩ rfl rfl (Nat.le_of_ble_eq_true rfl) (Nat.le_of_ble_eq_true rfl) (Nat.le_of_ble_eq_true rfl) g1 rfl (t_181 e446) ?_
                  cases h
                  exact en_vret rfl
                · refine en_if_ne_f c440 rfl ?_
                  cases h
                  exact en_vret rfl
          · refine en_if_eq_f c376 rfl ?_
            refine ec_iconst cst_0 rfl ?_
            refine en_goto rfl ?_
            obtain ⟨g447, h⟩ := gd h
            obtain ⟨g448, h⟩ := gd h
            refine ec_iastore g447 g448 rfl ?_
            refine en_aload rfl rfl ?_
            obtain ⟨⟨q449, C450⟩, e451, h⟩ := gb h
            dsimp only at h
            refine ec_callV0 (k' := 169) (n := 1) (rc := 10) (a := a0) (as := []) ⟨rfl, rfl⟩ rfl rfl (Nat.le_of_ble_eq_true rfl) (Nat.le_of_ble_eq_true rfl) (Nat.le_of_ble_eq_true rfl) g1 rfl (t_169 e451) ?_
            refine en_aload rfl rfl ?_
            obtain ⟨r452, e453, h⟩ := gb h
            refine ec_getP (ci := 10) (j := 33) ⟨rfl, rfl, rfl⟩ g1 e453 rfl ?_
            refine en_iload rfl rfl ?_
            obtain ⟨g454, h⟩ := gd h
            obtain ⟨g455, h⟩ := gd h
            refine ec_iaload g454 g455 rfl ?_
            rcases gi h with ⟨c456, h⟩ | ⟨c456, h⟩
            · refine en_if_ne_t c456 rfl ?_
              refine en_aload rfl rfl ?_
              refine ec_iconst cst_7 rfl ?_
              obtain ⟨⟨q457, C458⟩, e459, h⟩ := gb h
              dsimp only at h
              refine ec_callV1 (k' := 171) (n := 2) (rc := 10) (a := a0) (as := [.int (7 : Int32)]) ⟨rfl, rfl⟩ rfl rfl (Nat.le_of_ble_eq_true rfl) (Nat.le_of_ble_eq_true rfl) (Nat.le_of_ble_eq_true rfl) g1 rfl (t_171 e459) ?_
              rcases gi h with ⟨c460, h⟩ | ⟨c460, h⟩
              · refine en_if_ne_t c460 rfl ?_
                refine en_aload rfl rfl ?_
                obtain ⟨⟨q461, C462⟩, e463, h⟩ := gb h
                dsimp only at h
                refine ec_callV0 (k' := 169) (n := 1) (rc := 10) (a := a0) (as := []) ⟨rfl, rfl⟩ rfl rfl (Nat.le_of_ble_eq_true rfl) (Nat.le_of_ble_eq_true rfl) (Nat.le_of_ble_eq_true rfl) g1 rfl (t_169 e463) ?_
                refine en_aload rfl rfl ?_
                refine en_iload rfl rfl ?_
                refine ec_iconst cst_1 rfl ?_
                obtain ⟨⟨q464, C465⟩, e466, h⟩ := gb h
                dsimp only at h
                refine ec_callV0 (k' := 181) (n := 3) (rc := 10) (a := a0) (as := [.int a1, .int (1 : Int32)]) ⟨rfl, rfl⟩ rfl rfl (Nat.le_of_ble_eq_true rfl) (Nat.le_of_ble_eq_true rfl) (Nat.le_of_ble_eq_true rfl) g1 rfl (t_181 e466) ?_
                cases h
                exact en_vret rfl
              · refine en_if_ne_f c460 rfl ?_
                cases h
                exact en_vret rfl
            · refine en_if_ne_f c456 rfl ?_
              refine en_aload rfl rfl ?_
              refine en_iload rfl rfl ?_
              refine ec_iconst cst_1 rfl ?_
              obtain ⟨⟨q467, C468⟩, e469, h⟩ := gb h
              dsimp only at h
              refine ec_callV0 (k' := 180) (n := 3) (rc := 10) (a := a0) (as := [.int a1, .int (1 : Int32)]) ⟨rfl, rfl⟩ rfl rfl (Nat.le_of_ble_eq_true rfl) (Nat.le_of_ble_eq_true rfl) (Nat.le_of_ble_eq_true rfl) g1 rfl (t_180 e469) ?_
              refine en_aload rfl rfl ?_
              refine ec_iconst cst_7 rfl ?_
              obtain ⟨⟨q470, C471⟩, e472, h⟩ := gb h
              dsimp only at h
              refine ec_callV1 (k' := 171) (n := 2) (rc := 10) (a := a0) (as := [.int (7 : Int32)]) ⟨rfl, rfl⟩ rfl rfl (Nat.le_of_ble_eq_true rfl) (Nat.le_of_ble_eq_true rfl) (Nat.le_of_ble_eq_true rfl) g1 rfl (t_171 e472) ?_
              rcases gi h with ⟨c473, h⟩ | ⟨c473, h⟩
              · refine en_if_ne_t c473 rfl ?_
                refine en_aload rfl rfl ?_
                obtain ⟨⟨q474, C475⟩, e476, h⟩ := gb h
                dsimp only at h
                refine ec_callV0 (k' := 169) (n := 1) (rc := 10) (a := a0) (as := []) ⟨rfl, rfl⟩ rfl rfl (Nat.le_of_ble_eq_true rfl) (Nat.le_of_ble_eq_true rfl) (Nat.le_of_ble_eq_true rfl) g1 rfl (t_169 e476) ?_
                refine en_aload rfl rfl ?_
                refine en_iload rfl rfl ?_
                refine ec_iconst cst_1 rfl ?_
                obtain ⟨⟨q477, C478⟩, e479, h⟩ := gb h
                dsimp only at h
                refine ec_callV0 (k' := 181) (n := 3) (rc := 10) (a := a0) (as := [.int a1, .int (1 : Int32)]) ⟨rfl, rfl⟩ rfl rfl (Nat.le_of_ble_eq_true rfl) (Nat.le_of_ble_eq_true rfl) (Nat.le_of_ble_eq_true rfl) g1 rfl (t_181 e479) ?_
                cases h
                exact en_vret rfl
              · refine en_if_ne_f c473 rfl ?_
                cases h
                exact en_vret rfl
        · refine en_if_ne_f c370 rfl ?_
          cases h
          exact en_vret rfl
def lp_183_60 : Nat → Nat → Int32 → Int32 → AmC → Option (((Nat × Int32)) × AmC)
  | 0, _, _, _, _ => none
  | n + 1, p0, p1, p2, C => (if (4 : Int32) ≤ p2 then some ((p0, p1), C) else if isK p0 10 = true then (cP C p0 38).bind (fun r37 => if isK r37 12 = true then if amIn (((4 : Int32) * p1) + p2) (aLen r37) = true then (cP (uI C r37 (Int32.toNatClampNeg (((4 : Int32) * p1) + p2)) (-1 : Int32)) p0 39).bind (fun r41 => if isK r41 12 = true then if amIn (((4 : Int32) * p1) + p2) (aLen r41) = true then lp_183_60 n p0 p1 (p2 + (1 : Int32)) (uI (uI C r37 (Int32.toNatClampNeg (((4 : Int32) * p1) + p2)) (-1 : Int32)) r41 (Int32.toNatClampNeg (((4 : Int32) * p1) + p2)) (-1 : Int32)) else none else none) else none else none) else none)
set_option maxRecDepth 20000 in
set_option maxHeartbeats 4000000 in
theorem lt_183_60 : ∀ (n : Nat) (p0 : Nat) (p1 : Int32) (p2 : Int32) (C : AmC) (r : ((Nat × Int32)) × AmC), lp_183_60 n p0 p1 p2 C = some r → ∀ (o : AmO) (M' : AmM), (match r with
        | ((w0, w1), C') => En false 183 83 [(0, .ref w0), (1, .int w1)] [] (mkM C') o M') → En false 183 60 [(0, .ref p0), (1, .int p1), (2, .int p2)] [] (mkM C) o M' := by
  intro n
  induction n with
  | zero => intro p0 p1 p2 C r h; cases h
  | succ n ih =>
    intro p0 p1 p2 C r h o M' hk
    unfold lp_183_60 at h
    refine en_iload rfl rfl ?_
    refine ec_iconst cst_4 rfl ?_
    rcases gi h with ⟨c35, h⟩ | ⟨c35, h⟩
    · refine en_icmp_ge_t c35 rfl ?_
      cases h
      exact en_sub [0, 1] rfl rfl hk
    · refine en_icmp_ge_f c35 rfl ?_
      refine en_aload rfl rfl ?_
      obtain ⟨g36, h⟩ := gd h
      obtain ⟨r37, e38, h⟩ := gb h
      refine ec_getP (ci := 10) (j := 38) ⟨rfl, rfl, rfl⟩ g36 e38 rfl ?_
      refine ec_iconst cst_4 rfl ?_
      refine en_iload rfl rfl ?_
      refine en_imul rfl ?_
      refine en_iload rfl rfl ?_
      refine en_iadd rfl ?_
      refine ec_iconst cst_m1 rfl ?_
      obtain ⟨g39, h⟩ := gd h
      obtain ⟨g40, h⟩ := gd h
      refine ec_iastore g39 g40 rfl ?_
      refine en_aload rfl rfl ?_
      obtain ⟨r41, e42, h⟩ := gb h
      refine ec_getP (ci := 10) (j := 39) ⟨rfl, rfl, rfl⟩ g36 e42 rfl ?_
      refine ec_iconst cst_4 rfl ?_
      refine en_iload rfl rfl ?_
      refine en_imul rfl ?_
      refine en_iload rfl rfl ?_
      refine en_iadd rfl ?_
      refine ec_iconst cst_m1 rfl ?_
      obtain ⟨g43, h⟩ := gd h
      obtain ⟨g44, h⟩ := gd h
      refine ec_iastore g43 g44 rfl ?_
      refine ec_iinc (l' := [(2, .int (p2 + (1 : Int32))), (0, .ref p0), (1, .int p1)]) rfl cst_1 rfl rfl ?_
      refine en_goto rfl ?_
      refine en_sub [1, 2, 0] rfl rfl ?_
      exact ih _ _ _ _ _ h o M' hk
/-- BulkWriterModel.statement()V -/
def f_183 (n : Nat) (a0 : Nat) (C : AmC) : Option (Unit × AmC) := if isK a0 10 = true then (cP C a0 25).bind (fun r2 => if isK r2 12 = true then if amIn (cI C a0 41) (aLen r2) = true then (if (8 : Int32) ≤ (cI C r2 (Int32.toNatClampNeg (cI C a0 41))) then (f_170 n a0 (0 : Int32) (2 : Int32) C).bind (fun z => match z with | (q7, C8) => (if ¬ q7 = 0 then (cP C8 a0 25).bind (fun r11 => if isK r11 12 = true then if amIn (cI C8 a0 41) (aLen r11) = true then (cP C8 a0 32).bind (fun r15 => if isK r15 12 = true then if amIn (((8 : Int32) * (cI C8 a0 41)) + (cI C8 r11 (Int32.toNatClampNeg (cI C8 a0 41)))) (aLen r15) = true then (cP (uI C8 r15 (Int32.toNatClampNeg (((8 : Int32) * (cI C8 a0 41)) + (cI C8 r11 (Int32.toNatClampNeg (cI C8 a0 41))))) ((cI C8 a0 50) - (5 : Int32))) a0 36).bind (fun r19 => (cP (uI C8 r15 (Int32.toNatClampNeg (((8 : Int32) * (cI C8 a0 41)) + (cI C8 r11 (Int32.toNatClampNeg (cI C8 a0 41))))) ((cI C8 a0 50) - (5 : Int32))) a0 28).bind (fun r21 => if isK r21 12 = true then if amIn (cI (uI C8 r15 (Int32.toNatClampNeg (((8 : Int32) * (cI C8 a0 41)) + (cI C8 r11 (Int32.toNatClampNeg (cI C8 a0 41))))) ((cI C8 a0 50) - (5 : Int32))) a0 41) (aLen r21) = true then if isK r19 12 = true then if amIn (((8 : Int32) * (cI C8 a0 41)) + (cI C8 r11 (Int32.toNatClampNeg (cI C8 a0 41)))) (aLen r19) = true then (cP (uI (uI C8 r15 (Int32.toNatClampNeg (((8 : Int32) * (cI C8 a0 41)) + (cI C8 r11 (Int32.toNatClampNeg (cI C8 a0 41))))) ((cI C8 a0 50) - (5 : Int32))) r19 (Int32.toNatClampNeg (((8 : Int32) * (cI C8 a0 41)) + (cI C8 r11 (Int32.toNatClampNeg (cI C8 a0 41))))) (((160 : Int32) * (cI (uI C8 r15 (Int32.toNatClampNeg (((8 : Int32) * (cI C8 a0 41)) + (cI C8 r11 (Int32.toNatClampNeg (cI C8 a0 41))))) ((cI C8 a0 50) - (5 : Int32))) a0 41)) + (cI (uI C8 r15 (Int32.toNatClampNeg (((8 : Int32) * (cI C8 a0 41)) + (cI C8 r11 (Int32.toNatClampNeg (cI C8 a0 41))))) ((cI C8 a0 50) - (5 : Int32))) r21 (Int32.toNatClampNeg (cI (uI C8 r15 (Int32.toNatClampNeg (((8 : Int32) * (cI C8 a0 41)) + (cI C8 r11 (Int32.toNatClampNeg (cI C8 a0 41))))) ((cI C8 a0 50) - (5 : Int32))) a0 41))))) a0 37).bind (fun r27 => if isK r27 12 = true then if amIn (((8 : Int32) * (cI C8 a0 41)) + (cI C8 r11 (Int32.toNatClampNeg (cI C8 a0 41)))) (aLen r27) = true then (cP (uI (uI (uI C8 r15 (Int32.toNatClampNeg (((8 : Int32) * (cI C8 a0 41)) + (cI C8 r11 (Int32.toNatClampNeg (cI C8 a0 41))))) ((cI C8 a0 50) - (5 : Int32))) r19 (Int32.toNatClampNeg (((8 : Int32) * (cI C8 a0 41)) + (cI C8 r11 (Int32.toNatClampNeg (cI C8 a0 41))))) (((160 : Int32) * (cI (uI C8 r15 (Int32.toNatClampNeg (((8 : Int32) * (cI C8 a0 41)) + (cI C8 r11 (Int32.toNatClampNeg (cI C8 a0 41))))) ((cI C8 a0 50) - (5 : Int32))) a0 41)) + (cI (uI C8 r15 (Int32.toNatClampNeg (((8 : Int32) * (cI C8 a0 41)) + (cI C8 r11 (Int32.toNatClampNeg (cI C8 a0 41))))) ((cI C8 a0 50) - (5 : Int32))) r21 (Int32.toNatClampNeg (cI (uI C8 r15 (Int32.toNatClampNeg (((8 : Int32) * (cI C8 a0 41)) + (cI C8 r11 (Int32.toNatClampNeg (cI C8 a0 41))))) ((cI C8 a0 50) - (5 : Int32))) a0 41))))) r27 (Int32.toNatClampNeg (((8 : Int32) * (cI C8 a0 41)) + (cI C8 r11 (Int32.toNatClampNeg (cI C8 a0 41))))) (0 : Int32)) a0 33).bind (fun r31 => if isK r31 12 = true then if amIn (((8 : Int32) * (cI C8 a0 41)) + (cI C8 r11 (Int32.toNatClampNeg (cI C8 a0 41)))) (aLen r31) = true then (lp_183_60 n a0 (((8 : Int32) * (cI C8 a0 41)) + (cI C8 r11 (Int32.toNatClampNeg (cI C8 a0 41)))) (0 : Int32) (uI (uI (uI (uI C8 r15 (Int32.toNatClampNeg (((8 : Int32) * (cI C8 a0 41)) + (cI C8 r11 (Int32.toNatClampNeg (cI C8 a0 41))))) ((cI C8 a0 50) - (5 : Int32))) r19 (Int32.toNatClampNeg (((8 : Int32) * (cI C8 a0 41)) + (cI C8 r11 (Int32.toNatClampNeg (cI C8 a0 41))))) (((160 : Int32) * (cI (uI C8 r15 (Int32.toNatClampNeg (((8 : Int32) * (cI C8 a0 41)) + (cI C8 r11 (Int32.toNatClampNeg (cI C8 a0 41))))) ((cI C8 a0 50) - (5 : Int32))) a0 41)) + (cI (uI C8 r15 (Int32.toNatClampNeg (((8 : Int32) * (cI C8 a0 41)) + (cI C8 r11 (Int32.toNatClampNeg (cI C8 a0 41))))) ((cI C8 a0 50) - (5 : Int32))) r21 (Int32.toNatClampNeg (cI (uI C8 r15 (Int32.toNatClampNeg (((8 : Int32) * (cI C8 a0 41)) + (cI C8 r11 (Int32.toNatClampNeg (cI C8 a0 41))))) ((cI C8 a0 50) - (5 : Int32))) a0 41))))) r27 (Int32.toNatClampNeg (((8 : Int32) * (cI C8 a0 41)) + (cI C8 r11 (Int32.toNatClampNeg (cI C8 a0 41))))) (0 : Int32)) r31 (Int32.toNatClampNeg (((8 : Int32) * (cI C8 a0 41)) + (cI C8 r11 (Int32.toNatClampNeg (cI C8 a0 41))))) (0 : Int32))).bind (fun q => match q with | ((u48, u49), C47) => if isK u48 10 = true then (cP C47 u48 25).bind (fun r51 => if isK r51 12 = true then if amIn (cI C47 u48 41) (aLen r51) = true then if amIn (cI C47 u48 41) (aLen r51) = true then (f_169 n u48 (uI C47 r51 (Int32.toNatClampNeg (cI C47 u48 41)) ((cI C47 r51 (Int32.toNatClampNeg (cI C47 u48 41))) + (1 : Int32)))).bind (fun z => match z with | (_, C57) => (cP C57 u48 32).bind (fun r59 => if isK r59 12 = true then if amIn u49 (aLen r59) = true then (if ¬ (cI C57 r59 (Int32.toNatClampNeg u49)) = (3 : Int32) then (cP C57 u48 32).bind (fun r64 => if isK r64 12 = true then if amIn u49 (aLen r64) = true then (if ¬ (cI C57 r64 (Int32.toNatClampNeg u49)) = 0 then (cP C57 u48 32).bind (fun r69 => if isK r69 12 = true then if amIn u49 (aLen r69) = true then (if ¬ (cI C57 r69 (Int32.toNatClampNeg u49)) = (2 : Int32) then (f_182 n u48 u49 C57).bind (fun z => match z with | (_, C75) => some ((), C75)) else (f_181 n u48 u49 (0 : Int32) C57).bind (fun z => match z with | (_, C78) => (f_182 n u48 u49 C78).bind (fun z => match z with | (_, C81) => some ((), C81)))) else none else none) else (f_180 n u48 u49 (0 : Int32) C57).bind (fun z => match z with | (_, C84) => (cP C84 u48 32).bind (fun r86 => if isK r86 12 = true then if amIn u49 (aLen r86) = true then (if ¬ (cI C84 r86 (Int32.toNatClampNeg u49)) = (2 : Int32) then (f_182 n u48 u49 C84).bind (fun z => match z with | (_, C92) => some ((), C92)) else (f_181 n u48 u49 (0 : Int32) C84).bind (fun z => match z with | (_, C95) => (f_182 n u48 u49 C95).bind (fun z => match z with | (_, C98) => some ((), C98)))) else none else none))) else none else none) else (f_184 n u48 u49 C57).bind (fun z => match z with | (_, C101) => some ((), C101))) else none else none)) else none else none else none) else none) else none else none) else none else none) else none else none else none else none)) else none else none) else none else none) else some ((), C8))) else (f_170 n a0 (1 : Int32) (2 : Int32) C).bind (fun z => match z with | (q103, C104) => (if ¬ q103 = 0 then (cP C104 a0 25).bind (fun r107 => if isK r107 12 = true then if amIn (cI C104 a0 41) (aLen r107) = true then (cP C104 a0 32).bind (fun r111 => if isK r111 12 = true then if amIn (((8 : Int32) * (cI C104 a0 41)) + (cI C104 r107 (Int32.toNatClampNeg (cI C104 a0 41)))) (aLen r111) = true then (cP (uI C104 r111 (Int32.toNatClampNeg (((8 : Int32) * (cI C104 a0 41)) + (cI C104 r107 (Int32.toNatClampNeg (cI C104 a0 41))))) ((cI C104 a0 50) - (5 : Int32))) a0 36).bind (fun r115 => (cP (uI C104 r111 (Int32.toNatClampNeg (((8 : Int32) * (cI C104 a0 41)) + (cI C104 r107 (Int32.toNatClampNeg (cI C104 a0 41))))) ((cI C104 a0 50) - (5 : Int32))) a0 28).bind (fun r117 => if isK r117 12 = true then if amIn (cI (uI C104 r111 (Int32.toNatClampNeg (((8 : Int32) * (cI C104 a0 41)) + (cI C104 r107 (Int32.toNatClampNeg (cI C104 a0 41))))) ((cI C104 a0 50) - (5 : Int32))) a0 41) (aLen r117) = true then if isK r115 12 = true then if amIn (((8 : Int32) * (cI C104 a0 41)) + (cI C104 r107 (Int32.toNatClampNeg (cI C104 a0 41)))) (aLen r115) = true then (cP (uI (uI C104 r111 (Int32.toNatClampNeg (((8 : Int32) * (cI C104 a0 41)) + (cI C104 r107 (Int32.toNatClampNeg (cI C104 a0 41))))) ((cI C104 a0 50) - (5 : Int32))) r115 (Int32.toNatClampNeg (((8 : Int32) * (cI C104 a0 41)) + (cI C104 r107 (Int32.toNatClampNeg (cI C104 a0 41))))) (((160 : Int32) * (cI (uI C104 r111 (Int32.toNatClampNeg (((8 : Int32) * (cI C104 a0 41)) + (cI C104 r107 (Int32.toNatClampNeg (cI C104 a0 41))))) ((cI C104 a0 50) - (5 : Int32))) a0 41)) + (cI (uI C104 r111 (Int32.toNatClampNeg (((8 : Int32) * (cI C104 a0 41)) + (cI C104 r107 (Int32.toNatClampNeg (cI C104 a0 41))))) ((cI C104 a0 50) - (5 : Int32))) r117 (Int32.toNatClampNeg (cI (uI C104 r111 (Int32.toNatClampNeg (((8 : Int32) * (cI C104 a0 41)) + (cI C104 r107 (Int32.toNatClampNeg (cI C104 a0 41))))) ((cI C104 a0 50) - (5 : Int32))) a0 41))))) a0 37).bind (fun r123 => if isK r123 12 = true then if amIn (((8 : Int32) * (cI C104 a0 41)) + (cI C104 r107 (Int32.toNatClampNeg (cI C104 a0 41)))) (aLen r123) = true then (cP (uI (uI (uI C104 r111 (Int32.toNatClampNeg (((8 : Int32) * (cI C104 a0 41)) + (cI C104 r107 (Int32.toNatClampNeg (cI C104 a0 41))))) ((cI C104 a0 50) - (5 : Int32))) r115 (Int32.toNatClampNeg (((8 : Int32) * (cI C104 a0 41)) + (cI C104 r107 (Int32.toNatClampNeg (cI C104 a0 41))))) (((160 : Int32) * (cI (uI C104 r111 (Int32.toNatClampNeg (((8 : Int32) * (cI C104 a0 41)) + (cI C104 r107 (Int32.toNatClampNeg (cI C104 a0 41))))) ((cI C104 a0 50) - (5 : Int32))) a0 41)) + (cI (uI C104 r111 (Int32.toNatClampNeg (((8 : Int32) * (cI C104 a0 41)) + (cI C104 r107 (Int32.toNatClampNeg (cI C104 a0 41))))) ((cI C104 a0 50) - (5 : Int32))) r117 (Int32.toNatClampNeg (cI (uI C104 r111 (Int32.toNatClampNeg (((8 : Int32) * (cI C104 a0 41)) + (cI C104 r107 (Int32.toNatClampNeg (cI C104 a0 41))))) ((cI C104 a0 50) - (5 : Int32))) a0 41))))) r123 (Int32.toNatClampNeg (((8 : Int32) * (cI C104 a0 41)) + (cI C104 r107 (Int32.toNatClampNeg (cI C104 a0 41))))) (0 : Int32)) a0 33).bind (fun r127 => if isK r127 12 = true then if amIn (((8 : Int32) * (cI C104 a0 41)) + (cI C104 r107 (Int32.toNatClampNeg (cI C104 a0 41)))) (aLen r127) = true then (lp_183_60 n a0 (((8 : Int32) * (cI C104 a0 41)) + (cI C104 r107 (Int32.toNatClampNeg (cI C104 a0 41)))) (0 : Int32) (uI (uI (uI (uI C104 r111 (Int32.toNatClampNeg (((8 : Int32) * (cI C104 a0 41)) + (cI C104 r107 (Int32.toNatClampNeg (cI C104 a0 41))))) ((cI C104 a0 50) - (5 : Int32))) r115 (Int32.toNatClampNeg (((8 : Int32) * (cI C104 a0 41)) + (cI C104 r107 (Int32.toNatClampNeg (cI C104 a0 41))))) (((160 : Int32) * (cI (uI C104 r111 (Int32.toNatClampNeg (((8 : Int32) * (cI C104 a0 41)) + (cI C104 r107 (Int32.toNatClampNeg (cI C104 a0 41))))) ((cI C104 a0 50) - (5 : Int32))) a0 41)) + (cI (uI C104 r111 (Int32.toNatClampNeg (((8 : Int32) * (cI C104 a0 41)) + (cI C104 r107 (Int32.toNatClampNeg (cI C104 a0 41))))) ((cI C104 a0 50) - (5 : Int32))) r117 (Int32.toNatClampNeg (cI (uI C104 r111 (Int32.toNatClampNeg (((8 : Int32) * (cI C104 a0 41)) + (cI C104 r107 (Int32.toNatClampNeg (cI C104 a0 41))))) ((cI C104 a0 50) - (5 : Int32))) a0 41))))) r123 (Int32.toNatClampNeg (((8 : Int32) * (cI C104 a0 41)) + (cI C104 r107 (Int32.toNatClampNeg (cI C104 a0 41))))) (0 : Int32)) r127 (Int32.toNatClampNeg (((8 : Int32) * (cI C104 a0 41)) + (cI C104 r107 (Int32.toNatClampNeg (cI C104 a0 41))))) (0 : Int32))).bind (fun q => match q with | ((u134, u135), C133) => if isK u134 10 = true then (cP C133 u134 25).bind (fun r137 => if isK r137 12 = true then if amIn (cI C133 u134 41) (aLen r137) = true then if amIn (cI C133 u134 41) (aLen r137) = true then (f_169 n u134 (uI C133 r137 (Int32.toNatClampNeg (cI C133 u134 41)) ((cI C133 r137 (Int32.toNatClampNeg (cI C133 u134 41))) + (1 : Int32)))).bind (fun z => match z with | (_, C143) => (cP C143 u134 32).bind (fun r145 => if isK r145 12 = true then if amIn u135 (aLen r145) = true then (if ¬ (cI C143 r145 (Int32.toNatClampNeg u135)) = (3 : Int32) then (cP C143 u134 32).bind (fun r150 => if isK r150 12 = true then if amIn u135 (aLen r150) = true then (if ¬ (cI C143 r150 (Int32.toNatClampNeg u135)) = 0 then (cP C143 u134 32).bind (fun r155 => if isK r155 12 = true then if amIn u135 (aLen r155) = true then (if ¬ (cI C143 r155 (Int32.toNatClampNeg u135)) = (2 : Int32) then (f_182 n u134 u135 C143).bind (fun z => match z with | (_, C161) => some ((), C161)) else (f_181 n u134 u135 (0 : Int32) C143).bind (fun z => match z with | (_, C164) => (f_182 n u134 u135 C164).bind (fun z => match z with | (_, C167) => some ((), C167)))) else none else none) else (f_180 n u134 u135 (0 : Int32) C143).bind (fun z => match z with | (_, C170) => (cP C170 u134 32).bind (fun r172 => if isK r172 12 = true then if amIn u135 (aLen r172) = true then (if ¬ (cI C170 r172 (Int32.toNatClampNeg u135)) = (2 : Int32) then (f_182 n u134 u135 C170).bind (fun z => match z with | (_, C178) => some ((), C178)) else (f_181 n u134 u135 (0 : Int32) C170).bind (fun z => match z with | (_, C181) => (f_182 n u134 u135 C181).bind (fun z => match z with | (_, C184) => some ((), C184)))) else none else none))) else none else none) else (f_184 n u134 u135 C143).bind (fun z => match z with | (_, C187) => some ((), C187))) else none else none)) else none else none else none) else none) else none else none) else none else none) else none else none else none else none)) else none else none) else none else none) else some ((), C104)))) else none else none) else none
set_option maxRecDepth 20000 in
set_option maxHeartbeats 4000000 in
theorem t_183 {n : Nat} {a0 : Nat} {C : AmC} {r : Unit} {C' : AmC} (h : f_183 n a0 C = some (r, C')) : En false 183 0 [(0, .ref a0)] [] (mkM C) (.inl none) (mkM C') := by
  unfold f_183 at h
  refine en_aload rfl rfl ?_
  refine en_aload rfl rfl ?_
  obtain ⟨g1, h⟩ := gd h
  obtain ⟨r2, e3, h⟩ := gb h
  refine ec_getP (ci := 10) (j := 25) ⟨rfl, rfl, rfl⟩ g1 e3 rfl ?_
  refine en_aload rfl rfl ?_
  refine ec_getI (ci := 10) (j := 41) ⟨rfl, rfl, rfl⟩ g1 rfl ?_
  obtain ⟨g4, h⟩ := gd h
  obtain ⟨g5, h⟩ := gd h
  refine ec_iaload g4 g5 rfl ?_
  refine ec_iconst cst_8 rfl ?_
  rcases gi h with ⟨c6, h⟩ | ⟨c6, h⟩
  · refine en_icmp_ge_t c6 rfl ?_
    refine ec_iconst cst_0 rfl ?_
    refine ec_iconst cst_2 rfl ?_
    obtain ⟨⟨q7, C8⟩, e9, h⟩ := gb h
    dsimp only at h
    refine ec_callV1 (k' := 170) (n := 3) (rc := 10) (a := a0) (as := [.int (0 : Int32), .int (2 : Int32)]) ⟨rfl, rfl⟩ rfl rfl (Nat.le_of_ble_eq_true rfl) (Nat.le_of_ble_eq_true rfl) (Nat.le_of_ble_eq_true rfl) g1 rfl (t_170 e9) ?_
    rcases gi h with ⟨c10, h⟩ | ⟨c10, h⟩
    · refine en_if_ne_t c10 rfl ?_
      refine ec_iconst cst_8 rfl ?_
      refine en_aload rfl rfl ?_
      refine ec_getI (ci := 10) (j := 41) ⟨rfl, rfl, rfl⟩ g1 rfl ?_
      refine en_imul rfl ?_
      refine en_aload rfl rfl ?_
      obtain ⟨r11, e12, h⟩ := gb h
      refine ec_getP (ci := 10) (j := 25) ⟨rfl, rfl, rfl⟩ g1 e12 rfl ?_
      refine en_aload rfl rfl ?_
      refine ec_getI (ci := 10) (j := 41) ⟨rfl, rfl, rfl⟩ g1 rfl ?_
      obtain ⟨g13, h⟩ := gd h
      obtain ⟨g14, h⟩ := gd h
      refine ec_iaload g13 g14 rfl ?_
      refine en_iadd rfl ?_
      refine en_istore (l' := [(1, .int (((8 : Int32) * (cI C8 a0 41)) + (cI C8 r11 (Int32.toNatClampNeg (cI C8 a0 41))))), (0, .ref a0)]) rfl rfl ?_
      refine en_aload rfl rfl ?_
      obtain ⟨r15, e16, h⟩ := gb h
      refine ec_getP (ci := 10) (j := 32) ⟨rfl, rfl, rfl⟩ g1 e16 rfl ?_
      refine en_iload rfl rfl ?_
      refine en_aload rfl rfl ?_
      refine ec_getI (ci := 10) (j := 50) ⟨rfl, rfl, rfl⟩ g1 rfl ?_
      refine ec_iconst cst_5 rfl ?_
      refine en_isub rfl ?_
      obtain ⟨g17, h⟩ := gd h
      obtain ⟨g18, h⟩ := gd h
      refine ec_iastore g17 g18 rfl ?_
      refine en_aload rfl rfl ?_
      obtain ⟨r19, e20, h⟩ := gb h
      refine ec_getP (ci := 10) (j := 36) ⟨rfl, rfl, rfl⟩ g1 e20 rfl ?_
      refine en_iload rfl rfl ?_
      refine ec_iconst cst_160 rfl ?_
      refine en_aload rfl rfl ?_
      refine ec_getI (ci := 10) (j := 41) ⟨rfl, rfl, rfl⟩ g1 rfl ?_
      refine en_imul rfl ?_
      refine en_aload rfl rfl ?_
      obtain ⟨r21, e22, h⟩ := gb h
      refine ec_getP (ci := 10) (j := 28) ⟨rfl, rfl, rfl⟩ g1 e22 rfl ?_
      refine en_aload rfl rfl ?_
      refine ec_getI (ci := 10) (j := 41) ⟨rfl, rfl, rfl⟩ g1 rfl ?_
      obtain ⟨g23, h⟩ := gd h
      obtain ⟨g24, h⟩ := gd h
      refine ec_iaload g23 g24 rfl ?_
      refine en_iadd rfl ?_
      obtain ⟨g25, h⟩ := gd h
      obtain ⟨g26, h⟩ := gd h
      refine ec_iastore g25 g26 rfl ?_
      refine en_aload rfl rfl ?_
      obtain ⟨r27, e28, h⟩ := gb h
      refine ec_getP (ci := 10) (j := 37) ⟨rfl, rfl, rfl⟩ g1 e28 rfl ?_
      refine en_iload rfl rfl ?_
      refine ec_iconst cst_0 rfl ?_
      obtain ⟨g29, h⟩ := gd h
      obtain ⟨g30, h⟩ := gd h
      refine ec_iastore g29 g30 rfl ?_
      refine en_aload rfl rfl ?_
      obtain ⟨r31, e32, h⟩ := gb h
      refine ec_getP (ci := 10) (j := 33) ⟨rfl, rfl, rfl⟩ g1 e32 rfl ?_
      refine en_iload rfl rfl ?_
      refine ec_iconst cst_0 rfl ?_
      obtain ⟨g33, h⟩ := gd h
      obtain ⟨g34, h⟩ := gd h
      refine ec_iastore g33 g34 rfl ?_
      refine ec_iconst cst_0 rfl ?_
      refine en_istore (l' := [(2, .int (0 : Int32)), (1, .int (((8 : Int32) * (cI C8 a0 41)) + (cI C8 r11 (Int32.toNatClampNeg (cI C8 a0 41))))), (0, .ref a0)]) rfl rfl ?_
      obtain ⟨⟨q45, C47⟩, e46, h⟩ := gb h
      refine en_sub [2, 1, 0] rfl rfl (lt_183_60 n _ _ _ _ _ e46 _ _ ?_)
      obtain ⟨u48, u49⟩ := q45
      dsimp only at h ⊢
      refine en_aload rfl rfl ?_
      obtain ⟨g50, h⟩ := gd h
      obtain ⟨r51, e52, h⟩ := gb h
      refine ec_getP (ci := 10) (j := 25) ⟨rfl, rfl, rfl⟩ g50 e52 rfl ?_
      refine en_aload rfl rfl ?_
      refine ec_getI (ci := 10) (j := 41) ⟨rfl, rfl, rfl⟩ g50 rfl ?_
      refine en_dup2 ⟨rfl, rfl⟩ rfl ?_
      obtain ⟨g53, h⟩ := gd h
      obtain ⟨g54, h⟩ := gd h
      refine ec_iaload g53 g54 rfl ?_
      refine ec_iconst cst_1 rfl ?_
      refine en_iadd rfl ?_
      obtain ⟨g55, h⟩ := gd h
      refine ec_iastore g53 g55 rfl ?_
      refine en_aload rfl rfl ?_
      obtain ⟨⟨q56, C57⟩, e58, h⟩ := gb h
      dsimp only at h
      refine ec_callV0 (k' := 169) (n := 1) (rc := 10) (a := u48) (as := []) ⟨rfl, rfl⟩ rfl rfl (Nat.le_of_ble_eq_true rfl) (Nat.le_of_ble_eq_true rfl) (Nat.le_of_ble_eq_true rfl) g50 rfl (t_169 e58) ?_
      refine en_aload rfl rfl ?_
      obtain ⟨r59, e60, h⟩ := gb h
      refine ec_getP (ci := 10) (j := 32) ⟨rfl, rfl, rfl⟩ g50 e60 rfl ?_
      refine en_iload rfl rfl ?_
      obtain ⟨g61, h⟩ := gd h
      obtain ⟨g62, h⟩ := gd h
      refine ec_iaload g61 g62 rfl ?_
      refine ec_iconst cst_3 rfl ?_
      rcases gi h with ⟨c63, h⟩ | ⟨c63, h⟩
      · refine en_icmp_ne_t c63 rfl ?_
        refine en_aload rfl rfl ?_
        obtain ⟨r64, e65, h⟩ := gb h
        refine ec_getP (ci := 10) (j := 32) ⟨rfl, rfl, rfl⟩ g50 e65 rfl ?_
        refine en_iload rfl rfl ?_
        obtain ⟨g66, h⟩ := gd h
        obtain ⟨g67, h⟩ := gd h
        refine ec_iaload g66 g67 rfl ?_
        rcases gi h with ⟨c68, h⟩ | ⟨c68, h⟩
        · refine en_if_ne_t c68 rfl ?_
          refine en_aload rfl rfl ?_
          obtain ⟨r69, e70, h⟩ := gb h
          refine ec_getP (ci := 10) (j := 32) ⟨rfl, rfl, rfl⟩ g50 e70 rfl ?_
          refine en_iload rfl rfl ?_
          obtain ⟨g71, h⟩ := gd h
          obtain ⟨g72, h⟩ := gd h
          refine ec_iaload g71 g72 rfl ?_
          refine ec_iconst cst_2 rfl ?_
          rcases gi h with ⟨c73, h⟩ | ⟨c73, h⟩
          · refine en_icmp_ne_t c73 rfl ?_
            refine en_aload rfl rfl ?_
            refine en_iload rfl rfl ?_
            obtain ⟨⟨q74, C75⟩, e76, h⟩ := gb h
            dsimp only at h
            refine ec_callV0 (k' := 182) (n := 2) (rc := 10) (a := u48) (as := [.int u49]) ⟨rfl, rfl⟩ rfl rfl (Nat.le_of_ble_eq_true rfl) (Nat.le_of_ble_eq_true rfl) (Nat.le_of_ble_eq_true rfl) g50 rfl (t_182 e76) ?_
            cases h
            exact en_vret rfl
          · refine en_icmp_ne_f c73 rfl ?_
            refine en_aload rfl rfl ?_
            refine en_iload rfl rfl ?_
            refine ec_iconst cst_0 rfl ?_
            obtain ⟨⟨q77, C78⟩, e79, h⟩ := gb h
            dsimp only at h
            refine ec_callV0 (k' := 181) (n := 3) (rc := 10) (a := u48) (as := [.int u49, .int (0 : Int32)]) ⟨rfl, rfl⟩ rfl rfl (Nat.le_of_ble_eq_true rfl) (Nat.le_of_ble_eq_true rfl) (Nat.le_of_ble_eq_true rfl) g50 rfl (t_181 e79) ?_
            refine en_aload rfl rfl ?_
            refine en_iload rfl rfl ?_
            obtain ⟨⟨q80, C81⟩, e82, h⟩ := gb h
            dsimp only at h
            refine ec_callV0 (k' := 182) (n := 2) (rc := 10) (a := u48) (as := [.int u49]) ⟨rfl, rfl⟩ rfl rfl (Nat.le_of_ble_eq_true rfl) (Nat.le_of_ble_eq_true rfl) (Nat.le_of_ble_eq_true rfl) g50 rfl (t_182 e82) ?_
            cases h
            exact en_vret rfl
        · refine en_if_ne_f c68 rfl ?_
          refine en_aload rfl rfl ?_
          refine en_iload rfl rfl ?_
          refine ec_iconst cst_0 rfl ?_
          obtain ⟨⟨q83, C84⟩, e85, h⟩ := gb h
          dsimp only at h
          refine ec_callV0 (k' := 180) (n := 3) (rc := 10) (a := u48) (as := [.int u49, .int (0 : Int32)]) ⟨rfl, rfl⟩ rfl rfl (Nat.le_of_ble_eq_true rfl) (Nat.le_of_ble_eq_true rfl) (Nat.le_of_ble_eq_true rfl) g50 rfl (t_180 e85) ?_
          refine en_aload rfl rfl ?_
          obtain ⟨r86, e87, h⟩ := gb h
          refine ec_getP (ci := 10) (j := 32) ⟨rfl, rfl, rfl⟩ g50 e87 rfl ?_
          refine en_iload rfl rfl ?_
          obtain ⟨g88, h⟩ := gd h
          obtain ⟨g89, h⟩ := gd h
          refine ec_iaload g88 g89 rfl ?_
          refine ec_iconst cst_2 rfl ?_
          rcases gi h with ⟨c90, h⟩ | ⟨c90, h⟩
          · refine en_icmp_ne_t c90 rfl ?_
            refine en_aload rfl rfl ?_
            refine en_iload rfl rfl ?_
            obtain ⟨⟨q91, C92⟩, e93, h⟩ := gb h
            dsimp only at h
            refine ec_callV0 (k' := 182) (n := 2) (rc := 10) (a := u48) (as := [.int u49]) ⟨rfl, rfl⟩ rfl rfl (Nat.le_of_ble_eq_true rfl) (Nat.le_of_ble_eq_true rfl) (Nat.le_of_ble_eq_true rfl) g50 rfl (t_182 e93) ?_
            cases h
            exact en_vret rfl
          · refine en_icmp_ne_f c90 rfl ?_
            refine en_aload rfl rfl ?_
            refine en_iload rfl rfl ?_
            refine ec_iconst cst_0 rfl ?_
            obtain ⟨⟨q94, C95⟩, e96, h⟩ := gb h
            dsimp only at h
            refine ec_callV0 (k' := 181) (n := 3) (rc := 10) (a := u48) (as := [.int u49, .int (0 : Int32)]) ⟨rfl, rfl⟩ rfl rfl (Nat.le_of_ble_eq_true rfl) (Nat.le_of_ble_eq_true rfl) (Nat.le_of_ble_eq_true rfl) g50 rfl (t_181 e96) ?_
            refine en_aload rfl rfl ?_
            refine en_iload rfl rfl ?_
            obtain ⟨⟨q97, C98⟩, e99, h⟩ := gb h
            dsimp only at h
            refine ec_callV0 (k' := 182) (n := 2) (rc := 10) (a := u48) (as := [.int u49]) ⟨rfl, rfl⟩ rfl rfl (Nat.le_of_ble_eq_true rfl) (Nat.le_of_ble_eq_true rfl) (Nat.le_of_ble_eq_true rfl) g50 rfl (t_182 e99) ?_
            cases h
            exact en_vret rfl
      · refine en_icmp_ne_f c63 rfl ?_
        refine en_aload rfl rfl ?_
        refine en_iload rfl rfl ?_
        obtain ⟨⟨q100, C101⟩, e102, h⟩ := gb h
        dsimp only at h
        refine ec_callV0 (k' := 184) (n := 2) (rc := 10) (a := u48) (as := [.int u49]) ⟨rfl, rfl⟩ rfl rfl (Nat.le_of_ble_eq_true rfl) (Nat.le_of_ble_eq_true rfl) (Nat.le_of_ble_eq_true rfl) g50 rfl (t_184 e102) ?_
        cases h
        exact en_vret rfl
    · refine en_if_ne_f c10 rfl ?_
      cases h
      exact en_vret rfl
  · refine en_icmp_ge_f c6 rfl ?_
    refine ec_iconst cst_1 rfl ?_
    refine en_goto rfl ?_
    refine ec_iconst cst_2 rfl ?_
    obtain ⟨⟨q103, C104⟩, e105, h⟩ := gb h
    dsimp only at h
    refine ec_callV1 (k' := 170) (n := 3) (rc := 10) (a := a0) (as := [.int (1 : Int32), .int (2 : Int32)]) ⟨rfl, rfl⟩ rfl rfl (Nat.le_of_ble_eq_true rfl) (Nat.le_of_ble_eq_true rfl) (Nat.le_of_ble_eq_true rfl) g1 rfl (t_170 e105) ?_
    rcases gi h with ⟨c106, h⟩ | ⟨c106, h⟩
    · refine en_if_ne_t c106 rfl ?_
      refine ec_iconst cst_8 rfl ?_
      refine en_aload rfl rfl ?_
      refine ec_getI (ci := 10) (j := 41) ⟨rfl, rfl, rfl⟩ g1 rfl ?_
      refine en_imul rfl ?_
      refine en_aload rfl rfl ?_
      obtain ⟨r107, e108, h⟩ := gb h
      refine ec_getP (ci := 10) (j := 25) ⟨rfl, rfl, rfl⟩ g1 e108 rfl ?_
      refine en_aload rfl rfl ?_
      refine ec_getI (ci := 10) (j := 41) ⟨rfl, rfl, rfl⟩ g1 rfl ?_
      obtain ⟨g109, h⟩ := gd h
      obtain ⟨g110, h⟩ := gd h
      refine ec_iaload g109 g110 rfl ?_
      refine en_iadd rfl ?_
      refine en_istore (l' := [(1, .int (((8 : Int32) * (cI C104 a0 41)) + (cI C104 r107 (Int32.toNatClampNeg (cI C104 a0 41))))), (0, .ref a0)]) rfl rfl ?_
      refine en_aload rfl rfl ?_
      obtain ⟨r111, e112, h⟩ := gb h
      refine ec_getP (ci := 10) (j := 32) ⟨rfl, rfl, rfl⟩ g1 e112 rfl ?_
      refine en_iload rfl rfl ?_
      refine en_aload rfl rfl ?_
      refine ec_getI (ci := 10) (j := 50) ⟨rfl, rfl, rfl⟩ g1 rfl ?_
      refine ec_iconst cst_5 rfl ?_
      refine en_isub rfl ?_
      obtain ⟨g113, h⟩ := gd h
      obtain ⟨g114, h⟩ := gd h
      refine ec_iastore g113 g114 rfl ?_
      refine en_aload rfl rfl ?_
      obtain ⟨r115, e116, h⟩ := gb h
      refine ec_getP (ci := 10) (j := 36) ⟨rfl, rfl, rfl⟩ g1 e116 rfl ?_
      refine en_iload rfl rfl ?_
      refine ec_iconst cst_160 rfl ?_
      refine en_aload rfl rfl ?_
      refine ec_getI (ci := 10) (j := 41) ⟨rfl, rfl, rfl⟩ g1 rfl ?_
      refine en_imul rfl ?_
      refine en_aload rfl rfl ?_
      obtain ⟨r117, e118, h⟩ := gb h
      refine ec_getP (ci := 10) (j := 28) ⟨rfl, rfl, rfl⟩ g1 e118 rfl ?_
      refine en_aload rfl rfl ?_
      refine ec_getI (ci := 10) (j := 41) ⟨rfl, rfl, rfl⟩ g1 rfl ?_
      obtain ⟨g119, h⟩ := gd h
      obtain ⟨g120, h⟩ := gd h
      refine ec_iaload g119 g120 rfl ?_
      refine en_iadd rfl ?_
      obtain ⟨g121, h⟩ := gd h
      obtain ⟨g122, h⟩ := gd h
      refine ec_iastore g121 g122 rfl ?_
      refine en_aload rfl rfl ?_
      obtain ⟨r123, e124, h⟩ := gb h
      refine ec_getP (ci := 10) (j := 37) ⟨rfl, rfl, rfl⟩ g1 e124 rfl ?_
      refine en_iload rfl rfl ?_
      refine ec_iconst cst_0 rfl ?_
      obtain ⟨g125, h⟩ := gd h
      obtain ⟨g126, h⟩ := gd h
      refine ec_iastore g125 g126 rfl ?_
      refine en_aload rfl rfl ?_
      obtain ⟨r127, e128, h⟩ := gb h
      refine ec_getP (ci := 10) (j := 33) ⟨rfl, rfl, rfl⟩ g1 e128 rfl ?_
      refine en_iload rfl rfl ?_
      refine ec_iconst cst_0 rfl ?_
      obtain ⟨g129, h⟩ := gd h
      obtain ⟨g130, h⟩ := gd h
      refine ec_iastore g129 g130 rfl ?_
      refine ec_iconst cst_0 rfl ?_
      refine en_istore (l' := [(2, .int (0 : Int32)), (1, .int (((8 : Int32) * (cI C104 a0 41)) + (cI C104 r107 (Int32.toNatClampNeg (cI C104 a0 41))))), (0, .ref a0)]) rfl rfl ?_
      obtain ⟨⟨q131, C133⟩, e132, h⟩ := gb h
      refine en_sub [2, 1, 0] rfl rfl (lt_183_60 n _ _ _ _ _ e132 _ _ ?_)
      obtain ⟨u134, u135⟩ := q131
      dsimp only at h ⊢
      refine en_aload rfl rfl ?_
      obtain ⟨g136, h⟩ := gd h
      obtain ⟨r137, e138, h⟩ := gb h
      refine ec_getP (ci := 10) (j := 25) ⟨rfl, rfl, rfl⟩ g136 e138 rfl ?_
      refine en_aload rfl rfl ?_
      refine ec_getI (ci := 10) (j := 41) ⟨rfl, rfl, rfl⟩ g136 rfl ?_
      refine en_dup2 ⟨rfl, rfl⟩ rfl ?_
      obtain ⟨g139, h⟩ := gd h
      obtain ⟨g140, h⟩ := gd h
      refine ec_iaload g139 g140 rfl ?_
      refine ec_iconst cst_1 rfl ?_
      refine en_iadd rfl ?_
      obtain ⟨g141, h⟩ := gd h
      refine ec_iastore g139 g141 rfl ?_
      refine en_aload rfl rfl ?_
      obtain ⟨⟨q142, C143⟩, e144, h⟩ := gb h
      dsimp only at h
      refine ec_callV0 (k' := 169) (n := 1) (rc := 10) (a := u134) (as := []) ⟨rfl, rfl⟩ rfl rfl (Nat.le_of_ble_eq_true rfl) (Nat.le_of_ble_eq_true rfl) (Nat.le_of_ble_eq_true rfl) g136 rfl (t_169 e144) ?_
      refine en_aload rfl rfl ?_
      obtain ⟨r145, e146, h⟩ := gb h
      refine ec_getP (ci := 10) (j := 32) ⟨rfl, rfl, rfl⟩ g136 e146 rfl ?_
      refine en_iload rfl rfl ?_
      obtain ⟨g147, h⟩ := gd h
      obtain ⟨g148, h⟩ := gd h
      refine ec_iaload g147 g148 rfl ?_
      refine ec_iconst cst_3 rfl ?_
      rcases gi h with ⟨c149, h⟩ | ⟨c149, h⟩
      · refine en_icmp_ne_t c149 rfl ?_
        refine en_aload rfl rfl ?_
        obtain ⟨r150, e151, h⟩ := gb h
        refine ec_getP (ci := 10) (j := 32) ⟨rfl, rfl, rfl⟩ g136 e151 rfl ?_
        refine en_iload rfl rfl ?_
        obtain ⟨g152, h⟩ := gd h
        obtain ⟨g153, h⟩ := gd h
        refine ec_iaload g152 g153 rfl ?_
        rcases gi h with ⟨c154, h⟩ | ⟨c154, h⟩
        · refine en_if_ne_t c154 rfl ?_
          refine en_aload rfl rfl ?_
          obtain ⟨r155, e156, h⟩ := gb h
          refine ec_getP (ci := 10) (j := 32) ⟨rfl, rfl, rfl⟩ g136 e156 rfl ?_
          refine en_iload rfl rfl ?_
          obtain ⟨g157, h⟩ := gd h
          obtain ⟨g158, h⟩ := gd h
          refine ec_iaload g157 g158 rfl ?_
          refine ec_iconst cst_2 rfl ?_
          rcases gi h with ⟨c159, h⟩ | ⟨c159, h⟩
          · refine en_icmp_ne_t c159 rfl ?_
            refine en_aload rfl rfl ?_
            refine en_iload rfl rfl ?_
            obtain ⟨⟨q160, C161⟩, e162, h⟩ := gb h
            dsimp only at h
            refine ec_callV0 (k' := 182) (n := 2) (rc := 10) (a := u134) (as := [.int u135]) ⟨rfl, rfl⟩ rfl rfl (Nat.le_of_ble_eq_true rfl) (Nat.le_of_ble_eq_true rfl) (Nat.le_of_ble_eq_true rfl) g136 rfl (t_182 e162) ?_
            cases h
            exact en_vret rfl
          · refine en_icmp_ne_f c159 rfl ?_
            refine en_aload rfl rfl ?_
            refine en_iload rfl rfl ?_
            refine ec_iconst cst_0 rfl ?_
            obtain ⟨⟨q163, C164⟩, e165, h⟩ := gb h
            dsimp only at h
            refine ec_callV0 (k' := 181) (n := 3) (rc := 10) (a := u134) (as := [.int u135, .int (0 : Int32)]) ⟨rfl, rfl⟩ rfl rfl (Nat.le_of_ble_eq_true rfl) (Nat.le_of_ble_eq_true rfl) (Nat.le_of_ble_eq_true rfl) g136 rfl (t_181 e165) ?_
            refine en_aload rfl rfl ?_
            refine en_iload rfl rfl ?_
            obtain ⟨⟨q166, C167⟩, e168, h⟩ := gb h
            dsimp only at h
            refine ec_callV0 (k' := 182) (n := 2) (rc := 10) (a := u134) (as := [.int u135]) ⟨rfl, rfl⟩ rfl rfl (Nat.le_of_ble_eq_true rfl) (Nat.le_of_ble_eq_true rfl) (Nat.le_of_ble_eq_true rfl) g136 rfl (t_182 e168) ?_
            cases h
            exact en_vret rfl
        · refine en_if_ne_f c154 rfl ?_
          refine en_aload rfl rfl ?_
          refine en_iload rfl rfl ?_
          refine ec_iconst cst_0 rfl ?_
          obtain ⟨⟨q169, C170⟩, e171, h⟩ := gb h
          dsimp only at h
          refine ec_callV0 (k' := 180) (n := 3) (rc := 10) (a := u134) (as := [.int u135, .int (0 : Int32)]) ⟨rfl, rfl⟩ rfl rfl (Nat.le_of_ble_eq_true rfl) (Nat.le_of_ble_eq_true rfl) (Nat.le_of_ble_eq_true rfl) g136 rfl (t_180 e171) ?_
          refine en_aload rfl rfl ?_
          obtain ⟨r172, e173, h⟩ := gb h
          refine ec_getP (ci := 10) (j := 32) ⟨rfl, rfl, rfl⟩ g136 e173 rfl ?_
          refine en_iload rfl rfl ?_
          obtain ⟨g174, h⟩ := gd h
          obtain ⟨g175, h⟩ := gd h
          refine ec_iaload g174 g175 rfl ?_
          refine ec_iconst cst_2 rfl ?_
          rcases gi h with ⟨c176, h⟩ | ⟨c176, h⟩
          · refine en_icmp_ne_t c176 rfl ?_
            refine en_aload rfl rfl ?_
            refine en_iload rfl rfl ?_
            obtain ⟨⟨q177, C178⟩, e179, h⟩ := gb h
            dsimp only at h
            refine ec_callV0 (k' := 182) (n := 2) (rc := 10) (a := u134) (as := [.int u135]) ⟨rfl, rfl⟩ rfl rfl (Nat.le_of_ble_eq_true rfl) (Nat.le_of_ble_eq_true rfl) (Nat.le_of_ble_eq_true rfl) g136 rfl (t_182 e179) ?_
            cases h
            exact en_vret rfl
          · refine en_icmp_ne_f c176 rfl ?_
            refine en_aload rfl rfl ?_
            refine en_iload rfl rfl ?_
            refine ec_iconst cst_0 rfl ?_
            obtain ⟨⟨q180, C181⟩, e182, h⟩ := gb h
            dsimp only at h
            refine ec_callV0 (k' := 181) (n := 3) (rc := 10) (a := u134) (as := [.int u135, .int (0 : Int32)]) ⟨rfl, rfl⟩ rfl rfl (Nat.le_of_ble_eq_true rfl) (Nat.le_of_ble_eq_true rfl) (Nat.le_of_ble_eq_true rfl) g136 rfl (t_181 e182) ?_
            refine en_aload rfl rfl ?_
            refine en_iload rfl rfl ?_
            obtain ⟨⟨q183, C184⟩, e185, h⟩ := gb h
            dsimp only at h
            refine ec_callV0 (k' := 182) (n := 2) (rc := 10) (a := u134) (as := [.int u135]) ⟨rfl, rfl⟩ rfl rfl (Nat.le_of_ble_eq_true rfl) (Nat.le_of_ble_eq_true rfl) (Nat.le_of_ble_eq_true rfl) g136 rfl (t_182 e185) ?_
            cases h
            exact en_vret rfl
      · refine en_icmp_ne_f c149 rfl ?_
        refine en_aload rfl rfl ?_
        refine en_iload rfl rfl ?_
        obtain ⟨⟨q186, C187⟩, e188, h⟩ := gb h
        dsimp only at h
        refine ec_callV0 (k' := 184) (n := 2) (rc := 10) (a := u134) (as := [.int u135]) ⟨rfl, rfl⟩ rfl rfl (Nat.le_of_ble_eq_true rfl) (Nat.le_of_ble_eq_true rfl) (Nat.le_of_ble_eq_true rfl) g136 rfl (t_184 e188) ?_
        cases h
        exact en_vret rfl
    · refine en_if_ne_f c106 rfl ?_
      cases h
      exact en_vret rfl
def lp_185_2 : Nat → Nat → Nat → Int32 → Int32 → AmC → Option (((Unit)) × AmC)
  | 0, _, _, _, _, _ => none
  | n + 1, p0, p1, p2, p3, C => if isK p0 10 = true then (cP C p0 21).bind (fun r2 => if isK r2 12 = true then if amIn (cI C p0 41) (aLen r2) = true then (if (cI C r2 (Int32.toNatClampNeg (cI C p0 41))) ≤ p3 then some ((), C) else (if ¬ (cI C p0 51) = 0 then some ((), C) else (f_174 n p0 C).bind (fun z => match z with | (q8, C9) => if isK p1 12 = true then if amIn (p2 + p3) (aLen p1) = true then lp_185_2 n p0 p1 p2 (p3 + (1 : Int32)) (uI C9 p1 (Int32.toNatClampNeg (p2 + p3)) q8) else none else none))) else none else none) else none
set_option maxRecDepth 20000 in
set_option maxHeartbeats 4000000 in
theorem lt_185_2 : ∀ (n : Nat) (p0 : Nat) (p1 : Nat) (p2 : Int32) (p3 : Int32) (C : AmC) (r : ((Unit)) × AmC), lp_185_2 n p0 p1 p2 p3 C = some r → ∀ (o : AmO) (M' : AmM), (match r with
        | (_, C') => En false 185 21 [] [] (mkM C') o M') → En false 185 2 [(0, .ref p0), (1, .ref p1), (2, .int p2), (3, .int p3)] [] (mkM C) o M' := by
  intro n
  induction n with
  | zero => intro p0 p1 p2 p3 C r h; cases h
  | succ n ih =>
    intro p0 p1 p2 p3 C r h o M' hk
    unfold lp_185_2 at h
    refine en_iload rfl rfl ?_
    refine en_aload rfl rfl ?_
    obtain ⟨g1, h⟩ := gd h
    obtain ⟨r2, e3, h⟩ := gb h
    refine ec_getP (ci := 10) (j := 21) ⟨rfl, rfl, rfl⟩ g1 e3 rfl ?_
    refine en_aload rfl rfl ?_
    refine ec_getI (ci := 10) (j := 41) ⟨rfl, rfl, rfl⟩ g1 rfl ?_
    obtain ⟨g4, h⟩ := gd h
    obtain ⟨g5, h⟩ := gd h
    refine ec_iaload g4 g5 rfl ?_
    rcases gi h with ⟨c6, h⟩ | ⟨c6, h⟩
    · refine en_icmp_ge_t c6 rfl ?_
      cases h
      exact en_sub [] rfl rfl hk
    · refine en_icmp_ge_f c6 rfl ?_
      refine en_aload rfl rfl ?_
      refine ec_getI (ci := 10) (j := 51) ⟨rfl, rfl, rfl⟩ g1 rfl ?_
      rcases gi h with ⟨c7, h⟩ | ⟨c7, h⟩
      · refine en_if_ne_t c7 rfl ?_
        cases h
        exact en_sub [] rfl rfl hk
      · refine en_if_ne_f c7 rfl ?_
        refine en_aload rfl rfl ?_
        refine en_iload rfl rfl ?_
        refine en_iload rfl rfl ?_
        refine en_iadd rfl ?_
        refine en_aload rfl rfl ?_
        obtain ⟨⟨q8, C9⟩, e10, h⟩ := gb h
        dsimp only at h
        refine ec_callV1 (k' := 174) (n := 1) (rc := 10) (a := p0) (as := []) ⟨rfl, rfl⟩ rfl rfl (Nat.le_of_ble_eq_true rfl) (Nat.le_of_ble_eq_true rfl) (Nat.le_of_ble_eq_true rfl) g1 rfl (t_174 e10) ?_
        obtain ⟨g11, h⟩ := gd h
        obtain ⟨g12, h⟩ := gd h
        refine ec_iastore g11 g12 rfl ?_
        refine ec_iinc (l' := [(3, .int (p3 + (1 : Int32))), (0, .ref p0), (1, .ref p1), (2, .int p2)]) rfl cst_1 rfl rfl ?_
        refine en_goto rfl ?_
        refine en_sub [1, 2, 3, 0] rfl rfl ?_
        exact ih _ _ _ _ _ _ h o M' hk
/-- BulkWriterModel.numbers([II)V -/
def f_185 (n : Nat) (a0 : Nat) (a1 : Nat) (a2 : Int32) (C : AmC) : Option (Unit × AmC) := (lp_185_2 n a0 a1 a2 (0 : Int32) C).bind (fun q => match q with | (_, C15) => some ((), C15))
set_option maxRecDepth 20000 in
set_option maxHeartbeats 4000000 in
theorem t_185 {n : Nat} {a0 : Nat} {a1 : Nat} {a2 : Int32} {C : AmC} {r : Unit} {C' : AmC} (h : f_185 n a0 a1 a2 C = some (r, C')) : En false 185 0 [(0, .ref a0), (1, .ref a1), (2, .int a2)] [] (mkM C) (.inl none) (mkM C') := by
  unfold f_185 at h
  refine ec_iconst cst_0 rfl ?_
  refine en_istore (l' := [(3, .int (0 : Int32)), (0, .ref a0), (1, .ref a1), (2, .int a2)]) rfl rfl ?_
  obtain ⟨⟨q13, C15⟩, e14, h⟩ := gb h
  refine en_sub [1, 2, 3, 0] rfl rfl (lt_185_2 n _ _ _ _ _ _ e14 _ _ ?_)
  dsimp only at h ⊢
  cases h
  exact en_vret rfl
/-- BulkWriterModel.areLike([IIIIII)Z -/
def f_191 (n : Nat) (a0 : Nat) (a1 : Nat) (a2 : Int32) (a3 : Int32) (a4 : Int32) (a5 : Int32) (a6 : Int32) (C : AmC) : Option (Int32 × AmC) := if isK a0 10 = true then (cP C a0 29).bind (fun r2 => if isK r2 12 = true then if amIn a4 (aLen r2) = true then if isK a1 12 = true then if amIn (((a2 + a3) + ((4 : Int32) * a5)) + (cI C r2 (Int32.toNatClampNeg a4))) (aLen a1) = true then (cP C a0 29).bind (fun r8 => if isK r8 12 = true then if amIn a4 (aLen r8) = true then if amIn (((a2 + a3) + ((4 : Int32) * a6)) + (cI C r8 (Int32.toNatClampNeg a4))) (aLen a1) = true then (if ¬ (cI C a1 (Int32.toNatClampNeg (((a2 + a3) + ((4 : Int32) * a5)) + (cI C r2 (Int32.toNatClampNeg a4))))) = (cI C a1 (Int32.toNatClampNeg (((a2 + a3) + ((4 : Int32) * a6)) + (cI C r8 (Int32.toNatClampNeg a4))))) then some ((0 : Int32), C) else (cP C a0 30).bind (fun r14 => if isK r14 12 = true then if amIn a4 (aLen r14) = true then (if (cI C r14 (Int32.toNatClampNeg a4)) = (-1 : Int32) then some ((1 : Int32), C) else (cP C a0 30).bind (fun r19 => if isK r19 12 = true then if amIn a4 (aLen r19) = true then if amIn (((a2 + a3) + ((4 : Int32) * a5)) + (cI C r19 (Int32.toNatClampNeg a4))) (aLen a1) = true then (cP C a0 30).bind (fun r24 => if isK r24 12 = true then if amIn a4 (aLen r24) = true then if amIn (((a2 + a3) + ((4 : Int32) * a6)) + (cI C r24 (Int32.toNatClampNeg a4))) (aLen a1) = true then (if ¬ (cI C a1 (Int32.toNatClampNeg (((a2 + a3) + ((4 : Int32) * a5)) + (cI C r19 (Int32.toNatClampNeg a4))))) = (cI C a1 (Int32.toNatClampNeg (((a2 + a3) + ((4 : Int32) * a6)) + (cI C r24 (Int32.toNatClampNeg a4))))) then some ((0 : Int32), C) else some ((1 : Int32), C)) else none else none else none) else none else none else none)) else none else none)) else none else none else none) else none else none else none else none) else none
set_option maxRecDepth 20000 in
set_option maxHeartbeats 4000000 in
theorem t_191 {n : Nat} {a0 : Nat} {a1 : Nat} {a2 : Int32} {a3 : Int32} {a4 : Int32} {a5 : Int32} {a6 : Int32} {C : AmC} {r : Int32} {C' : AmC} (h : f_191 n a0 a1 a2 a3 a4 a5 a6 C = some (r, C')) : En false 191 0 [(0, .ref a0), (1, .ref a1), (2, .int a2), (3, .int a3), (4, .int a4), (5, .int a5), (6, .int a6)] [] (mkM C) (.inl (some (.int r))) (mkM C') := by
  unfold f_191 at h
  refine en_iload rfl rfl ?_
  refine en_iload rfl rfl ?_
  refine en_iadd rfl ?_
  refine ec_iconst cst_4 rfl ?_
  refine en_iload rfl rfl ?_
  refine en_imul rfl ?_
  refine en_iadd rfl ?_
  refine en_istore (l' := [(7, .int ((a2 + a3) + ((4 : Int32) * a5))), (0, .ref a0), (1, .ref a1), (2, .int a2), (3, .int a3), (4, .int a4), (5, .int a5), (6, .int a6)]) rfl rfl ?_
  refine en_iload rfl rfl ?_
  refine en_iload rfl rfl ?_
  refine en_iadd rfl ?_
  refine ec_iconst cst_4 rfl ?_
  refine en_iload rfl rfl ?_
  refine en_imul rfl ?_
  refine en_iadd rfl ?_
  refine en_istore (l' := [(8, .int ((a2 + a3) + ((4 : Int32) * a6))), (7, .int ((a2 + a3) + ((4 : Int32) * a5))), (0, .ref a0), (1, .ref a1), (2, .int a2), (3, .int a3), (4, .int a4), (5, .int a5), (6, .int a6)]) rfl rfl ?_
  refine en_aload rfl rfl ?_
  refine en_iload rfl rfl ?_
  refine en_aload rfl rfl ?_
  obtain ⟨g1, h⟩ := gd h
  obtain ⟨r2, e3, h⟩ := gb h
  refine ec_getP (ci := 10) (j := 29) ⟨rfl, rfl, rfl⟩ g1 e3 rfl ?_
  refine en_iload rfl rfl ?_
  obtain ⟨g4, h⟩ := gd h
  obtain ⟨g5, h⟩ := gd h
  refine ec_iaload g4 g5 rfl ?_
  refine en_iadd rfl ?_
  obtain ⟨g6, h⟩ := gd h
  obtain ⟨g7, h⟩ := gd h
  refine ec_iaload g6 g7 rfl ?_
  refine en_aload rfl rfl ?_
  refine en_iload rfl rfl ?_
  refine en_aload rfl rfl ?_
  obtain ⟨r8, e9, h⟩ := gb h
  refine ec_getP (ci := 10) (j := 29) ⟨rfl, rfl, rfl⟩ g1 e9 rfl ?_
  refine en_iload rfl rfl ?_
  obtain ⟨g10, h⟩ := gd h
  obtain ⟨g11, h⟩ := gd h
  refine ec_iaload g10 g11 rfl ?_
  refine en_iadd rfl ?_
  obtain ⟨g12, h⟩ := gd h
  refine ec_iaload g6 g12 rfl ?_
  rcases gi h with ⟨c13, h⟩ | ⟨c13, h⟩
  · refine en_icmp_ne_t c13 rfl ?_
    refine ec_iconst cst_0 rfl ?_
    cases h
    exact en_zret (Or.inl rfl) rfl
  · refine en_icmp_ne_f c13 rfl ?_
    refine en_aload rfl rfl ?_
    obtain ⟨r14, e15, h⟩ := gb h
    refine ec_getP (ci := 10) (j := 30) ⟨rfl, rfl, rfl⟩ g1 e15 rfl ?_
    refine en_iload rfl rfl ?_
    obtain ⟨g16, h⟩ := gd h
    obtain ⟨g17, h⟩ := gd h
    refine ec_iaload g16 g17 rfl ?_
    refine ec_iconst cst_m1 rfl ?_
    rcases gi h with ⟨c18, h⟩ | ⟨c18, h⟩
    · refine en_icmp_eq_t c18 rfl ?_
      refine ec_iconst cst_1 rfl ?_
      refine en_goto rfl ?_
      cases h
      exact en_zret (Or.inr rfl) rfl
    · refine en_icmp_eq_f c18 rfl ?_
      refine en_aload rfl rfl ?_
      refine en_iload rfl rfl ?_
      refine en_aload rfl rfl ?_
      obtain ⟨r19, e20, h⟩ := gb h
      refine ec_getP (ci := 10) (j := 30) ⟨rfl, rfl, rfl⟩ g1 e20 rfl ?_
      refine en_iload rfl rfl ?_
      obtain ⟨g21, h⟩ := gd h
      obtain ⟨g22, h⟩ := gd h
      refine ec_iaload g21 g22 rfl ?_
      refine en_iadd rfl ?_
      obtain ⟨g23, h⟩ := gd h
      refine ec_iaload g6 g23 rfl ?_
      refine en_aload rfl rfl ?_
      refine en_iload rfl rfl ?_
      refine en_aload rfl rfl ?_
      obtain ⟨r24, e25, h⟩ := gb h
      refine ec_getP (ci := 10) (j := 30) ⟨rfl, rfl, rfl⟩ g1 e25 rfl ?_
      refine en_iload rfl rfl ?_
      obtain ⟨g26, h⟩ := gd h
      obtain ⟨g27, h⟩ := gd h
      refine ec_iaload g26 g27 rfl ?_
      refine en_iadd rfl ?_
      obtain ⟨g28, h⟩ := gd h
      refine ec_iaload g6 g28 rfl ?_
      rcases gi h with ⟨c29, h⟩ | ⟨c29, h⟩
      · refine en_icmp_ne_t c29 rfl ?_
        refine ec_iconst cst_0 rfl ?_
        cases h
        exact en_zret (Or.inl rfl) rfl
      · refine en_icmp_ne_f c29 rfl ?_
        refine ec_iconst cst_1 rfl ?_
        refine en_goto rfl ?_
        cases h
        exact en_zret (Or.inr rfl) rfl
def lp_192_27 : Nat → Nat → Nat → Int32 → Int32 → Int32 → Int32 → Int32 → Int32 → AmC → Option (((Nat × Int32 × Int32 × Int32) ⊕ (Nat × Nat × Int32 × Int32 × Int32 × Int32 × Int32)) × AmC)
  | 0, _, _, _, _, _, _, _, _, _ => none
  | n + 1, p0, p1, p2, p3, p4, p5, p6, p7, C => (if p3 ≤ p7 then some ((.inr (p0, p1, p2, p3, p4, p5, p6)), C) else if isK p1 12 = true then if amIn (p2 + p6) (aLen p1) = true then (if ¬ (cI C p1 (Int32.toNatClampNeg (p2 + p6))) = (1 : Int32) then some ((.inr (p0, p1, p2, p3, p4, p5, p6)), C) else if amIn (p2 + p7) (aLen p1) = true then (if (cI C p1 (Int32.toNatClampNeg (p2 + p7))) = 0 then lp_192_27 n p0 p1 p2 p3 p4 p5 p6 (p7 + (1 : Int32)) C else if isK p0 10 = true then (f_191 n p0 p1 p2 p3 (((3 : Int32) * p4) + p5) p6 p7 C).bind (fun z => match z with | (q20, C21) => (if ¬ q20 = 0 then some ((.inl (p0, p5, p6, p7)), C21) else lp_192_27 n p0 p1 p2 p3 p4 p5 p6 (p7 + (1 : Int32)) C21)) else none) else none) else none else none)
set_option maxRecDepth 20000 in
set_option maxHeartbeats 4000000 in
theorem lt_192_27 : ∀ (n : Nat) (p0 : Nat) (p1 : Nat) (p2 : Int32) (p3 : Int32) (p4 : Int32) (p5 : Int32) (p6 : Int32) (p7 : Int32) (C : AmC) (r : ((Nat × Int32 × Int32 × Int32) ⊕ (Nat × Nat × Int32 × Int32 × Int32 × Int32 × Int32)) × AmC), lp_192_27 n p0 p1 p2 p3 p4 p5 p6 p7 C = some r → ∀ (o : AmO) (M' : AmM), (match r with
        | ((.inl (w0, w5, w6, w7)), C') => En false 192 57 [(0, .ref w0), (5, .int w5), (6, .int w6), (7, .int w7)] [] (mkM C') o M'
        | ((.inr (w0, w1, w2, w3, w4, w5, w6)), C') => En false 192 67 [(0, .ref w0), (1, .ref w1), (2, .int w2), (3, .int w3), (4, .int w4), (5, .int w5), (6, .int w6)] [] (mkM C') o M') → En false 192 27 [(0, .ref p0), (1, .ref p1), (2, .int p2), (3, .int p3), (4, .int p4), (5, .int p5), (6, .int p6), (7, .int p7)] [] (mkM C) o M' := by
  intro n
  induction n with
  | zero => intro p0 p1 p2 p3 p4 p5 p6 p7 C r h; cases h
  | succ n ih =>
    intro p0 p1 p2 p3 p4 p5 p6 p7 C r h o M' hk
    unfold lp_192_27 at h
    refine en_iload rfl rfl ?_
    refine en_iload rfl rfl ?_
    rcases gi h with ⟨c13, h⟩ | ⟨c13, h⟩
    · refine en_icmp_ge_t c13 rfl ?_
      cases h
      exact en_sub [0, 1, 2, 3, 4, 5, 6] rfl rfl hk
    · refine en_icmp_ge_f c13 rfl ?_
      refine en_aload rfl rfl ?_
      refine en_iload rfl rfl ?_
      refine en_iload rfl rfl ?_
      refine en_iadd rfl ?_
      obtain ⟨g14, h⟩ := gd h
      obtain ⟨g15, h⟩ := gd h
      refine ec_iaload g14 g15 rfl ?_
      refine ec_iconst cst_1 rfl ?_
      rcases gi h with ⟨c16, h⟩ | ⟨c16, h⟩
      · refine en_icmp_ne_t c16 rfl ?_
        cases h
        exact en_sub [0, 1, 2, 3, 4, 5, 6] rfl rfl hk
      · refine en_icmp_ne_f c16 rfl ?_
        refine en_aload rfl rfl ?_
        refine en_iload rfl rfl ?_
        refine en_iload rfl rfl ?_
        refine en_iadd rfl ?_
        obtain ⟨g17, h⟩ := gd h
        refine ec_iaload g14 g17 rfl ?_
        rcases gi h with ⟨c18, h⟩ | ⟨c18, h⟩
        · refine en_if_eq_t c18 rfl ?_
          refine ec_iinc (l' := [(7, .int (p7 + (1 : Int32))), (0, .ref p0), (1, .ref p1), (2, .int p2), (3, .int p3), (4, .int p4), (5, .int p5), (6, .int p6)]) rfl cst_1 rfl rfl ?_
          refine en_goto rfl ?_
          refine en_sub [1, 2, 3, 4, 5, 6, 7, 0] rfl rfl ?_
          exact ih _ _ _ _ _ _ _ _ _ _ h o M' hk
        · refine en_if_eq_f c18 rfl ?_
          refine en_aload rfl rfl ?_
          refine en_aload rfl rfl ?_
          refine en_iload rfl rfl ?_
          refine en_iload rfl rfl ?_
          refine ec_iconst cst_3 rfl ?_
          refine en_iload rfl rfl ?_
          refine en_imul rfl ?_
          refine en_iload rfl rfl ?_
          refine en_iadd rfl ?_
          refine en_iload rfl rfl ?_
          refine en_iload rfl rfl ?_
          obtain ⟨g19, h⟩ := gd h
          obtain ⟨⟨q20, C21⟩, e22, h⟩ := gb h
          dsimp only at h
          refine ec_callV1 (k' := 191) (n := 7) (rc := 10) (a := p0) (as := [.ref p1, .int p2, .int p3, .int (((3 : Int32) * p4) + p5), .int p6, .int p7]) ⟨rfl, rfl⟩ rfl rfl (Nat.le_of_ble_eq_true rfl) (Nat.le_of_ble_eq_true rfl) (Nat.le_of_ble_eq_true rfl) g19 rfl (t_191 e22) ?_
          rcases gi h with ⟨c23, h⟩ | ⟨c23, h⟩
          · refine en_if_ne_t c23 rfl ?_
            cases h
            exact en_sub [0, 5, 6, 7] rfl rfl hk
          · refine en_if_ne_f c23 rfl ?_
            refine en_goto rfl ?_
            refine ec_iinc (l' := [(7, .int (p7 + (1 : Int32))), (0, .ref p0), (1, .ref p1), (2, .int p2), (3, .int p3), (4, .int p4), (5, .int p5), (6, .int p6)]) rfl cst_1 rfl rfl ?_
            refine en_goto rfl ?_
            refine en_sub [1, 2, 3, 4, 5, 6, 7, 0] rfl rfl ?_
            exact ih _ _ _ _ _ _ _ _ _ _ h o M' hk
def lp_192_20 : Nat → Nat → Nat → Int32 → Int32 → Int32 → Int32 → Int32 → AmC → Option (((Nat × Int32 × Int32 × Int32) ⊕ (Nat × Nat × Int32 × Int32 × Int32 × Int32)) × AmC)
  | 0, _, _, _, _, _, _, _, _ => none
  | n + 1, p0, p1, p2, p3, p4, p5, p6, C => (if p3 ≤ p6 then some ((.inr (p0, p1, p2, p3, p4, p5)), C) else (lp_192_27 n p0 p1 p2 p3 p4 p5 p6 (p6 + (1 : Int32)) C).bind (fun q => match q with | ((.inl (u27, u28, u29, u30)), C26) => some ((.inl (u27, u28, u29, u30)), C26) | ((.inr (u31, u32, u33, u34, u35, u36, u37)), C26) => lp_192_20 n u31 u32 u33 u34 u35 u36 (u37 + (1 : Int32)) C26))
set_option maxRecDepth 20000 in
set_option maxHeartbeats 4000000 in
theorem lt_192_20 : ∀ (n : Nat) (p0 : Nat) (p1 : Nat) (p2 : Int32) (p3 : Int32) (p4 : Int32) (p5 : Int32) (p6 : Int32) (C : AmC) (r : ((Nat × Int32 × Int32 × Int32) ⊕ (Nat × Nat × Int32 × Int32 × Int32 × Int32)) × AmC), lp_192_20 n p0 p1 p2 p3 p4 p5 p6 C = some r → ∀ (o : AmO) (M' : AmM), (match r with
        | ((.inl (w0, w5, w6, w7)), C') => En false 192 57 [(0, .ref w0), (5, .int w5), (6, .int w6), (7, .int w7)] [] (mkM C') o M'
        | ((.inr (w0, w1, w2, w3, w4, w5)), C') => En false 192 69 [(0, .ref w0), (1, .ref w1), (2, .int w2), (3, .int w3), (4, .int w4), (5, .int w5)] [] (mkM C') o M') → En false 192 20 [(0, .ref p0), (1, .ref p1), (2, .int p2), (3, .int p3), (4, .int p4), (5, .int p5), (6, .int p6)] [] (mkM C) o M' := by
  intro n
  induction n with
  | zero => intro p0 p1 p2 p3 p4 p5 p6 C r h; cases h
  | succ n ih =>
    intro p0 p1 p2 p3 p4 p5 p6 C r h o M' hk
    unfold lp_192_20 at h
    refine en_iload rfl rfl ?_
    refine en_iload rfl rfl ?_
    rcases gi h with ⟨c12, h⟩ | ⟨c12, h⟩
    · refine en_icmp_ge_t c12 rfl ?_
      cases h
      exact en_sub [0, 1, 2, 3, 4, 5] rfl rfl hk
    · refine en_icmp_ge_f c12 rfl ?_
      refine en_iload rfl rfl ?_
      refine ec_iconst cst_1 rfl ?_
      refine en_iadd rfl ?_
      refine en_istore (l' := [(7, .int (p6 + (1 : Int32))), (0, .ref p0), (1, .ref p1), (2, .int p2), (3, .int p3), (4, .int p4), (5, .int p5), (6, .int p6)]) rfl rfl ?_
      obtain ⟨⟨q24, C26⟩, e25, h⟩ := gb h
      refine en_sub [1, 2, 3, 4, 5, 6, 7, 0] rfl rfl (lt_192_27 n _ _ _ _ _ _ _ _ _ _ e25 o M' ?_)
      rcases q24 with ⟨u27, u28, u29, u30⟩ | ⟨u31, u32, u33, u34, u35, u36, u37⟩
      · dsimp only at h ⊢
        cases h
        exact en_sub [0, 1, 2, 3] rfl rfl hk
      · dsimp only at h ⊢
        refine ec_iinc (l' := [(6, .int (u37 + (1 : Int32))), (0, .ref u31), (1, .ref u32), (2, .int u33), (3, .int u34), (4, .int u35), (5, .int u36)]) rfl cst_1 rfl rfl ?_
        refine en_goto rfl ?_
        refine en_sub [1, 2, 3, 4, 5, 6, 0] rfl rfl ?_
        exact ih _ _ _ _ _ _ _ _ _ h o M' hk
def lp_192_2 : Nat → Nat → Nat → Int32 → Int32 → Int32 → Int32 → AmC → Option (((Nat × Int32 × Int32 × Int32) ⊕ (Unit)) × AmC)
  | 0, _, _, _, _, _, _, _ => none
  | n + 1, p0, p1, p2, p3, p4, p5, C => if isK p0 10 = true then (cP C p0 22).bind (fun r2 => if isK r2 12 = true then if amIn p4 (aLen r2) = true then (if (cI C r2 (Int32.toNatClampNeg p4)) ≤ p5 then some ((.inr ()), C) else (cP C p0 23).bind (fun r7 => if isK r7 12 = true then if amIn p4 (aLen r7) = true then (if ¬ (((cI C r7 (Int32.toNatClampNeg p4)) >>> (p5 &&& 31)) &&& (1 : Int32)) = 0 then (lp_192_20 n p0 p1 p2 p3 p4 p5 (0 : Int32) C).bind (fun q => match q with | ((.inl (u41, u42, u43, u44)), C40) => some ((.inl (u41, u42, u43, u44)), C40) | ((.inr (u45, u46, u47, u48, u49, u50)), C40) => lp_192_2 n u45 u46 u47 u48 u49 (u50 + (1 : Int32)) C40) else lp_192_2 n p0 p1 p2 p3 p4 (p5 + (1 : Int32)) C) else none else none)) else none else none) else none
set_option maxRecDepth 20000 in
set_option maxHeartbeats 4000000 in
theorem lt_192_2 : ∀ (n : Nat) (p0 : Nat) (p1 : Nat) (p2 : Int32) (p3 : Int32) (p4 : Int32) (p5 : Int32) (C : AmC) (r : ((Nat × Int32 × Int32 × Int32) ⊕ (Unit)) × AmC), lp_192_2 n p0 p1 p2 p3 p4 p5 C = some r → ∀ (o : AmO) (M' : AmM), (match r with
        | ((.inl (w0, w5, w6, w7)), C') => En false 192 57 [(0, .ref w0), (5, .int w5), (6, .int w6), (7, .int w7)] [] (mkM C') o M'
        | ((.inr _), C') => En false 192 71 [] [] (mkM C') o M') → En false 192 2 [(0, .ref p0), (1, .ref p1), (2, .int p2), (3, .int p3), (4, .int p4), (5, .int p5)] [] (mkM C) o M' := by
  intro n
  induction n with
  | zero => intro p0 p1 p2 p3 p4 p5 C r h; cases h
  | succ n ih =>
    intro p0 p1 p2 p3 p4 p5 C r h o M' hk
    unfold lp_192_2 at h
    refine en_iload rfl rfl ?_
    refine en_aload rfl rfl ?_
    obtain ⟨g1, h⟩ := gd h
    obtain ⟨r2, e3, h⟩ := gb h
    refine ec_getP (ci := 10) (j := 22) ⟨rfl, rfl, rfl⟩ g1 e3 rfl ?_
    refine en_iload rfl rfl ?_
    obtain ⟨g4, h⟩ := gd h
    obtain ⟨g5, h⟩ := gd h
    refine ec_iaload g4 g5 rfl ?_
    rcases gi h with ⟨c6, h⟩ | ⟨c6, h⟩
    · refine en_icmp_ge_t c6 rfl ?_
      cases h
      exact en_sub [] rfl rfl hk
    · refine en_icmp_ge_f c6 rfl ?_
      refine en_aload rfl rfl ?_
      obtain ⟨r7, e8, h⟩ := gb h
      refine ec_getP (ci := 10) (j := 23) ⟨rfl, rfl, rfl⟩ g1 e8 rfl ?_
      refine en_iload rfl rfl ?_
      obtain ⟨g9, h⟩ := gd h
      obtain ⟨g10, h⟩ := gd h
      refine ec_iaload g9 g10 rfl ?_
      refine en_iload rfl rfl ?_
      refine en_ishr rfl ?_
      refine ec_iconst cst_1 rfl ?_
      refine en_iand rfl ?_
      rcases gi h with ⟨c11, h⟩ | ⟨c11, h⟩
      · refine en_if_ne_t c11 rfl ?_
        refine ec_iconst cst_0 rfl ?_
        refine en_istore (l' := [(6, .int (0 : Int32)), (0, .ref p0), (1, .ref p1), (2, .int p2), (3, .int p3), (4, .int p4), (5, .int p5)]) rfl rfl ?_
        obtain ⟨⟨q38, C40⟩, e39, h⟩ := gb h
        refine en_sub [1, 2, 3, 4, 5, 6, 0] rfl rfl (lt_192_20 n _ _ _ _ _ _ _ _ _ e39 o M' ?_)
        rcases q38 with ⟨u41, u42, u43, u44⟩ | ⟨u45, u46, u47, u48, u49, u50⟩
        · dsimp only at h ⊢
          cases h
          exact en_sub [0, 1, 2, 3] rfl rfl hk
        · dsimp only at h ⊢
          refine ec_iinc (l' := [(5, .int (u50 + (1 : Int32))), (0, .ref u45), (1, .ref u46), (2, .int u47), (3, .int u48), (4, .int u49)]) rfl cst_1 rfl rfl ?_
          refine en_goto rfl ?_
          refine en_sub [1, 2, 3, 4, 5, 0] rfl rfl ?_
          exact ih _ _ _ _ _ _ _ _ h o M' hk
      · refine en_if_ne_f c11 rfl ?_
        refine en_goto rfl ?_
        refine ec_iinc (l' := [(5, .int (p5 + (1 : Int32))), (0, .ref p0), (1, .ref p1), (2, .int p2), (3, .int p3), (4, .int p4)]) rfl cst_1 rfl rfl ?_
        refine en_goto rfl ?_
        refine en_sub [1, 2, 3, 4, 5, 0] rfl rfl ?_
        exact ih _ _ _ _ _ _ _ _ h o M' hk
/-- BulkWriterModel.firstClash([IIII)I -/
def f_192 (n : Nat) (a0 : Nat) (a1 : Nat) (a2 : Int32) (a3 : Int32) (a4 : Int32) (C : AmC) : Option (Int32 × AmC) := (lp_192_2 n a0 a1 a2 a3 a4 (0 : Int32) C).bind (fun q => match q with | ((.inl (u54, u55, u56, u57)), C53) => if isK u54 10 = true then some (u55, uI (uI C53 u54 55 u56) u54 56 u57) else none | ((.inr _), C53) => some ((-1 : Int32), C53))
set_option maxRecDepth 20000 in
set_option maxHeartbeats 4000000 in
theorem t_192 {n : Nat} {a0 : Nat} {a1 : Nat} {a2 : Int32} {a3 : Int32} {a4 : Int32} {C : AmC} {r : Int32} {C' : AmC} (h : f_192 n a0 a1 a2 a3 a4 C = some (r, C')) : En false 192 0 [(0, .ref a0), (1, .ref a1), (2, .int a2), (3, .int a3), (4, .int a4)] [] (mkM C) (.inl (some (.int r))) (mkM C') := by
  unfold f_192 at h
  refine ec_iconst cst_0 rfl ?_
  refine en_istore (l' := [(5, .int (0 : Int32)), (0, .ref a0), (1, .ref a1), (2, .int a2), (3, .int a3), (4, .int a4)]) rfl rfl ?_
  obtain ⟨⟨q51, C53⟩, e52, h⟩ := gb h
  refine en_sub [1, 2, 3, 4, 5, 0] rfl rfl (lt_192_2 n _ _ _ _ _ _ _ _ e52 _ _ ?_)
  rcases q51 with ⟨u54, u55, u56, u57⟩ | ⟨⟩
  · dsimp only at h ⊢
    refine en_aload rfl rfl ?_
    refine en_iload rfl rfl ?_
    obtain ⟨g58, h⟩ := gd h
    refine ec_putI (ci := 10) (j := 55) ⟨rfl, rfl, rfl⟩ g58 rfl ?_
    refine en_aload rfl rfl ?_
    refine en_iload rfl rfl ?_
    refine ec_putI (ci := 10) (j := 56) ⟨rfl, rfl, rfl⟩ g58 rfl ?_
    refine en_iload rfl rfl ?_
    cases h
    exact en_iret rfl
  · dsimp only at h ⊢
    refine ec_iconst cst_m1 rfl ?_
    cases h
    exact en_iret rfl
