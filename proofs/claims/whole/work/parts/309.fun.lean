/-- BulkWriterModel.index(Z)V -/
def f_186 (n : Nat) (a0 : Nat) (a1 : Int32) (C : AmC) : Option (Unit × AmC) := if isK a0 10 = true then (cP C a0 22).bind (fun r2 => if isK r2 12 = true then if amIn (cI C a0 41) (aLen r2) = true then (if (3 : Int32) ≤ (cI C r2 (Int32.toNatClampNeg (cI C a0 41))) then (f_170 n a0 (0 : Int32) (2 : Int32) C).bind (fun z => match z with | (q7, C8) => (if ¬ q7 = 0 then (f_169 n a0 C8).bind (fun z => match z with | (_, C12) => (cP C12 a0 22).bind (fun r14 => if isK r14 12 = true then if amIn (cI C12 a0 41) (aLen r14) = true then (cP C12 a0 29).bind (fun r18 => (f_176 n a0 C12).bind (fun z => match z with | (q20, C21) => if isK r18 12 = true then if amIn (((3 : Int32) * (cI C12 a0 41)) + (cI C12 r14 (Int32.toNatClampNeg (cI C12 a0 41)))) (aLen r18) = true then (cP (uI C21 r18 (Int32.toNatClampNeg (((3 : Int32) * (cI C12 a0 41)) + (cI C12 r14 (Int32.toNatClampNeg (cI C12 a0 41))))) q20) a0 30).bind (fun r25 => if isK r25 12 = true then if amIn (((3 : Int32) * (cI C12 a0 41)) + (cI C12 r14 (Int32.toNatClampNeg (cI C12 a0 41)))) (aLen r25) = true then (f_175 n a0 (uI (uI C21 r18 (Int32.toNatClampNeg (((3 : Int32) * (cI C12 a0 41)) + (cI C12 r14 (Int32.toNatClampNeg (cI C12 a0 41))))) q20) r25 (Int32.toNatClampNeg (((3 : Int32) * (cI C12 a0 41)) + (cI C12 r14 (Int32.toNatClampNeg (cI C12 a0 41))))) (-1 : Int32))).bind (fun z => match z with | (q29, C30) => (if q29 = 0 then (if (cI C30 a0 51) = 0 then (if a1 = 0 then (cP C30 a0 22).bind (fun r35 => if isK r35 12 = true then if amIn (cI C30 a0 41) (aLen r35) = true then if amIn (cI C30 a0 41) (aLen r35) = true then (f_172 n a0 (59 : Int32) (uI C30 r35 (Int32.toNatClampNeg (cI C30 a0 41)) ((cI C30 r35 (Int32.toNatClampNeg (cI C30 a0 41))) + (1 : Int32)))).bind (fun z => match z with | (q40, C41) => (if q40 = 0 then (f_170 n a0 (1 : Int32) (4 : Int32) C41).bind (fun z => match z with | (q44, C45) => some ((), C45)) else (cP C41 a0 52).bind (fun r47 => (f_192 n a0 r47 (0 : Int32) (30 : Int32) (cI C41 a0 41) C41).bind (fun z => match z with | (q49, C50) => (if ¬ q49 = (-1 : Int32) then (f_170 n a0 (0 : Int32) (4 : Int32) C50).bind (fun z => match z with | (q53, C54) => some ((), C54)) else (f_170 n a0 (1 : Int32) (4 : Int32) C50).bind (fun z => match z with | (q56, C57) => some ((), C57))))))) else none else none else none) else (cP C30 a0 23).bind (fun r59 => if isK r59 12 = true then if amIn (cI C30 a0 41) (aLen r59) = true then (cP C30 a0 22).bind (fun r63 => if isK r63 12 = true then if amIn (cI C30 a0 41) (aLen r63) = true then if amIn (cI C30 a0 41) (aLen r59) = true then (cP (uI C30 r59 (Int32.toNatClampNeg (cI C30 a0 41)) ((cI C30 r59 (Int32.toNatClampNeg (cI C30 a0 41))) ||| ((1 : Int32) <<< ((cI C30 r63 (Int32.toNatClampNeg (cI C30 a0 41))) &&& 31)))) a0 22).bind (fun r68 => if isK r68 12 = true then if amIn (cI (uI C30 r59 (Int32.toNatClampNeg (cI C30 a0 41)) ((cI C30 r59 (Int32.toNatClampNeg (cI C30 a0 41))) ||| ((1 : Int32) <<< ((cI C30 r63 (Int32.toNatClampNeg (cI C30 a0 41))) &&& 31)))) a0 41) (aLen r68) = true then if amIn (cI (uI C30 r59 (Int32.toNatClampNeg (cI C30 a0 41)) ((cI C30 r59 (Int32.toNatClampNeg (cI C30 a0 41))) ||| ((1 : Int32) <<< ((cI C30 r63 (Int32.toNatClampNeg (cI C30 a0 41))) &&& 31)))) a0 41) (aLen r68) = true then (f_172 n a0 (59 : Int32) (uI (uI C30 r59 (Int32.toNatClampNeg (cI C30 a0 41)) ((cI C30 r59 (Int32.toNatClampNeg (cI C30 a0 41))) ||| ((1 : Int32) <<< ((cI C30 r63 (Int32.toNatClampNeg (cI C30 a0 41))) &&& 31)))) r68 (Int32.toNatClampNeg (cI (uI C30 r59 (Int32.toNatClampNeg (cI C30 a0 41)) ((cI C30 r59 (Int32.toNatClampNeg (cI C30 a0 41))) ||| ((1 : Int32) <<< ((cI C30 r63 (Int32.toNatClampNeg (cI C30 a0 41))) &&& 31)))) a0 41)) ((cI (uI C30 r59 (Int32.toNatClampNeg (cI C30 a0 41)) ((cI C30 r59 (Int32.toNatClampNeg (cI C30 a0 41))) ||| ((1 : Int32) <<< ((cI C30 r63 (Int32.toNatClampNeg (cI C30 a0 41))) &&& 31)))) r68 (Int32.toNatClampNeg (cI (uI C30 r59 (Int32.toNatClampNeg (cI C30 a0 41)) ((cI C30 r59 (Int32.toNatClampNeg (cI C30 a0 41))) ||| ((1 : Int32) <<< ((cI C30 r63 (Int32.toNatClampNeg (cI C30 a0 41))) &&& 31)))) a0 41))) + (1 : Int32)))).bind (fun z => match z with | (q73, C74) => (if q73 = 0 then (f_170 n a0 (1 : Int32) (4 : Int32) C74).bind (fun z => match z with | (q77, C78) => some ((), C78)) else (cP C74 a0 52).bind (fun r80 => (f_192 n a0 r80 (0 : Int32) (30 : Int32) (cI C74 a0 41) C74).bind (fun z => match z with | (q82, C83) => (if ¬ q82 = (-1 : Int32) then (f_170 n a0 (0 : Int32) (4 : Int32) C83).bind (fun z => match z with | (q86, C87) => some ((), C87)) else (f_170 n a0 (1 : Int32) (4 : Int32) C83).bind (fun z => match z with | (q89, C90) => some ((), C90))))))) else none else none else none) else none else none else none) else none else none)) else some ((), C30)) else (if ¬ (cI C30 a0 51) = 0 then (if (cI C30 a0 51) = 0 then (if a1 = 0 then (cP C30 a0 22).bind (fun r95 => if isK r95 12 = true then if amIn (cI C30 a0 41) (aLen r95) = true then if amIn (cI C30 a0 41) (aLen r95) = true then (f_172 n a0 (59 : Int32) (uI C30 r95 (Int32.toNatClampNeg (cI C30 a0 41)) ((cI C30 r95 (Int32.toNatClampNeg (cI C30 a0 41))) + (1 : Int32)))).bind (fun z => match z with | (q100, C101) => (if q100 = 0 then (f_170 n a0 (1 : Int32) (4 : Int32) C101).bind (fun z => match z with | (q104, C105) => some ((), C105)) else (cP C101 a0 52).bind (fun r107 => (f_192 n a0 r107 (0 : Int32) (30 : Int32) (cI C101 a0 41) C101).bind (fun z => match z with | (q109, C110) => (if ¬ q109 = (-1 : Int32) then (f_170 n a0 (0 : Int32) (4 : Int32) C110).bind (fun z => match z with | (q113, C114) => some ((), C114)) else (f_170 n a0 (1 : Int32) (4 : Int32) C110).bind (fun z => match z with | (q116, C117) => some ((), C117))))))) else none else none else none) else (cP C30 a0 23).bind (fun r119 => if isK r119 12 = true then if amIn (cI C30 a0 41) (aLen r119) = true then (cP C30 a0 22).bind (fun r123 => if isK r123 12 = true then if amIn (cI C30 a0 41) (aLen r123) = true then if amIn (cI C30 a0 41) (aLen r119) = true then (cP (uI C30 r119 (Int32.toNatClampNeg (cI C30 a0 41)) ((cI C30 r119 (Int32.toNatClampNeg (cI C30 a0 41))) ||| ((1 : Int32) <<< ((cI C30 r123 (Int32.toNatClampNeg (cI C30 a0 41))) &&& 31)))) a0 22).bind (fun r128 => if isK r128 12 = true then if amIn (cI (uI C30 r119 (Int32.toNatClampNeg (cI C30 a0 41)) ((cI C30 r119 (Int32.toNatClampNeg (cI C30 a0 41))) ||| ((1 : Int32) <<< ((cI C30 r123 (Int32.toNatClampNeg (cI C30 a0 41))) &&& 31)))) a0 41) (aLen r128) = true then if amIn (cI (uI C30 r119 (Int32.toNatClampNeg (cI C30 a0 41)) ((cI C30 r119 (Int32.toNatClampNeg (cI C30 a0 41))) ||| ((1 : Int32) <<< ((cI C30 r123 (Int32.toNatClampNeg (cI C30 a0 41))) &&& 31)))) a0 41) (aLen r128) = true then (f_172 n a0 (59 : Int32) (uI (uI C30 r119 (Int32.toNatClampNeg (cI C30 a0 41)) ((cI C30 r119 (Int32.toNatClampNeg (cI C30 a0 41))) ||| ((1 : Int32) <<< ((cI C30 r123 (Int32.toNatClampNeg (cI C30 a0 41))) &&& 31)))) r128 (Int32.toNatClampNeg (cI (uI C30 r119 (Int32.toNatClampNeg (cI C30 a0 41)) ((cI C30 r119 (Int32.toNatClampNeg (cI C30 a0 41))) ||| ((1 : Int32) <<< ((cI C30 r123 (Int32.toNatClampNeg (cI C30 a0 41))) &&& 31)))) a0 41)) ((cI (uI C30 r119 (Int32.toNatClampNeg (cI C30 a0 41)) ((cI C30 r119 (Int32.toNatClampNeg (cI C30 a0 41))) ||| ((1 : Int32) <<< ((cI C30 r123 (Int32.toNatClampNeg (cI C30 a0 41))) &&& 31)))) r128 (Int32.toNatClampNeg (cI (uI C30 r119 (Int32.toNatClampNeg (cI C30 a0 41)) ((cI C30 r119 (Int32.toNatClampNeg (cI C30 a0 41))) ||| ((1 : Int32) <<< ((cI C30 r123 (Int32.toNatClampNeg (cI C30 a0 41))) &&& 31)))) a0 41))) + (1 : Int32)))).bind (fun z => match z with | (q133, C134) => (if q133 = 0 then (f_170 n a0 (1 : Int32) (4 : Int32) C134).bind (fun z => match z with | (q137, C138) => some ((), C138)) else (cP C134 a0 52).bind (fun r140 => (f_192 n a0 r140 (0 : Int32) (30 : Int32) (cI C134 a0 41) C134).bind (fun z => match z with | (q142, C143) => (if ¬ q142 = (-1 : Int32) then (f_170 n a0 (0 : Int32) (4 : Int32) C143).bind (fun z => match z with | (q146, C147) => some ((), C147)) else (f_170 n a0 (1 : Int32) (4 : Int32) C143).bind (fun z => match z with | (q149, C150) => some ((), C150))))))) else none else none else none) else none else none else none) else none else none)) else some ((), C30)) else (cP C30 a0 29).bind (fun r152 => if isK r152 12 = true then if amIn (((3 : Int32) * (cI C12 a0 41)) + (cI C12 r14 (Int32.toNatClampNeg (cI C12 a0 41)))) (aLen r152) = true then (if ((cI C30 a0 50) - (17 : Int32)) = (cI C30 r152 (Int32.toNatClampNeg (((3 : Int32) * (cI C12 a0 41)) + (cI C12 r14 (Int32.toNatClampNeg (cI C12 a0 41)))))) then (f_170 n a0 (0 : Int32) (3 : Int32) C30).bind (fun z => match z with | (q157, C158) => (cP C158 a0 30).bind (fun r160 => (f_176 n a0 C158).bind (fun z => match z with | (q162, C163) => if isK r160 12 = true then if amIn (((3 : Int32) * (cI C12 a0 41)) + (cI C12 r14 (Int32.toNatClampNeg (cI C12 a0 41)))) (aLen r160) = true then (if (cI (uI C163 r160 (Int32.toNatClampNeg (((3 : Int32) * (cI C12 a0 41)) + (cI C12 r14 (Int32.toNatClampNeg (cI C12 a0 41))))) q162) a0 51) = 0 then (if a1 = 0 then (cP (uI C163 r160 (Int32.toNatClampNeg (((3 : Int32) * (cI C12 a0 41)) + (cI C12 r14 (Int32.toNatClampNeg (cI C12 a0 41))))) q162) a0 22).bind (fun r169 => if isK r169 12 = true then if amIn (cI (uI C163 r160 (Int32.toNatClampNeg (((3 : Int32) * (cI C12 a0 41)) + (cI C12 r14 (Int32.toNatClampNeg (cI C12 a0 41))))) q162) a0 41) (aLen r169) = true then if amIn (cI (uI C163 r160 (Int32.toNatClampNeg (((3 : Int32) * (cI C12 a0 41)) + (cI C12 r14 (Int32.toNatClampNeg (cI C12 a0 41))))) q162) a0 41) (aLen r169) = true then (f_172 n a0 (59 : Int32) (uI (uI C163 r160 (Int32.toNatClampNeg (((3 : Int32) * (cI C12 a0 41)) + (cI C12 r14 (Int32.toNatClampNeg (cI C12 a0 41))))) q162) r169 (Int32.toNatClampNeg (cI (uI C163 r160 (Int32.toNatClampNeg (((3 : Int32) * (cI C12 a0 41)) + (cI C12 r14 (Int32.toNatClampNeg (cI C12 a0 41))))) q162) a0 41)) ((cI (uI C163 r160 (Int32.toNatClampNeg (((3 : Int32) * (cI C12 a0 41)) + (cI C12 r14 (Int32.toNatClampNeg (cI C12 a0 41))))) q162) r169 (Int32.toNatClampNeg (cI (uI C163 r160 (Int32.toNatClampNeg (((3 : Int32) * (cI C12 a0 41)) + (cI C12 r14 (Int32.toNatClampNeg (cI C12 a0 41))))) q162) a0 41))) + (1 : Int32)))).bind (fun z => match z with | (q174, C175) => (if q174 = 0 then (f_170 n a0 (1 : Int32) (4 : Int32) C175).bind (fun z => match z with | (q178, C179) => some ((), C179)) else (cP C175 a0 52).bind (fun r181 => (f_192 n a0 r181 (0 : Int32) (30 : Int32) (cI C175 a0 41) C175).bind (fun z => match z with | (q183, C184) => (if ¬ q183 = (-1 : Int32) then (f_170 n a0 (0 : Int32) (4 : Int32) C184).bind (fun z => match z with | (q187, C188) => some ((), C188)) else (f_170 n a0 (1 : Int32) (4 : Int32) C184).bind (fun z => match z with | (q190, C191) => some ((), C191))))))) else none else none else none) else (cP (uI C163 r160 (Int32.toNatClampNeg (((3 : Int32) * (cI C12 a0 41)) + (cI C12 r14 (Int32.toNatClampNeg (cI C12 a0 41))))) q162) a0 23).bind (fun r193 => if isK r193 12 = true then if amIn (cI (uI C163 r160 (Int32.toNatClampNeg (((3 : Int32) * (cI C12 a0 41)) + (cI C12 r14 (Int32.toNatClampNeg (cI C12 a0 41))))) q162) a0 41) (aLen r193) = true then (cP (uI C163 r160 (Int32.toNatClampNeg (((3 : Int32) * (cI C12 a0 41)) + (cI C12 r14 (Int32.toNatClampNeg (cI C12 a0 41))))) q162) a0 22).bind (fun r197 => if isK r197 12 = true then if amIn (cI (uI C163 r160 (Int32.toNatClampNeg (((3 : Int32) * (cI C12 a0 41)) + (cI C12 r14 (Int32.toNatClampNeg (cI C12 a0 41))))) q162) a0 41) (aLen r197) = true then if amIn (cI (uI C163 r160 (Int32.toNatClampNeg (((3 : Int32) * (cI C12 a0 41)) + (cI C12 r14 (Int32.toNatClampNeg (cI C12 a0 41))))) q162) a0 41) (aLen r193) = true then (cP (uI (uI C163 r160 (Int32.toNatClampNeg (((3 : Int32) * (cI C12 a0 41)) + (cI C12 r14 (Int32.toNatClampNeg (cI C12 a0 41))))) q162) r193 (Int32.toNatClampNeg (cI (uI C163 r160 (Int32.toNatClampNeg (((3 : Int32) * (cI C12 a0 41)) + (cI C12 r14 (Int32.toNatClampNeg (cI C12 a0 41))))) q162) a0 41)) ((cI (uI C163 r160 (Int32.toNatClampNeg (((3 : Int32) * (cI C12 a0 41)) + (cI C12 r14 (Int32.toNatClampNeg (cI C12 a0 41))))) q162) r193 (Int32.toNatClampNeg (cI (uI C163 r160 (Int32.toNatClampNeg (((3 : Int32) * (cI C12 a0 41)) + (cI C12 r14 (Int32.toNatClampNeg (cI C12 a0 41))))) q162) a0 41))) ||| ((1 : Int32) <<< ((cI (uI C163 r160 (Int32.toNatClampNeg (((3 : Int32) * (cI C12 a0 41)) + (cI C12 r14 (Int32.toNatClampNeg (cI C12 a0 41))))) q162) r197 (Int32.toNatClampNeg (cI (uI C163 r160 (Int32.toNatClampNeg (((3 : Int32) * (cI C12 a0 41)) + (cI C12 r14 (Int32.toNatClampNeg (cI C12 a0 41))))) q162) a0 41))) &&& 31)))) a0 22).bind (fun r202 => if isK r202 12 = true then if amIn (cI (uI (uI C163 r160 (Int32.toNatClampNeg (((3 : Int32) * (cI C12 a0 41)) + (cI C12 r14 (Int32.toNatClampNeg (cI C12 a0 41))))) q162) r193 (Int32.toNatClampNeg (cI (uI C163 r160 (Int32.toNatClampNeg (((3 : Int32) * (cI C12 a0 41)) + (cI C12 r14 (Int32.toNatClampNeg (cI C12 a0 41))))) q162) a0 41)) ((cI (uI C163 r160 (Int32.toNatClampNeg (((3 : Int32) * (cI C12 a0 41)) + (cI C12 r14 (Int32.toNatClampNeg (cI C12 a0 41))))) q162) r193 (Int32.toNatClampNeg (cI (uI C163 r160 (Int32.toNatClampNeg (((3 : Int32) * (cI C12 a0 41)) + (cI C12 r14 (Int32.toNatClampNeg (cI C12 a0 41))))) q162) a0 41))) ||| ((1 : Int32) <<< ((cI (uI C163 r160 (Int32.toNatClampNeg (((3 : Int32) * (cI C12 a0 41)) + (cI C12 r14 (Int32.toNatClampNeg (cI C12 a0 41))))) q162) r197 (Int32.toNatClampNeg (cI (uI C163 r160 (Int32.toNatClampNeg (((3 : Int32) * (cI C12 a0 41)) + (cI C12 r14 (Int32.toNatClampNeg (cI C12 a0 41))))) q162) a0 41))) &&& 31)))) a0 41) (aLen r202) = true then if amIn (cI (uI (uI C163 r160 (Int32.toNatClampNeg (((3 : Int32) * (cI C12 a0 41)) + (cI C12 r14 (Int32.toNatClampNeg (cI C12 a0 41))))) q162) r193 (Int32.toNatClampNeg (cI (uI C163 r160 (Int32.toNatClampNeg (((3 : Int32) * (cI C12 a0 41)) + (cI C12 r14 (Int32.toNatClampNeg (cI C12 a0 41))))) q162) a0 41)) ((cI (uI C163 r160 (Int32.toNatClampNeg (((3 : Int32) * (cI C12 a0 41)) + (cI C12 r14 (Int32.toNatClampNeg (cI C12 a0 41))))) q162) r193 (Int32.toNatClampNeg (cI (uI C163 r160 (Int32.toNatClampNeg (((3 : Int32) * (cI C12 a0 41)) + (cI C12 r14 (Int32.toNatClampNeg (cI C12 a0 41))))) q162) a0 41))) ||| ((1 : Int32) <<< ((cI (uI C163 r160 (Int32.toNatClampNeg (((3 : Int32) * (cI C12 a0 41)) + (cI C12 r14 (Int32.toNatClampNeg (cI C12 a0 41))))) q162) r197 (Int32.toNatClampNeg (cI (uI C163 r160 (Int32.toNatClampNeg (((3 : Int32) * (cI C12 a0 41)) + (cI C12 r14 (Int32.toNatClampNeg (cI C12 a0 41))))) q162) a0 41))) &&& 31)))) a0 41) (aLen r202) = true then (f_172 n a0 (59 : Int32) (uI (uI (uI C163 r160 (Int32.toNatClampNeg (((3 : Int32) * (cI C12 a0 41)) + (cI C12 r14 (Int32.toNatClampNeg (cI C12 a0 41))))) q162) r193 (Int32.toNatClampNeg (cI (uI C163 r160 (Int32.toNatClampNeg (((3 : Int32) * (cI C12 a0 41)) + (cI C12 r14 (Int32.toNatClampNeg (cI C12 a0 41))))) q162) a0 41)) ((cI (uI C163 r160 (Int32.toNatClampNeg (((3 : Int32) * (cI C12 a0 41)) + (cI C12 r14 (Int32.toNatClampNeg (cI C12 a0 41))))) q162) r193 (Int32.toNatClampNeg (cI (uI C163 r160 (Int32.toNatClampNeg (((3 : Int32) * (cI C12 a0 41)) + (cI C12 r14 (Int32.toNatClampNeg (cI C12 a0 41))))) q162) a0 41))) ||| ((1 : Int32) <<< ((cI (uI C163 r160 (Int32.toNatClampNeg (((3 : Int32) * (cI C12 a0 41)) + (cI C12 r14 (Int32.toNatClampNeg (cI C12 a0 41))))) q162) r197 (Int32.toNatClampNeg (cI (uI C163 r160 (Int32.toNatClampNeg (((3 : Int32) * (cI C12 a0 41)) + (cI C12 r14 (Int32.toNatClampNeg (cI C12 a0 41))))) q162) a0 41))) &&& 31)))) r202 (Int32.toNatClampNeg (cI (uI (uI C163 r160 (Int32.toNatClampNeg (((3 : Int32) * (cI C12 a0 41)) + (cI C12 r14 (Int32.toNatClampNeg (cI C12 a0 41))))) q162) r193 (Int32.toNatClampNeg (cI (uI C163 r160 (Int32.toNatClampNeg (((3 : Int32) * (cI C12 a0 41)) + (cI C12 r14 (Int32.toNatClampNeg (cI C12 a0 41))))) q162) a0 41)) ((cI (uI C163 r160 (Int32.toNatClampNeg (((3 : Int32) * (cI C12 a0 41)) + (cI C12 r14 (Int32.toNatClampNeg (cI C12 a0 41))))) q162) r193 (Int32.toNatClampNeg (cI (uI C163 r160 (Int32.toNatClampNeg (((3 : Int32) * (cI C12 a0 41)) + (cI C12 r14 (Int32.toNatClampNeg (cI C12 a0 41))))) q162) a0 41))) ||| ((1 : Int32) <<< ((cI (uI C163 r160 (Int32.toNatClampNeg (((3 : Int32) * (cI C12 a0 41)) + (cI C12 r14 (Int32.toNatClampNeg (cI C12 a0 41))))) q162) r197 (Int32.toNatClampNeg (cI (uI C163 r160 (Int32.toNatClampNeg (((3 : Int32) * (cI C12 a0 41)) + (cI C12 r14 (Int32.toNatClampNeg (cI C12 a0 41))))) q162) a0 41))) &&& 31)))) a0 41)) ((cI (uI (uI C163 r160 (Int32.toNatClampNeg (((3 : Int32) * (cI C12 a0 41)) + (cI C12 r14 (Int32.toNatClampNeg (cI C12 a0 41))))) q162) r193 (Int32.toNatClampNeg (cI (uI C163 r160 (Int32.toNatClampNeg (((3 : Int32) * (cI C12 a0 41)) + (cI C12 r14 (Int32.toNatClampNeg (cI C12 a0 41))))) q162) a0 41)) ((cI (uI C163 r160 (Int32.toNatClampNeg (((3 : Int32) * (cI C12 a0 41)) + (cI C12 r14 (Int32.toNatClampNeg (cI C12 a0 41))))) q162) r193 (Int32.toNatClampNeg (cI (uI C163 r160 (Int32.toNatClampNeg (((3 : Int32) * (cI C12 a0 41)) + (cI C12 r14 (Int32.toNatClampNeg (cI C12 a0 41))))) q162) a0 41))) ||| ((1 : Int32) <<< ((cI (uI C163 r160 (Int32.toNatClampNeg (((3 : Int32) * (cI C12 a0 41)) + (cI C12 r14 (Int32.toNatClampNeg (cI C12 a0 41))))) q162) r197 (Int32.toNatClampNeg (cI (uI C163 r160 (Int32.toNatClampNeg (((3 : Int32) * (cI C12 a0 41)) + (cI C12 r14 (Int32.toNatClampNeg (cI C12 a0 41))))) q162) a0 41))) &&& 31)))) r202 (Int32.toNatClampNeg (cI (uI (uI C163 r160 (Int32.toNatClampNeg (((3 : Int32) * (cI C12 a0 41)) + (cI C12 r14 (Int32.toNatClampNeg (cI C12 a0 41))))) q162) r193 (Int32.toNatClampNeg (cI (uI C163 r160 (Int32.toNatClampNeg (((3 : Int32) * (cI C12 a0 41)) + (cI C12 r14 (Int32.toNatClampNeg (cI C12 a0 41))))) q162) a0 41)) ((cI (uI C163 r160 (Int32.toNatClampNeg (((3 : Int32) * (cI C12 a0 41)) + (cI C12 r14 (Int32.toNatClampNeg (cI C12 a0 41))))) q162) r193 (Int32.toNatClampNeg (cI (uI C163 r160 (Int32.toNatClampNeg (((3 : Int32) * (cI C12 a0 41)) + (cI C12 r14 (Int32.toNatClampNeg (cI C12 a0 41))))) q162) a0 41))) ||| ((1 : Int32) <<< ((cI (uI C163 r160 (Int32.toNatClampNeg (((3 : Int32) * (cI C12 a0 41)) + (cI C12 r14 (Int32.toNatClampNeg (cI C12 a0 41))))) q162) r197 (Int32.toNatClampNeg (cI (uI C163 r160 (Int32.toNatClampNeg (((3 : Int32) * (cI C12 a0 41)) + (cI C12 r14 (Int32.toNatClampNeg (cI C12 a0 41))))) q162) a0 41))) &&& 31)))) a0 41))) + (1 : Int32)))).bind (fun z => match z with | (q207, C208) => (if q207 = 0 then (f_170 n a0 (1 : Int32) (4 : Int32) C208).bind (fun z => match z with | (q211, C212) => some ((), C212)) else (cP C208 a0 52).bind (fun r214 => (f_192 n a0 r214 (0 : Int32) (30 : Int32) (cI C208 a0 41) C208).bind (fun z => match z with | (q216, C217) => (if ¬ q216 = (-1 : Int32) then (f_170 n a0 (0 : Int32) (4 : Int32) C217).bind (fun z => match z with | (q220, C221) => some ((), C221)) else (f_170 n a0 (1 : Int32) (4 : Int32) C217).bind (fun z => match z with | (q223, C224) => some ((), C224))))))) else none else none else none) else none else none else none) else none else none)) else some ((), uI C163 r160 (Int32.toNatClampNeg (((3 : Int32) * (cI C12 a0 41)) + (cI C12 r14 (Int32.toNatClampNeg (cI C12 a0 41))))) q162)) else none else none))) else (f_170 n a0 (1 : Int32) (3 : Int32) C30).bind (fun z => match z with | (q226, C227) => (cP C227 a0 30).bind (fun r229 => (f_176 n a0 C227).bind (fun z => match z with | (q231, C232) => if isK r229 12 = true then if amIn (((3 : Int32) * (cI C12 a0 41)) + (cI C12 r14 (Int32.toNatClampNeg (cI C12 a0 41)))) (aLen r229) = true then (if (cI (uI C232 r229 (Int32.toNatClampNeg (((3 : Int32) * (cI C12 a0 41)) + (cI C12 r14 (Int32.toNatClampNeg (cI C12 a0 41))))) q231) a0 51) = 0 then (if a1 = 0 then (cP (uI C232 r229 (Int32.toNatClampNeg (((3 : Int32) * (cI C12 a0 41)) + (cI C12 r14 (Int32.toNatClampNeg (cI C12 a0 41))))) q231) a0 22).bind (fun r238 => if isK r238 12 = true then if amIn (cI (uI C232 r229 (Int32.toNatClampNeg (((3 : Int32) * (cI C12 a0 41)) + (cI C12 r14 (Int32.toNatClampNeg (cI C12 a0 41))))) q231) a0 41) (aLen r238) = true then if amIn (cI (uI C232 r229 (Int32.toNatClampNeg (((3 : Int32) * (cI C12 a0 41)) + (cI C12 r14 (Int32.toNatClampNeg (cI C12 a0 41))))) q231) a0 41) (aLen r238) = true then (f_172 n a0 (59 : Int32) (uI (uI C232 r229 (Int32.toNatClampNeg (((3 : Int32) * (cI C12 a0 41)) + (cI C12 r14 (Int32.toNatClampNeg (cI C12 a0 41))))) q231) r238 (Int32.toNatClampNeg (cI (uI C232 r229 (Int32.toNatClampNeg (((3 : Int32) * (cI C12 a0 41)) + (cI C12 r14 (Int32.toNatClampNeg (cI C12 a0 41))))) q231) a0 41)) ((cI (uI C232 r229 (Int32.toNatClampNeg (((3 : Int32) * (cI C12 a0 41)) + (cI C12 r14 (Int32.toNatClampNeg (cI C12 a0 41))))) q231) r238 (Int32.toNatClampNeg (cI (uI C232 r229 (Int32.toNatClampNeg (((3 : Int32) * (cI C12 a0 41)) + (cI C12 r14 (Int32.toNatClampNeg (cI C12 a0 41))))) q231) a0 41))) + (1 : Int32)))).bind (fun z => match z with | (q243, C244) => (if q243 = 0 then (f_170 n a0 (1 : Int32) (4 : Int32) C244).bind (fun z => match z with | (q247, C248) => some ((), C248)) else (cP C244 a0 52).bind (fun r250 => (f_192 n a0 r250 (0 : Int32) (30 : Int32) (cI C244 a0 41) C244).bind (fun z => match z with | (q252, C253) => (if ¬ q252 = (-1 : Int32) then (f_170 n a0 (0 : Int32) (4 : Int32) C253).bind (fun z => match z with | (q256, C257) => some ((), C257)) else (f_170 n a0 (1 : Int32) (4 : Int32) C253).bind (fun z => match z with | (q259, C260) => some ((), C260))))))) else none else none else none) else (cP (uI C232 r229 (Int32.toNatClampNeg (((3 : Int32) * (cI C12 a0 41)) + (cI C12 r14 (Int32.toNatClampNeg (cI C12 a0 41))))) q231) a0 23).bind (fun r262 => if isK r262 12 = true then if amIn (cI (uI C232 r229 (Int32.toNatClampNeg (((3 : Int32) * (cI C12 a0 41)) + (cI C12 r14 (Int32.toNatClampNeg (cI C12 a0 41))))) q231) a0 41) (aLen r262) = true then (cP (uI C232 r229 (Int32.toNatClampNeg (((3 : Int32) * (cI C12 a0 41)) + (cI C12 r14 (Int32.toNatClampNeg (cI C12 a0 41))))) q231) a0 22).bind (fun r266 => if isK r266 12 = true then if amIn (cI (uI C232 r229 (Int32.toNatClampNeg (((3 : Int32) * (cI C12 a0 41)) + (cI C12 r14 (Int32.toNatClampNeg (cI C12 a0 41))))) q231) a0 41) (aLen r266) = true then if amIn (cI (uI C232 r229 (Int32.toNatClampNeg (((3 : Int32) * (cI C12 a0 41)) + (cI C12 r14 (Int32.toNatClampNeg (cI C12 a0 41))))) q231) a0 41) (aLen r262) = true then (cP (uI (uI C232 r229 (Int32.toNatClampNeg (((3 : Int32) * (cI C12 a0 41)) + (cI C12 r14 (Int32.toNatClampNeg (cI C12 a0 41))))) q231) r262 (Int32.toNatClampNeg (cI (uI C232 r229 (Int32.toNatClampNeg (((3 : Int32) * (cI C12 a0 41)) + (cI C12 r14 (Int32.toNatClampNeg (cI C12 a0 41))))) q231) a0 41)) ((cI (uI C232 r229 (Int32.toNatClampNeg (((3 : Int32) * (cI C12 a0 41)) + (cI C12 r14 (Int32.toNatClampNeg (cI C12 a0 41))))) q231) r262 (Int32.toNatClampNeg (cI (uI C232 r229 (Int32.toNatClampNeg (((3 : Int32) * (cI C12 a0 41)) + (cI C12 r14 (Int32.toNatClampNeg (cI C12 a0 41))))) q231) a0 41))) ||| ((1 : Int32) <<< ((cI (uI C232 r229 (Int32.toNatClampNeg (((3 : Int32) * (cI C12 a0 41)) + (cI C12 r14 (Int32.toNatClampNeg (cI C12 a0 41))))) q231) r266 (Int32.toNatClampNeg (cI (uI C232 r229 (Int32.toNatClampNeg (((3 : Int32) * (cI C12 a0 41)) + (cI C12 r14 (Int32.toNatClampNeg (cI C12 a0 41))))) q231) a0 41))) &&& 31)))) a0 22).bind (fun r271 => if isK r271 12 = true then if amIn (cI (uI (uI C232 r229 (Int32.toNatClampNeg (((3 : Int32) * (cI C12 a0 41)) + (cI C12 r14 (Int32.toNatClampNeg (cI C12 a0 41))))) q231) r262 (Int32.toNatClampNeg (cI (uI C232 r229 (Int32.toNatClampNeg (((3 : Int32) * (cI C12 a0 41)) + (cI C12 r14 (Int32.toNatClampNeg (cI C12 a0 41))))) q231) a0 41)) ((cI (uI C232 r229 (Int32.toNatClampNeg (((3 : Int32) * (cI C12 a0 41)) + (cI C12 r14 (Int32.toNatClampNeg (cI C12 a0 41))))) q231) r262 (Int32.toNatClampNeg (cI (uI C232 r229 (Int32.toNatClampNeg (((3 : Int32) * (cI C12 a0 41)) + (cI C12 r14 (Int32.toNatClampNeg (cI C12 a0 41))))) q231) a0 41))) ||| ((1 : Int32) <<< ((cI (uI C232 r229 (Int32.toNatClampNeg (((3 : Int32) * (cI C12 a0 41)) + (cI C12 r14 (Int32.toNatClampNeg (cI C12 a0 41))))) q231) r266 (Int32.toNatClampNeg (cI (uI C232 r229 (Int32.toNatClampNeg (((3 : Int32) * (cI C12 a0 41)) + (cI C12 r14 (Int32.toNatClampNeg (cI C12 a0 41))))) q231) a0 41))) &&& 31)))) a0 41) (aLen r271) = true then if amIn (cI (uI (uI C232 r229 (Int32.toNatClampNeg (((3 : Int32) * (cI C12 a0 41)) + (cI C12 r14 (Int32.toNatClampNeg (cI C12 a0 41))))) q231) r262 (Int32.toNatClampNeg (cI (uI C232 r229 (Int32.toNatClampNeg (((3 : Int32) * (cI C12 a0 41)) + (cI C12 r14 (Int32.toNatClampNeg (cI C12 a0 41))))) q231) a0 41)) ((cI (uI C232 r229 (Int32.toNatClampNeg (((3 : Int32) * (cI C12 a0 41)) + (cI C12 r14 (Int32.toNatClampNeg (cI C12 a0 41))))) q231) r262 (Int32.toNatClampNeg (cI (uI C232 r229 (Int32.toNatClampNeg (((3 : Int32) * (cI C12 a0 41)) + (cI C12 r14 (Int32.toNatClampNeg (cI C12 a0 41))))) q231) a0 41))) ||| ((1 : Int32) <<< ((cI (uI C232 r229 (Int32.toNatClampNeg (((3 : Int32) * (cI C12 a0 41)) + (cI C12 r14 (Int32.toNatClampNeg (cI C12 a0 41))))) q231) r266 (Int32.toNatClampNeg (cI (uI C232 r229 (Int32.toNatClampNeg (((3 : Int32) * (cI C12 a0 41)) + (cI C12 r14 (Int32.toNatClampNeg (cI C12 a0 41))))) q231) a0 41))) &&& 31)))) a0 41) (aLen r271) = true then (f_172 n a0 (59 : Int32) (uI (uI (uI C232 r229 (Int32.toNatClampNeg (((3 : Int32) * (cI C12 a0 41)) + (cI C12 r14 (Int32.toNatClampNeg (cI C12 a0 41))))) q231) r262 (Int32.toNatClampNeg (cI (uI C232 r229 (Int32.toNatClampNeg (((3 : Int32) * (cI C12 a0 41)) + (cI C12 r14 (Int32.toNatClampNeg (cI C12 a0 41))))) q231) a0 41)) ((cI (uI C232 r229 (Int32.toNatClampNeg (((3 : Int32) * (cI C12 a0 41)) + (cI C12 r14 (Int32.toNatClampNeg (cI C12 a0 41))))) q231) r262 (Int32.toNatClampNeg (cI (uI C232 r229 (Int32.toNatClampNeg (((3 : Int32) * (cI C12 a0 41)) + (cI C12 r14 (Int32.toNatClampNeg (cI C12 a0 41))))) q231) a0 41))) ||| ((1 : Int32) <<< ((cI (uI C232 r229 (Int32.toNatClampNeg (((3 : Int32) * (cI C12 a0 41)) + (cI C12 r14 (Int32.toNatClampNeg (cI C12 a0 41))))) q231) r266 (Int32.toNatClampNeg (cI (uI C232 r229 (Int32.toNatClampNeg (((3 : Int32) * (cI C12 a0 41)) + (cI C12 r14 (Int32.toNatClampNeg (cI C12 a0 41))))) q231) a0 41))) &&& 31)))) r271 (Int32.toNatClampNeg (cI (uI (uI C232 r229 (Int32.toNatClampNeg (((3 : Int32) * (cI C12 a0 41)) + (cI C12 r14 (Int32.toNatClampNeg (cI C12 a0 41))))) q231) r262 (Int32.toNatClampNeg (cI (uI C232 r229 (Int32.toNatClampNeg (((3 : Int32) * (cI C12 a0 41)) + (cI C12 r14 (Int32.toNatClampNeg (cI C12 a0 41))))) q231) a0 41)) ((cI (uI C232 r229 (Int32.toNatClampNeg (((3 : Int32) * (cI C12 a0 41)) + (cI C12 r14 (Int32.toNatClampNeg (cI C12 a0 41))))) q231) r262 (Int32.toNatClampNeg (cI (uI C232 r229 (Int32.toNatClampNeg (((3 : Int32) * (cI C12 a0 41)) + (cI C12 r14 (Int32.toNatClampNeg (cI C12 a0 41))))) q231) a0 41))) ||| ((1 : Int32) <<< ((cI (uI C232 r229 (Int32.toNatClampNeg (((3 : Int32) * (cI C12 a0 41)) + (cI C12 r14 (Int32.toNatClampNeg (cI C12 a0 41))))) q231) r266 (Int32.toNatClampNeg (cI (uI C232 r229 (Int32.toNatClampNeg (((3 : Int32) * (cI C12 a0 41)) + (cI C12 r14 (Int32.toNatClampNeg (cI C12 a0 41))))) q231) a0 41))) &&& 31)))) a0 41)) ((cI (uI (uI C232 r229 (Int32.toNatClampNeg (((3 : Int32) * (cI C12 a0 41)) + (cI C12 r14 (Int32.toNatClampNeg (cI C12 a0 41))))) q231) r262 (Int32.toNatClampNeg (cI (uI C232 r229 (Int32.toNatClampNeg (((3 : Int32) * (cI C12 a0 41)) + (cI C12 r14 (Int32.toNatClampNeg (cI C12 a0 41))))) q231) a0 41)) ((cI (uI C232 r229 (Int32.toNatClampNeg (((3 : Int32) * (cI C12 a0 41)) + (cI C12 r14 (Int32.toNatClampNeg (cI C12 a0 41))))) q231) r262 (Int32.toNatClampNeg (cI (uI C232 r229 (Int32.toNatClampNeg (((3 : Int32) * (cI C12 a0 41)) + (cI C12 r14 (Int32.toNatClampNeg (cI C12 a0 41))))) q231) a0 41))) ||| ((1 : Int32) <<< ((cI (uI C232 r229 (Int32.toNatClampNeg (((3 : Int32) * (cI C12 a0 41)) + (cI C12 r14 (Int32.toNatClampNeg (cI C12 a0 41))))) q231) r266 (Int32.toNatClampNeg (cI (uI C232 r229 (Int32.toNatClampNeg (((3 : Int32) * (cI C12 a0 41)) + (cI C12 r14 (Int32.toNatClampNeg (cI C12 a0 41))))) q231) a0 41))) &&& 31)))) r271 (Int32.toNatClampNeg (cI (uI (uI C232 r229 (Int32.toNatClampNeg (((3 : Int32) * (cI C12 a0 41)) + (cI C12 r14 (Int32.toNatClampNeg (cI C12 a0 41))))) q231) r262 (Int32.toNatClampNeg (cI (uI C232 r229 (Int32.toNatClampNeg (((3 : Int32) * (cI C12 a0 41)) + (cI C12 r14 (Int32.toNatClampNeg (cI C12 a0 41))))) q231) a0 41)) ((cI (uI C232 r229 (Int32.toNatClampNeg (((3 : Int32) * (cI C12 a0 41)) + (cI C12 r14 (Int32.toNatClampNeg (cI C12 a0 41))))) q231) r262 (Int32.toNatClampNeg (cI (uI C232 r229 (Int32.toNatClampNeg (((3 : Int32) * (cI C12 a0 41)) + (cI C12 r14 (Int32.toNatClampNeg (cI C12 a0 41))))) q231) a0 41))) ||| ((1 : Int32) <<< ((cI (uI C232 r229 (Int32.toNatClampNeg (((3 : Int32) * (cI C12 a0 41)) + (cI C12 r14 (Int32.toNatClampNeg (cI C12 a0 41))))) q231) r266 (Int32.toNatClampNeg (cI (uI C232 r229 (Int32.toNatClampNeg (((3 : Int32) * (cI C12 a0 41)) + (cI C12 r14 (Int32.toNatClampNeg (cI C12 a0 41))))) q231) a0 41))) &&& 31)))) a0 41))) + (1 : Int32)))).bind (fun z => match z with | (q276, C277) => (if q276 = 0 then (f_170 n a0 (1 : Int32) (4 : Int32) C277).bind (fun z => match z with | (q280, C281) => some ((), C281)) else (cP C277 a0 52).bind (fun r283 => (f_192 n a0 r283 (0 : Int32) (30 : Int32) (cI C277 a0 41) C277).bind (fun z => match z with | (q285, C286) => (if ¬ q285 = (-1 : Int32) then (f_170 n a0 (0 : Int32) (4 : Int32) C286).bind (fun z => match z with | (q289, C290) => some ((), C290)) else (f_170 n a0 (1 : Int32) (4 : Int32) C286).bind (fun z => match z with | (q292, C293) => some ((), C293))))))) else none else none else none) else none else none else none) else none else none)) else some ((), uI C232 r229 (Int32.toNatClampNeg (((3 : Int32) * (cI C12 a0 41)) + (cI C12 r14 (Int32.toNatClampNeg (cI C12 a0 41))))) q231)) else none else none)))) else none else none)))) else none else none) else none else none)) else none else none)) else some ((), C8))) else (f_170 n a0 (1 : Int32) (2 : Int32) C).bind (fun z => match z with | (q295, C296) => (if ¬ q295 = 0 then (f_169 n a0 C296).bind (fun z => match z with | (_, C300) => (cP C300 a0 22).bind (fun r302 => if isK r302 12 = true then if amIn (cI C300 a0 41) (aLen r302) = true then (cP C300 a0 29).bind (fun r306 => (f_176 n a0 C300).bind (fun z => match z with | (q308, C309) => if isK r306 12 = true then if amIn (((3 : Int32) * (cI C300 a0 41)) + (cI C300 r302 (Int32.toNatClampNeg (cI C300 a0 41)))) (aLen r306) = true then (cP (uI C309 r306 (Int32.toNatClampNeg (((3 : Int32) * (cI C300 a0 41)) + (cI C300 r302 (Int32.toNatClampNeg (cI C300 a0 41))))) q308) a0 30).bind (fun r313 => if isK r313 12 = true then if amIn (((3 : Int32) * (cI C300 a0 41)) + (cI C300 r302 (Int32.toNatClampNeg (cI C300 a0 41)))) (aLen r313) = true then (f_175 n a0 (uI (uI C309 r306 (Int32.toNatClampNeg (((3 : Int32) * (cI C300 a0 41)) + (cI C300 r302 (Int32.toNatClampNeg (cI C300 a0 41))))) q308) r313 (Int32.toNatClampNeg (((3 : Int32) * (cI C300 a0 41)) + (cI C300 r302 (Int32.toNatClampNeg (cI C300 a0 41))))) (-1 : Int32))).bind (fun z => match z with | (q317, C318) => (if q317 = 0 then (if (cI C318 a0 51) = 0 then (if a1 = 0 then (cP C318 a0 22).bind (fun r323 => if isK r323 12 = true then if amIn (cI C318 a0 41) (aLen r323) = true then if amIn (cI C318 a0 41) (aLen r323) = true then (f_172 n a0 (59 : Int32) (uI C318 r323 (Int32.toNatClampNeg (cI C318 a0 41)) ((cI C318 r323 (Int32.toNatClampNeg (cI C318 a0 41))) + (1 : Int32)))).bind (fun z => match z with | (q328, C329) => (if q328 = 0 then (f_170 n a0 (1 : Int32) (4 : Int32) C329).bind (fun z => match z with | (q332, C333) => some ((), C333)) else (cP C329 a0 52).bind (fun r335 => (f_192 n a0 r335 (0 : Int32) (30 : Int32) (cI C329 a0 41) C329).bind (fun z => match z with | (q337, C338) => (if ¬ q337 = (-1 : Int32) then (f_170 n a0 (0 : Int32) (4 : Int32) C338).bind (fun z => match z with | (q341, C342) => some ((), C342)) else (f_170 n a0 (1 : Int32) (4 : Int32) C338).bind (fun z => match z with | (q344, C345) => some ((), C345))))))) else none else none else none) else (cP C318 a0 23).bind (fun r347 => if isK r347 12 = true then if amIn (cI C318 a0 41) (aLen r347) = true then (cP C318 a0 22).bind (fun r351 => if isK r351 12 = true then if amIn (cI C318 a0 41) (aLen r351) = true then if amIn (cI C318 a0 41) (aLen r347) = true then (cP (uI C318 r347 (Int32.toNatClampNeg (cI C318 a0 41)) ((cI C318 r347 (Int32.toNatClampNeg (cI C318 a0 41))) ||| ((1 : Int32) <<< ((cI C318 r351 (Int32.toNatClampNeg (cI C318 a0 41))) &&& 31)))) a0 22).bind (fun r356 => if isK r356 12 = true then if amIn (cI (uI C318 r347 (Int32.toNatClampNeg (cI C318 a0 41)) ((cI C318 r347 (Int32.toNatClampNeg (cI C318 a0 41))) ||| ((1 : Int32) <<< ((cI C318 r351 (Int32.toNatClampNeg (cI C318 a0 41))) &&& 31)))) a0 41) (aLen r356) = true then if amIn (cI (uI C318 r347 (Int32.toNatClampNeg (cI C318 a0 41)) ((cI C318 r347 (Int32.toNatClampNeg (cI C318 a0 41))) ||| ((1 : Int32) <<< ((cI C318 r351 (Int32.toNatClampNeg (cI C318 a0 41))) &&& 31)))) a0 41) (aLen r356) = true then (f_172 n a0 (59 : Int32) (uI (uI C318 r347 (Int32.toNatClampNeg (cI C318 a0 41)) ((cI C318 r347 (Int32.toNatClampNeg (cI C318 a0 41))) ||| ((1 : Int32) <<< ((cI C318 r351 (Int32.toNatClampNeg (cI C318 a0 41))) &&& 31)))) r356 (Int32.toNatClampNeg (cI (uI C318 r347 (Int32.toNatClampNeg (cI C318 a0 41)) ((cI C318 r347 (Int32.toNatClampNeg (cI C318 a0 41))) ||| ((1 : Int32) <<< ((cI C318 r351 (Int32.toNatClampNeg (cI C318 a0 41))) &&& 31)))) a0 41)) ((cI (uI C318 r347 (Int32.toNatClampNeg (cI C318 a0 41)) ((cI C318 r347 (Int32.toNatClampNeg (cI C318 a0 41))) ||| ((1 : Int32) <<< ((cI C318 r351 (Int32.toNatClampNeg (cI C318 a0 41))) &&& 31)))) r356 (Int32.toNatClampNeg (cI (uI C318 r347 (Int32.toNatClampNeg (cI C318 a0 41)) ((cI C318 r347 (Int32.toNatClampNeg (cI C318 a0 41))) ||| ((1 : Int32) <<< ((cI C318 r351 (Int32.toNatClampNeg (cI C318 a0 41))) &&& 31)))) a0 41))) + (1 : Int32)))).bind (fun z => match z with | (q361, C362) => (if q361 = 0 then (f_170 n a0 (1 : Int32) (4 : Int32) C362).bind (fun z => match z with | (q365, C366) => some ((), C366)) else (cP C362 a0 52).bind (fun r368 => (f_192 n a0 r368 (0 : Int32) (30 : Int32) (cI C362 a0 41) C362).bind (fun z => match z with | (q370, C371) => (if ¬ q370 = (-1 : Int32) then (f_170 n a0 (0 : Int32) (4 : Int32) C371).bind (fun z => match z with | (q374, C375) => some ((), C375)) else (f_170 n a0 (1 : Int32) (4 : Int32) C371).bind (fun z => match z with | (q377, C378) => some ((), C378))))))) else none else none else none) else none else none else none) else none else none)) else some ((), C318)) else (if ¬ (cI C318 a0 51) = 0 then (if (cI C318 a0 51) = 0 then (if a1 = 0 then (cP C318 a0 22).bind (fun r383 => if isK r383 12 = true then if amIn (cI C318 a0 41) (aLen r383) = true then if amIn (cI C318 a0 41) (aLen r383) = true then (f_172 n a0 (59 : Int32) (uI C318 r383 (Int32.toNatClampNeg (cI C318 a0 41)) ((cI C318 r383 (Int32.toNatClampNeg (cI C318 a0 41))) + (1 : Int32)))).bind (fun z => match z with | (q388, C389) => (if q388 = 0 then (f_170 n a0 (1 : Int32) (4 : Int32) C389).bind (fun z => match z with | (q392, C393) => some ((), C393)) else (cP C389 a0 52).bind (fun r395 => (f_192 n a0 r395 (0 : Int32) (30 : Int32) (cI C389 a0 41) C389).bind (fun z => match z with | (q397, C398) => (if ¬ q397 = (-1 : Int32) then (f_170 n a0 (0 : Int32) (4 : Int32) C398).bind (fun z => match z with | (q401, C402) => some ((), C402)) else (f_170 n a0 (1 : Int32) (4 : Int32) C398).bind (fun z => match z with | (q404, C405) => some ((), C405))))))) else none else none else none) else (cP C318 a0 23).bind (fun r407 => if isK r407 12 = true then if amIn (cI C318 a0 41) (aLen r407) = true then (cP C318 a0 22).bind (fun r411 => if isK r411 12 = true then if amIn (cI C318 a0 41) (aLen r411) = true then if amIn (cI C318 a0 41) (aLen r407) = true then (cP (uI C318 r407 (Int32.toNatClampNeg (cI C318 a0 41)) ((cI C318 r407 (Int32.toNatClampNeg (cI C318 a0 41))) ||| ((1 : Int32) <<< ((cI C318 r411 (Int32.toNatClampNeg (cI C318 a0 41))) &&& 31)))) a0 22).bind (fun r416 => if isK r416 12 = true then if amIn (cI (uI C318 r407 (Int32.toNatClampNeg (cI C318 a0 41)) ((cI C318 r407 (Int32.toNatClampNeg (cI C318 a0 41))) ||| ((1 : Int32) <<< ((cI C318 r411 (Int32.toNatClampNeg (cI C318 a0 41))) &&& 31)))) a0 41) (aLen r416) = true then if amIn (cI (uI C318 r407 (Int32.toNatClampNeg (cI C318 a0 41)) ((cI C318 r407 (Int32.toNatClampNeg (cI C318 a0 41))) ||| ((1 : Int32) <<< ((cI C318 r411 (Int32.toNatClampNeg (cI C318 a0 41))) &&& 31)))) a0 41) (aLen r416) = true then (f_172 n a0 (59 : Int32) (uI (uI C318 r407 (Int32.toNatClampNeg (cI C318 a0 41)) ((cI C318 r407 (Int32.toNatClampNeg (cI C318 a0 41))) ||| ((1 : Int32) <<< ((cI C318 r411 (Int32.toNatClampNeg (cI C318 a0 41))) &&& 31)))) r416 (Int32.toNatClampNeg (cI (uI C318 r407 (Int32.toNatClampNeg (cI C318 a0 41)) ((cI C318 r407 (Int32.toNatClampNeg (cI C318 a0 41))) ||| ((1 : Int32) <<< ((cI C318 r411 (Int32.toNatClampNeg (cI C318 a0 41))) &&& 31)))) a0 41)) ((cI (uI C318 r407 (Int32.toNatClampNeg (cI C318 a0 41)) ((cI C318 r407 (Int32.toNatClampNeg (cI C318 a0 41))) ||| ((1 : Int32) <<< ((cI C318 r411 (Int32.toNatClampNeg (cI C318 a0 41))) &&& 31)))) r416 (Int32.toNatClampNeg (cI (uI C318 r407 (Int32.toNatClampNeg (cI C318 a0 41)) ((cI C318 r407 (Int32.toNatClampNeg (cI C318 a0 41))) ||| ((1 : Int32) <<< ((cI C318 r411 (Int32.toNatClampNeg (cI C318 a0 41))) &&& 31)))) a0 41))) + (1 : Int32)))).bind (fun z => match z with | (q421, C422) => (if q421 = 0 then (f_170 n a0 (1 : Int32) (4 : Int32) C422).bind (fun z => match z with | (q425, C426) => some ((), C426)) else (cP C422 a0 52).bind (fun r428 => (f_192 n a0 r428 (0 : Int32) (30 : Int32) (cI C422 a0 41) C422).bind (fun z => match z with | (q430, C431) => (if ¬ q430 = (-1 : Int32) then (f_170 n a0 (0 : Int32) (4 : Int32) C431).bind (fun z => match z with | (q434, C435) => some ((), C435)) else (f_170 n a0 (1 : Int32) (4 : Int32) C431).bind (fun z => match z with | (q437, C438) => some ((), C438))))))) else none else none else none) else none else none else none) else none else none)) else some ((), C318)) else (cP C318 a0 29).bind (fun r440 => if isK r440 12 = true then if amIn (((3 : Int32) * (cI C300 a0 41)) + (cI C300 r302 (Int32.toNatClampNeg (cI C300 a0 41)))) (aLen r440) = true then (if ((cI C318 a0 50) - (17 : Int32)) = (cI C318 r440 (Int32.toNatClampNeg (((3 : Int32) * (cI C300 a0 41)) + (cI C300 r302 (Int32.toNatClampNeg (cI C300 a0 41)))))) then (f_170 n a0 (0 : Int32) (3 : Int32) C318).bind (fun z => match z with | (q445, C446) => (cP C446 a0 30).bind (fun r448 => (f_176 n a0 C446).bind (fun z => match z with | (q450, C451) => if isK r448 12 = true then if amIn (((3 : Int32) * (cI C300 a0 41)) + (cI C300 r302 (Int32.toNatClampNeg (cI C300 a0 41)))) (aLen r448) = true then (if (cI (uI C451 r448 (Int32.toNatClampNeg (((3 : Int32) * (cI C300 a0 41)) + (cI C300 r302 (Int32.toNatClampNeg (cI C300 a0 41))))) q450) a0 51) = 0 then (if a1 = 0 then (cP (uI C451 r448 (Int32.toNatClampNeg (((3 : Int32) * (cI C300 a0 41)) + (cI C300 r302 (Int32.toNatClampNeg (cI C300 a0 41))))) q450) a0 22).bind (fun r457 => if isK r457 12 = true then if amIn (cI (uI C451 r448 (Int32.toNatClampNeg (((3 : Int32) * (cI C300 a0 41)) + (cI C300 r302 (Int32.toNatClampNeg (cI C300 a0 41))))) q450) a0 41) (aLen r457) = true then if amIn (cI (uI C451 r448 (Int32.toNatClampNeg (((3 : Int32) * (cI C300 a0 41)) + (cI C300 r302 (Int32.toNatClampNeg (cI C300 a0 41))))) q450) a0 41) (aLen r457) = true then (f_172 n a0 (59 : Int32) (uI (uI C451 r448 (Int32.toNatClampNeg (((3 : Int32) * (cI C300 a0 41)) + (cI C300 r302 (Int32.toNatClampNeg (cI C300 a0 41))))) q450) r457 (Int32.toNatClampNeg (cI (uI C451 r448 (Int32.toNatClampNeg (((3 : Int32) * (cI C300 a0 41)) + (cI C300 r302 (Int32.toNatClampNeg (cI C300 a0 41))))) q450) a0 41)) ((cI (uI C451 r448 (Int32.toNatClampNeg (((3 : Int32) * (cI C300 a0 41)) + (cI C300 r302 (Int32.toNatClampNeg (cI C300 a0 41))))) q450) r457 (Int32.toNatClampNeg (cI (uI C451 r448 (Int32.toNatClampNeg (((3 : Int32) * (cI C300 a0 41)) + (cI C300 r302 (Int32.toNatClampNeg (cI C300 a0 41))))) q450) a0 41))) + (1 : Int32)))).bind (fun z => match z with | (q462, C463) => (if q462 = 0 then (f_170 n a0 (1 : Int32) (4 : Int32) C463).bind (fun z => match z with | (q466, C467) => some ((), C467)) else (cP C463 a0 52).bind (fun r469 => (f_192 n a0 r469 (0 : Int32) (30 : Int32) (cI C463 a0 41) C463).bind (fun z => match z with | (q471, C472) => (if ¬ q471 = (-1 : Int32) then (f_170 n a0 (0 : Int32) (4 : Int32) C472).bind (fun z => match z with | (q475, C476) => some ((), C476)) else (f_170 n a0 (1 : Int32) (4 : Int32) C472).bind (fun z => match z with | (q478, C479) => some ((), C479))))))) else none else none else none) else (cP (uI C451 r448 (Int32.toNatClampNeg (((3 : Int32) * (cI C300 a0 41)) + (cI C300 r302 (Int32.toNatClampNeg (cI C300 a0 41))))) q450) a0 23).bind (fun r481 => if isK r481 12 = true then if amIn (cI (uI C451 r448 (Int32.toNatClampNeg (((3 : Int32) * (cI C300 a0 41)) + (cI C300 r302 (Int32.toNatClampNeg (cI C300 a0 41))))) q450) a0 41) (aLen r481) = true then (cP (uI C451 r448 (Int32.toNatClampNeg (((3 : Int32) * (cI C300 a0 41)) + (cI C300 r302 (Int32.toNatClampNeg (cI C300 a0 41))))) q450) a0 22).bind (fun r485 => if isK r485 12 = true then if amIn (cI (uI C451 r448 (Int32.toNatClampNeg (((3 : Int32) * (cI C300 a0 41)) + (cI C300 r302 (Int32.toNatClampNeg (cI C300 a0 41))))) q450) a0 41) (aLen r485) = true then if amIn (cI (uI C451 r448 (Int32.toNatClampNeg (((3 : Int32) * (cI C300 a0 41)) + (cI C300 r302 (Int32.toNatClampNeg (cI C300 a0 41))))) q450) a0 41) (aLen r481) = true then (cP (uI (uI C451 r448 (Int32.toNatClampNeg (((3 : Int32) * (cI C300 a0 41)) + (cI C300 r302 (Int32.toNatClampNeg (cI C300 a0 41))))) q450) r481 (Int32.toNatClampNeg (cI (uI C451 r448 (Int32.toNatClampNeg (((3 : Int32) * (cI C300 a0 41)) + (cI C300 r302 (Int32.toNatClampNeg (cI C300 a0 41))))) q450) a0 41)) ((cI (uI C451 r448 (Int32.toNatClampNeg (((3 : Int32) * (cI C300 a0 41)) + (cI C300 r302 (Int32.toNatClampNeg (cI C300 a0 41))))) q450) r481 (Int32.toNatClampNeg (cI (uI C451 r448 (Int32.toNatClampNeg (((3 : Int32) * (cI C300 a0 41)) + (cI C300 r302 (Int32.toNatClampNeg (cI C300 a0 41))))) q450) a0 41))) ||| ((1 : Int32) <<< ((cI (uI C451 r448 (Int32.toNatClampNeg (((3 : Int32) * (cI C300 a0 41)) + (cI C300 r302 (Int32.toNatClampNeg (cI C300 a0 41))))) q450) r485 (Int32.toNatClampNeg (cI (uI C451 r448 (Int32.toNatClampNeg (((3 : Int32) * (cI C300 a0 41)) + (cI C300 r302 (Int32.toNatClampNeg (cI C300 a0 41))))) q450) a0 41))) &&& 31)))) a0 22).bind (fun r490 => if isK r490 12 = true then if amIn (cI (uI (uI C451 r448 (Int32.toNatClampNeg (((3 : Int32) * (cI C300 a0 41)) + (cI C300 r302 (Int32.toNatClampNeg (cI C300 a0 41))))) q450) r481 (Int32.toNatClampNeg (cI (uI C451 r448 (Int32.toNatClampNeg (((3 : Int32) * (cI C300 a0 41)) + (cI C300 r302 (Int32.toNatClampNeg (cI C300 a0 41))))) q450) a0 41)) ((cI (uI C451 r448 (Int32.toNatClampNeg (((3 : Int32) * (cI C300 a0 41)) + (cI C300 r302 (Int32.toNatClampNeg (cI C300 a0 41))))) q450) r481 (Int32.toNatClampNeg (cI (uI C451 r448 (Int32.toNatClampNeg (((3 : Int32) * (cI C300 a0 41)) + (cI C300 r302 (Int32.toNatClampNeg (cI C300 a0 41))))) q450) a0 41))) ||| ((1 : Int32) <<< ((cI (uI C451 r448 (Int32.toNatClampNeg (((3 : Int32) * (cI C300 a0 41)) + (cI C300 r302 (Int32.toNatClampNeg (cI C300 a0 41))))) q450) r485 (Int32.toNatClampNeg (cI (uI C451 r448 (Int32.toNatClampNeg (((3 : Int32) * (cI C300 a0 41)) + (cI C300 r302 (Int32.toNatClampNeg (cI C300 a0 41))))) q450) a0 41))) &&& 31)))) a0 41) (aLen r490) = true then if amIn (cI (uI (uI C451 r448 (Int32.toNatClampNeg (((3 : Int32) * (cI C300 a0 41)) + (cI C300 r302 (Int32.toNatClampNeg (cI C300 a0 41))))) q450) r481 (Int32.toNatClampNeg (cI (uI C451 r448 (Int32.toNatClampNeg (((3 : Int32) * (cI C300 a0 41)) + (cI C300 r302 (Int32.toNatClampNeg (cI C300 a0 41))))) q450) a0 41)) ((cI (uI C451 r448 (Int32.toNatClampNeg (((3 : Int32) * (cI C300 a0 41)) + (cI C300 r302 (Int32.toNatClampNeg (cI C300 a0 41))))) q450) r481 (Int32.toNatClampNeg (cI (uI C451 r448 (Int32.toNatClampNeg (((3 : Int32) * (cI C300 a0 41)) + (cI C300 r302 (Int32.toNatClampNeg (cI C300 a0 41))))) q450) a0 41))) ||| ((1 : Int32) <<< ((cI (uI C451 r448 (Int32.toNatClampNeg (((3 : Int32) * (cI C300 a0 41)) + (cI C300 r302 (Int32.toNatClampNeg (cI C300 a0 41))))) q450) r485 (Int32.toNatClampNeg (cI (uI C451 r448 (Int32.toNatClampNeg (((3 : Int32) * (cI C300 a0 41)) + (cI C300 r302 (Int32.toNatClampNeg (cI C300 a0 41))))) q450) a0 41))) &&& 31)))) a0 41) (aLen r490) = true then (f_172 n a0 (59 : Int32) (uI (uI (uI C451 r448 (Int32.toNatClampNeg (((3 : Int32) * (cI C300 a0 41)) + (cI C300 r302 (Int32.toNatClampNeg (cI C300 a0 41))))) q450) r481 (Int32.toNatClampNeg (cI (uI C451 r448 (Int32.toNatClampNeg (((3 : Int32) * (cI C300 a0 41)) + (cI C300 r302 (Int32.toNatClampNeg (cI C300 a0 41))))) q450) a0 41)) ((cI (uI C451 r448 (Int32.toNatClampNeg (((3 : Int32) * (cI C300 a0 41)) + (cI C300 r302 (Int32.toNatClampNeg (cI C300 a0 41))))) q450) r481 (Int32.toNatClampNeg (cI (uI C451 r448 (Int32.toNatClampNeg (((3 : Int32) * (cI C300 a0 41)) + (cI C300 r302 (Int32.toNatClampNeg (cI C300 a0 41))))) q450) a0 41))) ||| ((1 : Int32) <<< ((cI (uI C451 r448 (Int32.toNatClampNeg (((3 : Int32) * (cI C300 a0 41)) + (cI C300 r302 (Int32.toNatClampNeg (cI C300 a0 41))))) q450) r485 (Int32.toNatClampNeg (cI (uI C451 r448 (Int32.toNatClampNeg (((3 : Int32) * (cI C300 a0 41)) + (cI C300 r302 (Int32.toNatClampNeg (cI C300 a0 41))))) q450) a0 41))) &&& 31)))) r490 (Int32.toNatClampNeg (cI (uI (uI C451 r448 (Int32.toNatClampNeg (((3 : Int32) * (cI C300 a0 41)) + (cI C300 r302 (Int32.toNatClampNeg (cI C300 a0 41))))) q450) r481 (Int32.toNatClampNeg (cI (uI C451 r448 (Int32.toNatClampNeg (((3 : Int32) * (cI C300 a0 41)) + (cI C300 r302 (Int32.toNatClampNeg (cI C300 a0 41))))) q450) a0 41)) ((cI (uI C451 r448 (Int32.toNatClampNeg (((3 : Int32) * (cI C300 a0 41)) + (cI C300 r302 (Int32.toNatClampNeg (cI C300 a0 41))))) q450) r481 (Int32.toNatClampNeg (cI (uI C451 r448 (Int32.toNatClampNeg (((3 : Int32) * (cI C300 a0 41)) + (cI C300 r302 (Int32.toNatClampNeg (cI C300 a0 41))))) q450) a0 41))) ||| ((1 : Int32) <<< ((cI (uI C451 r448 (Int32.toNatClampNeg (((3 : Int32) * (cI C300 a0 41)) + (cI C300 r302 (Int32.toNatClampNeg (cI C300 a0 41))))) q450) r485 (Int32.toNatClampNeg (cI (uI C451 r448 (Int32.toNatClampNeg (((3 : Int32) * (cI C300 a0 41)) + (cI C300 r302 (Int32.toNatClampNeg (cI C300 a0 41))))) q450) a0 41))) &&& 31)))) a0 41)) ((cI (uI (uI C451 r448 (Int32.toNatClampNeg (((3 : Int32) * (cI C300 a0 41)) + (cI C300 r302 (Int32.toNatClampNeg (cI C300 a0 41))))) q450) r481 (Int32.toNatClampNeg (cI (uI C451 r448 (Int32.toNatClampNeg (((3 : Int32) * (cI C300 a0 41)) + (cI C300 r302 (Int32.toNatClampNeg (cI C300 a0 41))))) q450) a0 41)) ((cI (uI C451 r448 (Int32.toNatClampNeg (((3 : Int32) * (cI C300 a0 41)) + (cI C300 r302 (Int32.toNatClampNeg (cI C300 a0 41))))) q450) r481 (Int32.toNatClampNeg (cI (uI C451 r448 (Int32.toNatClampNeg (((3 : Int32) * (cI C300 a0 41)) + (cI C300 r302 (Int32.toNatClampNeg (cI C300 a0 41))))) q450) a0 41))) ||| ((1 : Int32) <<< ((cI (uI C451 r448 (Int32.toNatClampNeg (((3 : Int32) * (cI C300 a0 41)) + (cI C300 r302 (Int32.toNatClampNeg (cI C300 a0 41))))) q450) r485 (Int32.toNatClampNeg (cI (uI C451 r448 (Int32.toNatClampNeg (((3 : Int32) * (cI C300 a0 41)) + (cI C300 r302 (Int32.toNatClampNeg (cI C300 a0 41))))) q450) a0 41))) &&& 31)))) r490 (Int32.toNatClampNeg (cI (uI (uI C451 r448 (Int32.toNatClampNeg (((3 : Int32) * (cI C300 a0 41)) + (cI C300 r302 (Int32.toNatClampNeg (cI C300 a0 41))))) q450) r481 (Int32.toNatClampNeg (cI (uI C451 r448 (Int32.toNatClampNeg (((3 : Int32) * (cI C300 a0 41)) + (cI C300 r302 (Int32.toNatClampNeg (cI C300 a0 41))))) q450) a0 41)) ((cI (uI C451 r448 (Int32.toNatClampNeg (((3 : Int32) * (cI C300 a0 41)) + (cI C300 r302 (Int32.toNatClampNeg (cI C300 a0 41))))) q450) r481 (Int32.toNatClampNeg (cI (uI C451 r448 (Int32.toNatClampNeg (((3 : Int32) * (cI C300 a0 41)) + (cI C300 r302 (Int32.toNatClampNeg (cI C300 a0 41))))) q450) a0 41))) ||| ((1 : Int32) <<< ((cI (uI C451 r448 (Int32.toNatClampNeg (((3 : Int32) * (cI C300 a0 41)) + (cI C300 r302 (Int32.toNatClampNeg (cI C300 a0 41))))) q450) r485 (Int32.toNatClampNeg (cI (uI C451 r448 (Int32.toNatClampNeg (((3 : Int32) * (cI C300 a0 41)) + (cI C300 r302 (Int32.toNatClampNeg (cI C300 a0 41))))) q450) a0 41))) &&& 31)))) a0 41))) + (1 : Int32)))).bind (fun z => match z with | (q495, C496) => (if q495 = 0 then (f_170 n a0 (1 : Int32) (4 : Int32) C496).bind (fun z => match z with | (q499, C500) => some ((), C500)) else (cP C496 a0 52).bind (fun r502 => (f_192 n a0 r502 (0 : Int32) (30 : Int32) (cI C496 a0 41) C496).bind (fun z => match z with | (q504, C505) => (if ¬ q504 = (-1 : Int32) then (f_170 n a0 (0 : Int32) (4 : Int32) C505).bind (fun z => match z with | (q508, C509) => some ((), C509)) else (f_170 n a0 (1 : Int32) (4 : Int32) C505).bind (fun z => match z with | (q511, C512) => some ((), C512))))))) else none else none else none) else none else none else none) else none else none)) else some ((), uI C451 r448 (Int32.toNatClampNeg (((3 : Int32) * (cI C300 a0 41)) + (cI C300 r302 (Int32.toNatClampNeg (cI C300 a0 41))))) q450)) else none else none))) else (f_170 n a0 (1 : Int32) (3 : Int32) C318).bind (fun z => match z with | (q514, C515) => (cP C515 a0 30).bind (fun r517 => (f_176 n a0 C515).bind (fun z => match z with | (q519, C520) => if isK r517 12 = true then if amIn (((3 : Int32) * (cI C300 a0 41)) + (cI C300 r302 (Int32.toNatClampNeg (cI C300 a0 41)))) (aLen r517) = true then (if (cI (uI C520 r517 (Int32.toNatClampNeg (((3 : Int32) * (cI C300 a0 41)) + (cI C300 r302 (Int32.toNatClampNeg (cI C300 a0 41))))) q519) a0 51) = 0 then (if a1 = 0 then (cP (uI C520 r517 (Int32.toNatClampNeg (((3 : Int32) * (cI C300 a0 41)) + (cI C300 r302 (Int32.toNatClampNeg (cI C300 a0 41))))) q519) a0 22).bind (fun r526 => if isK r526 12 = true then if amIn (cI (uI C520 r517 (Int32.toNatClampNeg (((3 : Int32) * (cI C300 a0 41)) + (cI C300 r302 (Int32.toNatClampNeg (cI C300 a0 41))))) q519) a0 41) (aLen r526) = true then if amIn (cI (uI C520 r517 (Int32.toNatClampNeg (((3 : Int32) * (cI C300 a0 41)) + (cI C300 r302 (Int32.toNatClampNeg (cI C300 a0 41))))) q519) a0 41) (aLen r526) = true then (f_172 n a0 (59 : Int32) (uI (uI C520 r517 (Int32.toNatClampNeg (((3 : Int32) * (cI C300 a0 41)) + (cI C300 r302 (Int32.toNatClampNeg (cI C300 a0 41))))) q519) r526 (Int32.toNatClampNeg (cI (uI C520 r517 (Int32.toNatClampNeg (((3 : Int32) * (cI C300 a0 41)) + (cI C300 r302 (Int32.toNatClampNeg (cI C300 a0 41))))) q519) a0 41)) ((cI (uI C520 r517 (Int32.toNatClampNeg (((3 : Int32) * (cI C300 a0 41)) + (cI C300 r302 (Int32.toNatClampNeg (cI C300 a0 41))))) q519) r526 (Int32.toNatClampNeg (cI (uI C520 r517 (Int32.toNatClampNeg (((3 : Int32) * (cI C300 a0 41)) + (cI C300 r302 (Int32.toNatClampNeg (cI C300 a0 41))))) q519) a0 41))) + (1 : Int32)))).bind (fun z => match z with | (q531, C532) => (if q531 = 0 then (f_170 n a0 (1 : Int32) (4 : Int32) C532).bind (fun z => match z with | (q535, C536) => some ((), C536)) else (cP C532 a0 52).bind (fun r538 => (f_192 n a0 r538 (0 : Int32) (30 : Int32) (cI C532 a0 41) C532).bind (fun z => match z with | (q540, C541) => (if ¬ q540 = (-1 : Int32) then (f_170 n a0 (0 : Int32) (4 : Int32) C541).bind (fun z => match z with | (q544, C545) => some ((), C545)) else (f_170 n a0 (1 : Int32) (4 : Int32) C541).bind (fun z => match z with | (q547, C548) => some ((), C548))))))) else none else none else none) else (cP (uI C520 r517 (Int32.toNatClampNeg (((3 : Int32) * (cI C300 a0 41)) + (cI C300 r302 (Int32.toNatClampNeg (cI C300 a0 41))))) q519) a0 23).bind (fun r550 => if isK r550 12 = true then if amIn (cI (uI C520 r517 (Int32.toNatClampNeg (((3 : Int32) * (cI C300 a0 41)) + (cI C300 r302 (Int32.toNatClampNeg (cI C300 a0 41))))) q519) a0 41) (aLen r550) = true then (cP (uI C520 r517 (Int32.toNatClampNeg (((3 : Int32) * (cI C300 a0 41)) + (cI C300 r302 (Int32.toNatClampNeg (cI C300 a0 41))))) q519) a0 22).bind (fun r554 => if isK r554 12 = true then if amIn (cI (uI C520 r517 (Int32.toNatClampNeg (((3 : Int32) * (cI C300 a0 41)) + (cI C300 r302 (Int32.toNatClampNeg (cI C300 a0 41))))) q519) a0 41) (aLen r554) = true then if amIn (cI (uI C520 r517 (Int32.toNatClampNeg (((3 : Int32) * (cI C300 a0 41)) + (cI C300 r302 (Int32.toNatClampNeg (cI C300 a0 41))))) q519) a0 41) (aLen r550) = true then (cP (uI (uI C520 r517 (Int32.toNatClampNeg (((3 : Int32) * (cI C300 a0 41)) + (cI C300 r302 (Int32.toNatClampNeg (cI C300 a0 41))))) q519) r550 (Int32.toNatClampNeg (cI (uI C520 r517 (Int32.toNatClampNeg (((3 : Int32) * (cI C300 a0 41)) + (cI C300 r302 (Int32.toNatClampNeg (cI C300 a0 41))))) q519) a0 41)) ((cI (uI C520 r517 (Int32.toNatClampNeg (((3 : Int32) * (cI C300 a0 41)) + (cI C300 r302 (Int32.toNatClampNeg (cI C300 a0 41))))) q519) r550 (Int32.toNatClampNeg (cI (uI C520 r517 (Int32.toNatClampNeg (((3 : Int32) * (cI C300 a0 41)) + (cI C300 r302 (Int32.toNatClampNeg (cI C300 a0 41))))) q519) a0 41))) ||| ((1 : Int32) <<< ((cI (uI C520 r517 (Int32.toNatClampNeg (((3 : Int32) * (cI C300 a0 41)) + (cI C300 r302 (Int32.toNatClampNeg (cI C300 a0 41))))) q519) r554 (Int32.toNatClampNeg (cI (uI C520 r517 (Int32.toNatClampNeg (((3 : Int32) * (cI C300 a0 41)) + (cI C300 r302 (Int32.toNatClampNeg (cI C300 a0 41))))) q519) a0 41))) &&& 31)))) a0 22).bind (fun r559 => if isK r559 12 = true then if amIn (cI (uI (uI C520 r517 (Int32.toNatClampNeg (((3 : Int32) * (cI C300 a0 41)) + (cI C300 r302 (Int32.toNatClampNeg (cI C300 a0 41))))) q519) r550 (Int32.toNatClampNeg (cI (uI C520 r517 (Int32.toNatClampNeg (((3 : Int32) * (cI C300 a0 41)) + (cI C300 r302 (Int32.toNatClampNeg (cI C300 a0 41))))) q519) a0 41)) ((cI (uI C520 r517 (Int32.toNatClampNeg (((3 : Int32) * (cI C300 a0 41)) + (cI C300 r302 (Int32.toNatClampNeg (cI C300 a0 41))))) q519) r550 (Int32.toNatClampNeg (cI (uI C520 r517 (Int32.toNatClampNeg (((3 : Int32) * (cI C300 a0 41)) + (cI C300 r302 (Int32.toNatClampNeg (cI C300 a0 41))))) q519) a0 41))) ||| ((1 : Int32) <<< ((cI (uI C520 r517 (Int32.toNatClampNeg (((3 : Int32) * (cI C300 a0 41)) + (cI C300 r302 (Int32.toNatClampNeg (cI C300 a0 41))))) q519) r554 (Int32.toNatClampNeg (cI (uI C520 r517 (Int32.toNatClampNeg (((3 : Int32) * (cI C300 a0 41)) + (cI C300 r302 (Int32.toNatClampNeg (cI C300 a0 41))))) q519) a0 41))) &&& 31)))) a0 41) (aLen r559) = true then if amIn (cI (uI (uI C520 r517 (Int32.toNatClampNeg (((3 : Int32) * (cI C300 a0 41)) + (cI C300 r302 (Int32.toNatClampNeg (cI C300 a0 41))))) q519) r550 (Int32.toNatClampNeg (cI (uI C520 r517 (Int32.toNatClampNeg (((3 : Int32) * (cI C300 a0 41)) + (cI C300 r302 (Int32.toNatClampNeg (cI C300 a0 41))))) q519) a0 41)) ((cI (uI C520 r517 (Int32.toNatClampNeg (((3 : Int32) * (cI C300 a0 41)) + (cI C300 r302 (Int32.toNatClampNeg (cI C300 a0 41))))) q519) r550 (Int32.toNatClampNeg (cI (uI C520 r517 (Int32.toNatClampNeg (((3 : Int32) * (cI C300 a0 41)) + (cI C300 r302 (Int32.toNatClampNeg (cI C300 a0 41))))) q519) a0 41))) ||| ((1 : Int32) <<< ((cI (uI C520 r517 (Int32.toNatClampNeg (((3 : Int32) * (cI C300 a0 41)) + (cI C300 r302 (Int32.toNatClampNeg (cI C300 a0 41))))) q519) r554 (Int32.toNatClampNeg (cI (uI C520 r517 (Int32.toNatClampNeg (((3 : Int32) * (cI C300 a0 41)) + (cI C300 r302 (Int32.toNatClampNeg (cI C300 a0 41))))) q519) a0 41))) &&& 31)))) a0 41) (aLen r559) = true then (f_172 n a0 (59 : Int32) (uI (uI (uI C520 r517 (Int32.toNatClampNeg (((3 : Int32) * (cI C300 a0 41)) + (cI C300 r302 (Int32.toNatClampNeg (cI C300 a0 41))))) q519) r550 (Int32.toNatClampNeg (cI (uI C520 r517 (Int32.toNatClampNeg (((3 : Int32) * (cI C300 a0 41)) + (cI C300 r302 (Int32.toNatClampNeg (cI C300 a0 41))))) q519) a0 41)) ((cI (uI C520 r517 (Int32.toNatClampNeg (((3 : Int32) * (cI C300 a0 41)) + (cI C300 r302 (Int32.toNatClampNeg (cI C300 a0 41))))) q519) r550 (Int32.toNatClampNeg (cI (uI C520 r517 (Int32.toNatClampNeg (((3 : Int32) * (cI C300 a0 41)) + (cI C300 r302 (Int32.toNatClampNeg (cI C300 a0 41))))) q519) a0 41))) ||| ((1 : Int32) <<< ((cI (uI C520 r517 (Int32.toNatClampNeg (((3 : Int32) * (cI C300 a0 41)) + (cI C300 r302 (Int32.toNatClampNeg (cI C300 a0 41))))) q519) r554 (Int32.toNatClampNeg (cI (uI C520 r517 (Int32.toNatClampNeg (((3 : Int32) * (cI C300 a0 41)) + (cI C300 r302 (Int32.toNatClampNeg (cI C300 a0 41))))) q519) a0 41))) &&& 31)))) r559 (Int32.toNatClampNeg (cI (uI (uI C520 r517 (Int32.toNatClampNeg (((3 : Int32) * (cI C300 a0 41)) + (cI C300 r302 (Int32.toNatClampNeg (cI C300 a0 41))))) q519) r550 (Int32.toNatClampNeg (cI (uI C520 r517 (Int32.toNatClampNeg (((3 : Int32) * (cI C300 a0 41)) + (cI C300 r302 (Int32.toNatClampNeg (cI C300 a0 41))))) q519) a0 41)) ((cI (uI C520 r517 (Int32.toNatClampNeg (((3 : Int32) * (cI C300 a0 41)) + (cI C300 r302 (Int32.toNatClampNeg (cI C300 a0 41))))) q519) r550 (Int32.toNatClampNeg (cI (uI C520 r517 (Int32.toNatClampNeg (((3 : Int32) * (cI C300 a0 41)) + (cI C300 r302 (Int32.toNatClampNeg (cI C300 a0 41))))) q519) a0 41))) ||| ((1 : Int32) <<< ((cI (uI C520 r517 (Int32.toNatClampNeg (((3 : Int32) * (cI C300 a0 41)) + (cI C300 r302 (Int32.toNatClampNeg (cI C300 a0 41))))) q519) r554 (Int32.toNatClampNeg (cI (uI C520 r517 (Int32.toNatClampNeg (((3 : Int32) * (cI C300 a0 41)) + (cI C300 r302 (Int32.toNatClampNeg (cI C300 a0 41))))) q519) a0 41))) &&& 31)))) a0 41)) ((cI (uI (uI C520 r517 (Int32.toNatClampNeg (((3 : Int32) * (cI C300 a0 41)) + (cI C300 r302 (Int32.toNatClampNeg (cI C300 a0 41))))) q519) r550 (Int32.toNatClampNeg (cI (uI C520 r517 (Int32.toNatClampNeg (((3 : Int32) * (cI C300 a0 41)) + (cI C300 r302 (Int32.toNatClampNeg (cI C300 a0 41))))) q519) a0 41)) ((cI (uI C520 r517 (Int32.toNatClampNeg (((3 : Int32) * (cI C300 a0 41)) + (cI C300 r302 (Int32.toNatClampNeg (cI C300 a0 41))))) q519) r550 (Int32.toNatClampNeg (cI (uI C520 r517 (Int32.toNatClampNeg (((3 : Int32) * (cI C300 a0 41)) + (cI C300 r302 (Int32.toNatClampNeg (cI C300 a0 41))))) q519) a0 41))) ||| ((1 : Int32) <<< ((cI (uI C520 r517 (Int32.toNatClampNeg (((3 : Int32) * (cI C300 a0 41)) + (cI C300 r302 (Int32.toNatClampNeg (cI C300 a0 41))))) q519) r554 (Int32.toNatClampNeg (cI (uI C520 r517 (Int32.toNatClampNeg (((3 : Int32) * (cI C300 a0 41)) + (cI C300 r302 (Int32.toNatClampNeg (cI C300 a0 41))))) q519) a0 41))) &&& 31)))) r559 (Int32.toNatClampNeg (cI (uI (uI C520 r517 (Int32.toNatClampNeg (((3 : Int32) * (cI C300 a0 41)) + (cI C300 r302 (Int32.toNatClampNeg (cI C300 a0 41))))) q519) r550 (Int32.toNatClampNeg (cI (uI C520 r517 (Int32.toNatClampNeg (((3 : Int32) * (cI C300 a0 41)) + (cI C300 r302 (Int32.toNatClampNeg (cI C300 a0 41))))) q519) a0 41)) ((cI (uI C520 r517 (Int32.toNatClampNeg (((3 : Int32) * (cI C300 a0 41)) + (cI C300 r302 (Int32.toNatClampNeg (cI C300 a0 41))))) q519) r550 (Int32.toNatClampNeg (cI (uI C520 r517 (Int32.toNatClampNeg (((3 : Int32) * (cI C300 a0 41)) + (cI C300 r302 (Int32.toNatClampNeg (cI C300 a0 41))))) q519) a0 41))) ||| ((1 : Int32) <<< ((cI (uI C520 r517 (Int32.toNatClampNeg (((3 : Int32) * (cI C300 a0 41)) + (cI C300 r302 (Int32.toNatClampNeg (cI C300 a0 41))))) q519) r554 (Int32.toNatClampNeg (cI (uI C520 r517 (Int32.toNatClampNeg (((3 : Int32) * (cI C300 a0 41)) + (cI C300 r302 (Int32.toNatClampNeg (cI C300 a0 41))))) q519) a0 41))) &&& 31)))) a0 41))) + (1 : Int32)))).bind (fun z => match z with | (q564, C565) => (if q564 = 0 then (f_170 n a0 (1 : Int32) (4 : Int32) C565).bind (fun z => match z with | (q568, C569) => some ((), C569)) else (cP C565 a0 52).bind (fun r571 => (f_192 n a0 r571 (0 : Int32) (30 : Int32) (cI C565 a0 41) C565).bind (fun z => match z with | (q573, C574) => (if ¬ q573 = (-1 : Int32) then (f_170 n a0 (0 : Int32) (4 : Int32) C574).bind (fun z => match z with | (q577, C578) => some ((), C578)) else (f_170 n a0 (1 : Int32) (4 : Int32) C574).bind (fun z => match z with | (q580, C581) => some ((), C581))))))) else none else none else none) else none else none else none) else none else none)) else some ((), uI C520 r517 (Int32.toNatClampNeg (((3 : Int32) * (cI C300 a0 41)) + (cI C300 r302 (Int32.toNatClampNeg (cI C300 a0 41))))) q519)) else none else none)))) else none else none)))) else none else none) else none else none)) else none else none)) else some ((), C296)))) else none else none) else none
set_option maxRecDepth 20000 in
set_option maxHeartbeats 4000000 in
theorem t_186 {n : Nat} {a0 : Nat} {a1 : Int32} {C : AmC} {r : Unit} {C' : AmC} (h : f_186 n a0 a1 C = some (r, C')) : En false 186 0 [(0, .ref a0), (1, .int a1)] [] (mkM C) (.inl none) (mkM C') := by
  unfold f_186 at h
  refine en_aload rfl rfl ?_
  refine en_aload rfl rfl ?_
  obtain ⟨g1, h⟩ := gd h
  obtain ⟨r2, e3, h⟩ := gb h
  refine ec_getP (ci := 10) (j := 22) ⟨rfl, rfl, rfl⟩ g1 e3 rfl ?_
  refine en_aload rfl rfl ?_
  refine ec_getI (ci := 10) (j := 41) ⟨rfl, rfl, rfl⟩ g1 rfl ?_
  obtain ⟨g4, h⟩ := gd h
  obtain ⟨g5, h⟩ := gd h
  refine ec_iaload g4 g5 rfl ?_
  refine ec_iconst cst_3 rfl ?_
  rcases gi h with ⟨c6, h⟩ | ⟨c6, h⟩
  · refine en_icmp_ge_t c6 rfl ?_
    refine ec_iconst cst_0 rfl ?_
    refine ec_iconst cst_2 rfl ?_
    obtain ⟨⟨q7, C8⟩, e9, h⟩ := gb h
    dsimp only at h
    refine ec_callV1 (k' := 170) (n := 3) (rc := 10) (a := a0) (as := [.int (0 : Int32), .int (2 : Int32)]) ⟨rfl, rfl⟩ rfl rfl (Nat.le_of_ble_eq_true rfl) (Nat.le_of_ble_eq_true rfl) (Nat.le_of_ble_eq_true rfl) g1 rfl (t_170 e9) ?_
    rcases gi h with ⟨c10, h⟩ | ⟨c10, h⟩
    · refine en_if_ne_t c10 rfl ?_
      refine en_aload rfl rfl ?_
      obtain ⟨⟨q11, C12⟩, e13, h⟩ := gb h
      dsimp only at h
      refine ec_callV0 (k' := 169) (n := 1) (rc := 10) (a := a0) (as := []) ⟨rfl, rfl⟩ rfl rfl (Nat.le_of_ble_eq_true rfl) (Nat.le_of_ble_eq_true rfl) (Nat.le_of_ble_eq_true rfl) g1 rfl (t_169 e13) ?_
      refine ec_iconst cst_3 rfl ?_
      refine en_aload rfl rfl ?_
      refine ec_getI (ci := 10) (j := 41) ⟨rfl, rfl, rfl⟩ g1 rfl ?_
      refine en_imul rfl ?_
      refine en_aload rfl rfl ?_
      obtain ⟨r14, e15, h⟩ := gb h
      refine ec_getP (ci := 10) (j := 22) ⟨rfl, rfl, rfl⟩ g1 e15 rfl ?_
      refine en_aload rfl rfl ?_
      refine ec_getI (ci := 10) (j := 41) ⟨rfl, rfl, rfl⟩ g1 rfl ?_
      obtain ⟨g16, h⟩ := gd h
      obtain ⟨g17, h⟩ := gd h
      refine ec_iaload g16 g17 rfl ?_
      refine en_iadd rfl ?_
      refine en_istore (l' := [(2, .int (((3 : Int32) * (cI C12 a0 41)) + (cI C12 r14 (Int32.toNatClampNeg (cI C12 a0 41))))), (0, .ref a0), (1, .int a1)]) rfl rfl ?_
      refine en_aload rfl rfl ?_
      obtain ⟨r18, e19, h⟩ := gb h
      refine ec_getP (ci := 10) (j := 29) ⟨rfl, rfl, rfl⟩ g1 e19 rfl ?_
      refine en_iload rfl rfl ?_
      refine en_aload rfl rfl ?_
      obtain ⟨⟨q20, C21⟩, e22, h⟩ := gb h
      dsimp only at h
      refine ec_callV1 (k' := 176) (n := 1) (rc := 10) (a := a0) (as := []) ⟨rfl, rfl⟩ rfl rfl (Nat.le_of_ble_eq_true rfl) (Nat.le_of_ble_eq_true rfl) (Nat.le_of_ble_eq_true rfl) g1 rfl (t_176 e22) ?_
      obtain ⟨g23, h⟩ := gd h
      obtain ⟨g24, h⟩ := gd h
      refine ec_iastore g23 g24 rfl ?_
      refine en_aload rfl rfl ?_
      obtain ⟨r25, e26, h⟩ := gb h
      refine ec_getP (ci := 10) (j := 30) ⟨rfl, rfl, rfl⟩ g1 e26 rfl ?_
      refine en_iload rfl rfl ?_
      refine ec_iconst cst_m1 rfl ?_
      obtain ⟨g27, h⟩ := gd h
      obtain ⟨g28, h⟩ := gd h
      refine ec_iastore g27 g28 rfl ?_
      refine en_aload rfl rfl ?_
      obtain ⟨⟨q29, C30⟩, e31, h⟩ := gb h
      dsimp only at h
      refine ec_callV1 (k' := 175) (n := 1) (rc := 10) (a := a0) (as := []) ⟨rfl, rfl⟩ rfl rfl (Nat.le_of_ble_eq_true rfl) (Nat.le_of_ble_eq_true rfl) (Nat.le_of_ble_eq_true rfl) g1 rfl (t_175 e31) ?_
      rcases gi h with ⟨c32, h⟩ | ⟨c32, h⟩
      · refine en_if_eq_t c32 rfl ?_
        refine en_aload rfl rfl ?_
        refine ec_getI (ci := 10) (j := 51) ⟨rfl, rfl, rfl⟩ g1 rfl ?_
        rcases gi h with ⟨c33, h⟩ | ⟨c33, h⟩
        · refine en_if_eq_t c33 rfl ?_
          refine en_iload rfl rfl ?_
          rcases gi h with ⟨c34, h⟩ | ⟨c34, h⟩
          · refine en_if_eq_t c34 rfl ?_
            refine en_aload rfl rfl ?_
            obtain ⟨r35, e36, h⟩ := gb h
            refine ec_getP (ci := 10) (j := 22) ⟨rfl, rfl, rfl⟩ g1 e36 rfl ?_
            refine en_aload rfl rfl ?_
            refine ec_getI (ci := 10) (j := 41) ⟨rfl, rfl, rfl⟩ g1 rfl ?_
            refine en_dup2 ⟨rfl, rfl⟩ rfl ?_
            obtain ⟨g37, h⟩ := gd h
            obtain ⟨g38, h⟩ := gd h
            refine ec_iaload g37 g38 rfl ?_
            refine ec_iconst cst_1 rfl ?_
            refine en_iadd rfl ?_
            obtain ⟨g39, h⟩ := gd h
            refine ec_iastore g37 g39 rfl ?_
            refine en_aload rfl rfl ?_
            refine en_aload rfl rfl ?_
            refine ec_iconst cst_59 rfl ?_
            obtain ⟨⟨q40, C41⟩, e42, h⟩ := gb h
            dsimp only at h
            refine ec_callV1 (k' := 172) (n := 2) (rc := 10) (a := a0) (as := [.int (59 : Int32)]) ⟨rfl, rfl⟩ rfl rfl (Nat.le_of_ble_eq_true rfl) (Nat.le_of_ble_eq_true rfl) (Nat.le_of_ble_eq_true rfl) g1 rfl (t_172 e42) ?_
            rcases gi h with ⟨c43, h⟩ | ⟨c43, h⟩
            · refine en_if_eq_t c43 rfl ?_
              refine ec_iconst cst_1 rfl ?_
              refine en_goto rfl ?_
              refine ec_iconst cst_4 rfl ?_
              obtain ⟨⟨q44, C45⟩, e46, h⟩ := gb h
              dsimp only at h
              refine ec_callV1 (k' := 170) (n := 3) (rc := 10) (a := a0) (as := [.int (1 : Int32), .int (4 : Int32)]) ⟨rfl, rfl⟩ rfl rfl (Nat.le_of_ble_eq_true rfl) (Nat.le_of_ble_eq_true rfl) (Nat.le_of_ble_eq_true rfl) g1 rfl (t_170 e46) ?_
              refine en_pop rfl rfl ?_
              cases h
              exact en_vret rfl
            · refine en_if_eq_f c43 rfl ?_
              refine en_aload rfl rfl ?_
              refine en_aload rfl rfl ?_
              obtain ⟨r47, e48, h⟩ := gb h
              refine ec_getP (ci := 10) (j := 52) ⟨rfl, rfl, rfl⟩ g1 e48 rfl ?_
              refine ec_iconst cst_0 rfl ?_
              refine ec_iconst cst_30 rfl ?_
              refine en_aload rfl rfl ?_
              refine ec_getI (ci := 10) (j := 41) ⟨rfl, rfl, rfl⟩ g1 rfl ?_
              obtain ⟨⟨q49, C50⟩, e51, h⟩ := gb h
              dsimp only at h
              refine ec_callV1 (k' := 192) (n := 5) (rc := 10) (a := a0) (as := [.ref r47, .int (0 : Int32), .int (30 : Int32), .int (cI C41 a0 41)]) ⟨rfl, rfl⟩ rfl rfl (Nat.le_of_ble_eq_true rfl) (Nat.le_of_ble_eq_true rfl) (Nat.le_of_ble_eq_true rfl) g1 rfl (t_192 e51) ?_
              refine ec_iconst cst_m1 rfl ?_
              rcases gi h with ⟨c52, h⟩ | ⟨c52, h⟩
              · refine en_icmp_ne_t c52 rfl ?_
                refine ec_iconst cst_0 rfl ?_
                refine ec_iconst cst_4 rfl ?_
                obtain ⟨⟨q53, C54⟩, e55, h⟩ := gb h
                dsimp only at h
                refine ec_callV1 (k' := 170) (n := 3) (rc := 10) (a := a0) (as := [.int (0 : Int32), .int (4 : Int32)]) ⟨rfl, rfl⟩ rfl rfl (Nat.le_of_ble_eq_true rfl) (Nat.le_of_ble_eq_true rfl) (Nat.le_of_ble_eq_true rfl) g1 rfl (t_170 e55) ?_
                refine en_pop rfl rfl ?_
                cases h
                exact en_vret rfl
              · refine en_icmp_ne_f c52 rfl ?_
                refine ec_iconst cst_1 rfl ?_
                refine en_goto rfl ?_
                refine ec_iconst cst_4 rfl ?_
                obtain ⟨⟨q56, C57⟩, e58, h⟩ := gb h
                dsimp only at h
                refine ec_callV1 (k' := 170) (n := 3) (rc := 10) (a := a0) (as := [.int (1 : Int32), .int (4 : Int32)]) ⟨rfl, rfl⟩ rfl rfl (Nat.le_of_ble_eq_true rfl) (Nat.le_of_ble_eq_true rfl) (Nat.le_of_ble_eq_true rfl) g1 rfl (t_170 e58) ?_
                refine en_pop rfl rfl ?_
                cases h
                exact en_vret rfl
          · refine en_if_eq_f c34 rfl ?_
            refine en_aload rfl rfl ?_
            obtain ⟨r59, e60, h⟩ := gb h
            refine ec_getP (ci := 10) (j := 23) ⟨rfl, rfl, rfl⟩ g1 e60 rfl ?_
            refine en_aload rfl rfl ?_
            refine ec_getI (ci := 10) (j := 41) ⟨rfl, rfl, rfl⟩ g1 rfl ?_
            refine en_dup2 ⟨rfl, rfl⟩ rfl ?_
            obtain ⟨g61, h⟩ := gd h
            obtain ⟨g62, h⟩ := gd h
            refine ec_iaload g61 g62 rfl ?_
            refine ec_iconst cst_1 rfl ?_
            refine en_aload rfl rfl ?_
            obtain ⟨r63, e64, h⟩ := gb h
            refine ec_getP (ci := 10) (j := 22) ⟨rfl, rfl, rfl⟩ g1 e64 rfl ?_
            refine en_aload rfl rfl ?_
            refine ec_getI (ci := 10) (j := 41) ⟨rfl, rfl, rfl⟩ g1 rfl ?_
            obtain ⟨g65, h⟩ := gd h
            obtain ⟨g66, h⟩ := gd h
            refine ec_iaload g65 g66 rfl ?_
            refine en_ishl rfl ?_
            refine en_ior rfl ?_
            obtain ⟨g67, h⟩ := gd h
            refine ec_iastore g61 g67 rfl ?_
            refine en_aload rfl rfl ?_
            obtain ⟨r68, e69, h⟩ := gb h
            refine ec_getP (ci := 10) (j := 22) ⟨rfl, rfl, rfl⟩ g1 e69 rfl ?_
            refine en_aload rfl rfl ?_
            refine ec_getI (ci := 10) (j := 41) ⟨rfl, rfl, rfl⟩ g1 rfl ?_
            refine en_dup2 ⟨rfl, rfl⟩ rfl ?_
            obtain ⟨g70, h⟩ := gd h
            obtain ⟨g71, h⟩ := gd h
            refine ec_iaload g70 g71 rfl ?_
            refine ec_iconst cst_1 rfl ?_
            refine en_iadd rfl ?_
            obtain ⟨g72, h⟩ := gd h
            refine ec_iastore g70 g72 rfl ?_
            refine en_aload rfl rfl ?_
            refine en_aload rfl rfl ?_
            refine ec_iconst cst_59 rfl ?_
            obtain ⟨⟨q73, C74⟩, e75, h⟩ := gb h
            dsimp only at h
            refine ec_callV1 (k' := 172) (n := 2) (rc := 10) (a := a0) (as := [.int (59 : Int32)]) ⟨rfl, rfl⟩ rfl rfl (Nat.le_of_ble_eq_true rfl) (Nat.le_of_ble_eq_true rfl) (Nat.le_of_ble_eq_true rfl) g1 rfl (t_172 e75) ?_
            rcases gi h with ⟨c76, h⟩ | ⟨c76, h⟩
            · refine en_if_eq_t c76 rfl ?_
              refine ec_iconst cst_1 rfl ?_
              refine en_goto rfl ?_
              refine ec_iconst cst_4 rfl ?_
              obtain ⟨⟨q77, C78⟩, e79, h⟩ := gb h
              dsimp only at h
              refine ec_callV1 (k' := 170) (n := 3) (rc := 10) (a := a0) (as := [.int (1 : Int32), .int (4 : Int32)]) ⟨rfl, rfl⟩ rfl rfl (Nat.le_of_ble_eq_true rfl) (Nat.le_of_ble_eq_true rfl) (Nat.le_of_ble_eq_true rfl) g1 rfl (t_170 e79) ?_
              refine en_pop rfl rfl ?_
              cases h
              exact en_vret rfl
            · refine en_if_eq_f c76 rfl ?_
              refine en_aload rfl rfl ?_
              refine en_aload rfl rfl ?_
              obtain ⟨r80, e81, h⟩ := gb h
              refine ec_getP (ci := 10) (j := 52) ⟨rfl, rfl, rfl⟩ g1 e81 rfl ?_
              refine ec_iconst cst_0 rfl ?_
              refine ec_iconst cst_30 rfl ?_
              refine en_aload rfl rfl ?_
              refine ec_getI (ci := 10) (j := 41) ⟨rfl, rfl, rfl⟩ g1 rfl ?_
              obtain ⟨⟨q82, C83⟩, e84, h⟩ := gb h
              dsimp only at h
              refine ec_callV1 (k' := 192) (n := 5) (rc := 10) (a := a0) (as := [.ref r80, .int (0 : Int32), .int (30 : Int32), .int (cI C74 a0 41)]) ⟨rfl, rfl⟩ rfl rfl (Nat.le_of_ble_eq_true rfl) (Nat.le_of_ble_eq_true rfl) (Nat.le_of_ble_eq_true rfl) g1 rfl (t_192 e84) ?_
              refine ec_iconst cst_m1 rfl ?_
              rcases gi h with ⟨c85, h⟩ | ⟨c85, h⟩
              · refine en_icmp_ne_t c85 rfl ?_
                refine ec_iconst cst_0 rfl ?_
                refine ec_iconst cst_4 rfl ?_
                obtain ⟨⟨q86, C87⟩, e88, h⟩ := gb h
                dsimp only at h
                refine ec_callV1 (k' := 170) (n := 3) (rc := 10) (a := a0) (as := [.int (0 : Int32), .int (4 : Int32)]) ⟨rfl, rfl⟩ rfl rfl (Nat.le_of_ble_eq_true rfl) (Nat.le_of_ble_eq_true rfl) (Nat.le_of_ble_eq_true rfl) g1 rfl (t_170 e88) ?_
                refine en_pop rfl rfl ?_
                cases h
                exact en_vret rfl
              · refine en_icmp_ne_f c85 rfl ?_
                refine ec_iconst cst_1 rfl ?_
                refine en_goto rfl ?_
                refine ec_iconst cst_4 rfl ?_
                obtain ⟨⟨q89, C90⟩, e91, h⟩ := gb h
                dsimp only at h
                refine ec_callV1 (k' := 170) (n := 3) (rc := 10) (a := a0) (as := [.int (1 : Int32), .int (4 : Int32)]) ⟨rfl, rfl⟩ rfl rfl (Nat.le_of_ble_eq_true rfl) (Nat.le_of_ble_eq_true rfl) (Nat.le_of_ble_eq_true rfl) g1 rfl (t_170 e91) ?_
                refine en_pop rfl rfl ?_
                cases h
                exact en_vret rfl
        · refine en_if_eq_f c33 rfl ?_
          cases h
          exact en_vret rfl
      · refine en_if_eq_f c32 rfl ?_
        refine en_aload rfl rfl ?_
        refine ec_getI (ci := 10) (j := 51) ⟨rfl, rfl, rfl⟩ g1 rfl ?_
        rcases gi h with ⟨c92, h⟩ | ⟨c92, h⟩
        · refine en_if_ne_t c92 rfl ?_
          refine en_aload rfl rfl ?_
          refine ec_getI (ci := 10) (j := 51) ⟨rfl, rfl, rfl⟩ g1 rfl ?_
          rcases gi h with ⟨c93, h⟩ | ⟨c93, h⟩
          · refine en_if_eq_t c93 rfl ?_
            refine en_iload rfl rfl ?_
            rcases gi h with ⟨c94, h⟩ | ⟨c94, h⟩
            · refine en_if_eq_t c94 rfl ?_
              refine en_aload rfl rfl ?_
              obtain ⟨r95, e96, h⟩ := gb h
              refine ec_getP (ci := 10) (j := 22) ⟨rfl, rfl, rfl⟩ g1 e96 rfl ?_
              refine en_aload rfl rfl ?_
              refine ec_getI (ci := 10) (j := 41) ⟨rfl, rfl, rfl⟩ g1 rfl ?_
              refine en_dup2 ⟨rfl, rfl⟩ rfl ?_
              obtain ⟨g97, h⟩ := gd h
              obtain ⟨g98, h⟩ := gd h
              refine ec_iaload g97 g98 rfl ?_
              refine ec_iconst cst_1 rfl ?_
              refine en_iadd rfl ?_
              obtain ⟨g99, h⟩ := gd h
              refine ec_iastore g97 g99 rfl ?_
              refine en_aload rfl rfl ?_
              refine en_aload rfl rfl ?_
              refine ec_iconst cst_59 rfl ?_
              obtain ⟨⟨q100, C101⟩, e102, h⟩ := gb h
              dsimp only at h
              refine ec_callV1 (k' := 172) (n := 2) (rc := 10) (a := a0) (as := [.int (59 : Int32)]) ⟨rfl, rfl⟩ rfl rfl (Nat.le_of_ble_eq_true rfl) (Nat.le_of_ble_eq_true rfl) (Nat.le_of_ble_eq_true rfl) g1 rfl (t_172 e102) ?_
              rcases gi h with ⟨c103, h⟩ | ⟨c103, h⟩
              · refine en_if_eq_t c103 rfl ?_
                refine ec_iconst cst_1 rfl ?_
                refine en_goto rfl ?_
                refine ec_iconst cst_4 rfl ?_
                obtain ⟨⟨q104, C105⟩, e106, h⟩ := gb h
                dsimp only at h
                refine ec_callV1 (k' := 170) (n := 3) (rc := 10) (a := a0) (as := [.int (1 : Int32), .int (4 : Int32)]) ⟨rfl, rfl⟩ rfl rfl (Nat.le_of_ble_eq_true rfl) (Nat.le_of_ble_eq_true rfl) (Nat.le_of_ble_eq_true rfl) g1 rfl (t_170 e106) ?_
                refine en_pop rfl rfl ?_
                cases h
                exact en_vret rfl
              · refine en_if_eq_f c103 rfl ?_
                refine en_aload rfl rfl ?_
                refine en_aload rfl rfl ?_
                obtain ⟨r107, e108, h⟩ := gb h
                refine ec_getP (ci := 10) (j := 52) ⟨rfl, rfl, rfl⟩ g1 e108 rfl ?_
                refine ec_iconst cst_0 rfl ?_
                refine ec_iconst cst_30 rfl ?_
                refine en_aload rfl rfl ?_
                refine ec_getI (ci := 10) (j := 41) ⟨rfl, rfl, rfl⟩ g1 rfl ?_
                obtain ⟨⟨q109, C110⟩, e111, h⟩ := gb h
                dsimp only at h
                refine ec_callV1 (k' := 192) (n := 5) (rc := 10) (a := a0) (as := [.ref r107, .int (0 : Int32), .int (30 : Int32), .int (cI C101 a0 41)]) ⟨rfl, rfl⟩ rfl rfl (Nat.le_of_ble_eq_true rfl) (Nat.le_of_ble_eq_true rfl) (Nat.le_of_ble_eq_true rfl) g1 rfl (t_192 e111) ?_
                refine ec_iconst cst_m1 rfl ?_
                rcases gi h with ⟨c112, h⟩ | ⟨c112, h⟩
                · refine en_icmp_ne_t c112 rfl ?_
                  refine ec_iconst cst_0 rfl ?_
                  refine ec_iconst cst_4 rfl ?_
                  obtain ⟨⟨q113, C114⟩, e115, h⟩ := gb h
                  dsimp only at h
                  refine ec_callV1 (k' := 170) (n := 3) (rc := 10) (a := a0) (as := [.int (0 : Int32), .int (4 : Int32)]) ⟨rfl, rfl⟩ rfl rfl (Nat.le_of_ble_eq_true rfl) (Nat.le_of_ble_eq_true rfl) (Nat.le_of_ble_eq_true rfl) g1 rfl (t_170 e115) ?_
                  refine en_pop rfl rfl ?_
                  cases h
                  exact en_vret rfl
                · refine en_icmp_ne_f c112 rfl ?_
                  refine ec_iconst cst_1 rfl ?_
                  refine en_goto rfl ?_
                  refine ec_iconst cst_4 rfl ?_
                  obtain ⟨⟨q116, C117⟩, e118, h⟩ := gb h
                  dsimp only at h
                  refine ec_callV1 (k' := 170) (n := 3) (rc := 10) (a := a0) (as := [.int (1 : Int32), .int (4 : Int32)]) ⟨rfl, rfl⟩ rfl rfl (Nat.le_of_ble_eq_true rfl) (Nat.le_of_ble_eq_true rfl) (Nat.le_of_ble_eq_true rfl) g1 rfl (t_170 e118) ?_
                  refine en_pop rfl rfl ?_
                  cases h
                  exact en_vret rfl
            · refine en_if_eq_f c94 rfl ?_
              refine en_aload rfl rfl ?_
              obtain ⟨r119, e120, h⟩ := gb h
              refine ec_getP (ci := 10) (j := 23) ⟨rfl, rfl, rfl⟩ g1 e120 rfl ?_
              refine en_aload rfl rfl ?_
              refine ec_getI (ci := 10) (j := 41) ⟨rfl, rfl, rfl⟩ g1 rfl ?_
              refine en_dup2 ⟨rfl, rfl⟩ rfl ?_
              obtain ⟨g121, h⟩ := gd h
              obtain ⟨g122, h⟩ := gd h
              refine ec_iaload g121 g122 rfl ?_
              refine ec_iconst cst_1 rfl ?_
              refine en_aload rfl rfl ?_
              obtain ⟨r123, e124, h⟩ := gb h
              refine ec_getP (ci := 10) (j := 22) ⟨rfl, rfl, rfl⟩ g1 e124 rfl ?_
              refine en_aload rfl rfl ?_
              refine ec_getI (ci := 10) (j := 41) ⟨rfl, rfl, rfl⟩ g1 rfl ?_
              obtain ⟨g125, h⟩ := gd h
              obtain ⟨g126, h⟩ := gd h
              refine ec_iaload g125 g126 rfl ?_
              refine en_ishl rfl ?_
              refine en_ior rfl ?_
              obtain ⟨g127, h⟩ := gd h
              refine ec_iastore g121 g127 rfl ?_
              refine en_aload rfl rfl ?_
              obtain ⟨r128, e129, h⟩ := gb h
              refine ec_getP (ci := 10) (j := 22) ⟨rfl, rfl, rfl⟩ g1 e129 rfl ?_
              refine en_aload rfl rfl ?_
              refine ec_getI (ci := 10) (j := 41) ⟨rfl, rfl, rfl⟩ g1 rfl ?_
              refine en_dup2 ⟨rfl, rfl⟩ rfl ?_
              obtain ⟨g130, h⟩ := gd h
              obtain ⟨g131, h⟩ := gd h
              refine ec_iaload g130 g131 rfl ?_
              refine ec_iconst cst_1 rfl ?_
              refine en_iadd rfl ?_
              obtain ⟨g132, h⟩ := gd h
              refine ec_iastore g130 g132 rfl ?_
              refine en_aload rfl rfl ?_
              refine en_aload rfl rfl ?_
              refine ec_iconst cst_59 rfl ?_
              obtain ⟨⟨q133, C134⟩, e135, h⟩ := gb h
              dsimp only at h
              refine ec_callV1 (k' := 172) (n := 2) (rc := 10) (a := a0) (as := [.int (59 : Int32)]) ⟨rfl, rfl⟩ rfl rfl (Nat.le_of_ble_eq_true rfl) (Nat.le_of_ble_eq_true rfl) (Nat.le_of_ble_eq_true rfl) g1 rfl (t_172 e135) ?_
              rcases gi h with ⟨c136, h⟩ | ⟨c136, h⟩
              · refine en_if_eq_t c136 rfl ?_
                refine ec_iconst cst_1 rfl ?_
                refine en_goto rfl ?_
                refine ec_iconst cst_4 rfl ?_
                obtain ⟨⟨q137, C138⟩, e139, h⟩ := gb h
                dsimp only at h
                refine ec_callV1 (k' := 170) (n := 3) (rc := 10) (a := a0) (as := [.int (1 : Int32), .int (4 : Int32)]) ⟨rfl, rfl⟩ rfl rfl (Nat.le_of_ble_eq_true rfl) (Nat.le_of_ble_eq_true rfl) (Nat.le_of_ble_eq_true rfl) g1 rfl (t_170 e139) ?_
                refine en_pop rfl rfl ?_
                cases h
                exact en_vret rfl
              · refine en_if_eq_f c136 rfl ?_
                refine en_aload rfl rfl ?_
                refine en_aload rfl rfl ?_
                obtain ⟨r140, e141, h⟩ := gb h
                refine ec_getP (ci := 10) (j := 52) ⟨rfl, rfl, rfl⟩ g1 e141 rfl ?_
                refine ec_iconst cst_0 rfl ?_
                refine ec_iconst cst_30 rfl ?_
                refine en_aload rfl rfl ?_
                refine ec_getI (ci := 10) (j := 41) ⟨rfl, rfl, rfl⟩ g1 rfl ?_
                obtain ⟨⟨q142, C143⟩, e144, h⟩ := gb h
                dsimp only at h
                refine ec_callV1 (k' := 192) (n := 5) (rc := 10) (a := a0) (as := [.ref r140, .int (0 : Int32), .int (30 : Int32), .int (cI C134 a0 41)]) ⟨rfl, rfl⟩ rfl rfl (Nat.le_of_ble_eq_true rfl) (Nat.le_of_ble_eq_true rfl) (Nat.le_of_ble_eq_true rfl) g1 rfl (t_192 e144) ?_
                refine ec_iconst cst_m1 rfl ?_
                rcases gi h with ⟨c145, h⟩ | ⟨c145, h⟩
                · refine en_icmp_ne_t c145 rfl ?_
                  refine ec_iconst cst_0 rfl ?_
                  refine ec_iconst cst_4 rfl ?_
                  obtain ⟨⟨q146, C147⟩, e148, h⟩ := gb h
                  dsimp only at h
                  refine ec_callV1 (k' := 170) (n := 3) (rc := 10) (a := a0) (as := [.int (0 : Int32), .int (4 : Int32)]) ⟨rfl, rfl⟩ rfl rfl (Nat.le_of_ble_eq_true rfl) (Nat.le_of_ble_eq_true rfl) (Nat.le_of_ble_eq_true rfl) g1 rfl (t_170 e148) ?_
                  refine en_pop rfl rfl ?_
                  cases h
                  exact en_vret rfl
                · refine en_icmp_ne_f c145 rfl ?_
                  refine ec_iconst cst_1 rfl ?_
                  refine en_goto rfl ?_
                  refine ec_iconst cst_4 rfl ?_
                  obtain ⟨⟨q149, C150⟩, e151, h⟩ := gb h
                  dsimp only at h
                  refine ec_callV1 (k' := 170) (n := 3) (rc := 10) (a := a0) (as := [.int (1 : Int32), .int (4 : Int32)]) ⟨rfl, rfl⟩ rfl rfl (Nat.le_of_ble_eq_true rfl) (Nat.le_of_ble_eq_true rfl) (Nat.le_of_ble_eq_true rfl) g1 rfl (t_170 e151) ?_
                  refine en_pop rfl rfl ?_
                  cases h
                  exact en_vret rfl
          · refine en_if_eq_f c93 rfl ?_
            cases h
            exact en_vret rfl
        · refine en_if_ne_f c92 rfl ?_
          refine en_aload rfl rfl ?_
          refine en_aload rfl rfl ?_
          refine ec_getI (ci := 10) (j := 50) ⟨rfl, rfl, rfl⟩ g1 rfl ?_
          refine ec_iconst cst_17 rfl ?_
          refine en_isub rfl ?_
          refine en_aload rfl rfl ?_
          obtain ⟨r152, e153, h⟩ := gb h
          refine ec_getP (ci := 10) (j := 29) ⟨rfl, rfl, rfl⟩ g1 e153 rfl ?_
          refine en_iload rfl rfl ?_
          obtain ⟨g154, h⟩ := gd h
          obtain ⟨g155, h⟩ := gd h
          refine ec_iaload g154 g155 rfl ?_
          rcases gi h with ⟨c156, h⟩ | ⟨c156, h⟩
          · refine en_icmp_eq_t c156 rfl ?_
            refine ec_iconst cst_0 rfl ?_
            refine ec_iconst cst_3 rfl ?_
            obtain ⟨⟨q157, C158⟩, e159, h⟩ := gb h
            dsimp only at h
            refine ec_callV1 (k' := 170) (n := 3) (rc := 10) (a := a0) (as := [.int (0 : Int32), .int (3 : Int32)]) ⟨rfl, rfl⟩ rfl rfl (Nat.le_of_ble_eq_true rfl) (Nat.le_of_ble_eq_true rfl) (Nat.le_of_ble_eq_true rfl) g1 rfl (t_170 e159) ?_
            refine en_pop rfl rfl ?_
            refine en_aload rfl rfl ?_
            obtain ⟨r160, e161, h⟩ := gb h
            refine ec_getP (ci := 10) (j := 30) ⟨rfl, rfl, rfl⟩ g1 e161 rfl ?_
            refine en_iload rfl rfl ?_
            refine en_aload rfl rfl ?_
            obtain ⟨⟨q162, C163⟩, e164, h⟩ := gb h
            dsimp only at h
            refine ec_callV1 (k' := 176) (n := 1) (rc := 10) (a := a0) (as := []) ⟨rfl, rfl⟩ rfl rfl (Nat.le_of_ble_eq_true rfl) (Nat.le_of_ble_eq_true rfl) (Nat.le_of_ble_eq_true rfl) g1 rfl (t_176 e164) ?_
            obtain ⟨g165, h⟩ := gd h
            obtain ⟨g166, h⟩ := gd h
            refine ec_iastore g165 g166 rfl ?_
            refine en_aload rfl rfl ?_
            refine ec_getI (ci := 10) (j := 51) ⟨rfl, rfl, rfl⟩ g1 rfl ?_
            rcases gi h with ⟨c167, h⟩ | ⟨c167, h⟩
            · refine en_if_eq_t c167 rfl ?_
              refine en_iload rfl rfl ?_
              rcases gi h with ⟨c168, h⟩ | ⟨c168, h⟩
              · refine en_if_eq_t c168 rfl ?_
                refine en_aload rfl rfl ?_
                obtain ⟨r169, e170, h⟩ := gb h
                refine ec_getP (ci := 10) (j := 22) ⟨rfl, rfl, rfl⟩ g1 e170 rfl ?_
                refine en_aload rfl rfl ?_
                refine ec_getI (ci := 10) (j := 41) ⟨rfl, rfl, rfl⟩ g1 rfl ?_
                refine en_dup2 ⟨rfl, rfl⟩ rfl ?_
                obtain ⟨g171, h⟩ := gd h
                obtain ⟨g172, h⟩ := gd h
                refine ec_iaload g171 g172 rfl ?_
                refine ec_iconst cst_1 rfl ?_
                refine en_iadd rfl ?_
                obtain ⟨g173, h⟩ := gd h
                refine ec_iastore g171 g173 rfl ?_
                refine en_aload rfl rfl ?_
                refine en_aload rfl rfl ?_
                refine ec_iconst cst_59 rfl ?_
                obtain ⟨⟨q174, C175⟩, e176, h⟩ := gb h
                dsimp only at h
                refine ec_callV1 (k' := 172) (n := 2) (rc := 10) (a := a0) (as := [.int (59 : Int32)]) ⟨rfl, rfl⟩ rfl rfl (Nat.le_of_ble_eq_true rfl) (Nat.le_of_ble_eq_true rfl) (Nat.le_of_ble_eq_true rfl) g1 rfl (t_172 e176) ?_
                rcases gi h with ⟨c177, h⟩ | ⟨c177, h⟩
                · refine en_if_eq_t c177 rfl ?_
                  refine ec_iconst cst_1 rfl ?_
                  refine en_goto rfl ?_
                  refine ec_iconst cst_4 rfl ?_
                  obtain ⟨⟨q178, C179⟩, e180, h⟩ := gb h
                  dsimp only at h
                  refine ec_callV1 (k' := 170) (n := 3) (rc := 10) (a := a0) (as := [.int (1 : Int32), .int (4 : Int32)]) ⟨rfl, rfl⟩ rfl rfl (Nat.le_of_ble_eq_true rfl) (Nat.le_of_ble_eq_true rfl) (Nat.le_of_ble_eq_true rfl) g1 rfl (t_170 e180) ?_
                  refine en_pop rfl rfl ?_
                  cases h
                  exact en_vret rfl
                · refine en_if_eq_f c177 rfl ?_
                  refine en_aload rfl rfl ?_
                  refine en_aload rfl rfl ?_
                  obtain ⟨r181, e182, h⟩ := gb h
                  refine ec_getP (ci := 10) (j := 52) ⟨rfl, rfl, rfl⟩ g1 e182 rfl ?_
                  refine ec_iconst cst_0 rfl ?_
                  refine ec_iconst cst_30 rfl ?_
                  refine en_aload rfl rfl ?_
                  refine ec_getI (ci := 10) (j := 41) ⟨rfl, rfl, rfl⟩ g1 rfl ?_
                  obtain ⟨⟨q183, C184⟩, e185, h⟩ := gb h
                  dsimp only at h
                  refine ec_callV1 (k' := 192) (n := 5) (rc := 10) (a := a0) (as := [.ref r181, .int (0 : Int32), .int (30 : Int32), .int (cI C175 a0 41)]) ⟨rfl, rfl⟩ rfl rfl (Nat.le_of_ble_eq_true rfl) (Nat.le_of_ble_eq_true rfl) (Nat.le_of_ble_eq_true rfl) g1 rfl (t_192 e185) ?_
                  refine ec_iconst cst_m1 rfl ?_
                  rcases gi h with ⟨c186, h⟩ | ⟨c186, h⟩
                  · refine en_icmp_ne_t c186 rfl ?_
                    refine ec_iconst cst_0 rfl ?_
                    refine ec_iconst cst_4 rfl ?_
                    obtain ⟨⟨q187, C188⟩, e189, h⟩ := gb h
                    dsimp only at h
                    refine ec_callV1 (k' := 170) (n := 3) (rc := 10) (a := a0) (as := [.int (0 : Int32), .int (4 : Int32)]) ⟨rfl, rfl⟩ rfl rfl (Nat.le_of_ble_eq_true rfl) (Nat.le_of_ble_eq_true rfl) (Nat.le_of_ble_eq_true rfl) g1 rfl (t_170 e189) ?_
                    refine en_pop rfl rfl ?_
                    cases h
                    exact en_vret rfl
                  · refine en_icmp_ne_f c186 rfl ?_
                    refine ec_iconst cst_1 rfl ?_
                    refine en_goto rfl ?_
                    refine ec_iconst cst_4 rfl ?_
                    obtain ⟨⟨q190, C191⟩, e192, h⟩ := gb h
                    dsimp only at h
                    refine ec_callV1 (k' := 170) (n := 3) (rc := 10) (a := a0) (as := [.int (1 : Int32), .int (4 : Int32)]) ⟨rfl, rfl⟩ rfl rfl (Nat.le_of_ble_eq_true rfl) (Nat.le_of_ble_eq_true rfl) (Nat.le_of_ble_eq_true rfl) g1 rfl (t_170 e192) ?_
                    refine en_pop rfl rfl ?_
                    cases h
                    exact en_vret rfl
              · refine en_if_eq_f c168 rfl ?_
                refine en_aload rfl rfl ?_
                obtain ⟨r193, e194, h⟩ := gb h
                refine ec_getP (ci := 10) (j := 23) ⟨rfl, rfl, rfl⟩ g1 e194 rfl ?_
                refine en_aload rfl rfl ?_
                refine ec_getI (ci := 10) (j := 41) ⟨rfl, rfl, rfl⟩ g1 rfl ?_
                refine en_dup2 ⟨rfl, rfl⟩ rfl ?_
                obtain ⟨g195, h⟩ := gd h
                obtain ⟨g196, h⟩ := gd h
                refine ec_iaload g195 g196 rfl ?_
                refine ec_iconst cst_1 rfl ?_
                refine en_aload rfl rfl ?_
                obtain ⟨r197, e198, h⟩ := gb h
                refine ec_getP (ci := 10) (j := 22) ⟨rfl, rfl, rfl⟩ g1 e198 rfl ?_
                refine en_aload rfl rfl ?_
                refine ec_getI (ci := 10) (j := 41) ⟨rfl, rfl, rfl⟩ g1 rfl ?_
                obtain ⟨g199, h⟩ := gd h
                obtain ⟨g200, h⟩ := gd h
                refine ec_iaload g199 g200 rfl ?_
                refine en_ishl rfl ?_
                refine en_ior rfl ?_
                obtain ⟨g201, h⟩ := gd h
                refine ec_iastore g195 g201 rfl ?_
                refine en_aload rfl rfl ?_
                obtain ⟨r202, e203, h⟩ := gb h
                refine ec_getP (ci := 10) (j := 22) ⟨rfl, rfl, rfl⟩ g1 e203 rfl ?_
                refine en_aload rfl rfl ?_
                refine ec_getI (ci := 10) (j := 41) ⟨rfl, rfl, rfl⟩ g1 rfl ?_
                refine en_dup2 ⟨rfl, rfl⟩ rfl ?_
                obtain ⟨g204, h⟩ := gd h
                obtain ⟨g205, h⟩ := gd h
                refine ec_iaload g204 g205 rfl ?_
                refine ec_iconst cst_1 rfl ?_
                refine en_iadd rfl ?_
                obtain ⟨g206, h⟩ := gd h
                refine ec_iastore g204 g206 rfl ?_
                refine en_aload rfl rfl ?_
                refine en_aload rfl rfl ?_
                refine ec_iconst cst_59 rfl ?_
                obtain ⟨⟨q207, C208⟩, e209, h⟩ := gb h
                dsimp only at h
                refine ec_callV1 (k' := 172) (n := 2) (rc := 10) (a := a0) (as := [.int (59 : Int32)]) ⟨rfl, rfl⟩ rfl rfl (Nat.le_of_ble_eq_true rfl) (Nat.le_of_ble_eq_true rfl) (Nat.le_of_ble_eq_true rfl) g1 rfl (t_172 e209) ?_
                rcases gi h with ⟨c210, h⟩ | ⟨c210, h⟩
                · refine en_if_eq_t c210 rfl ?_
                  refine ec_iconst cst_1 rfl ?_
                  refine en_goto rfl ?_
                  refine ec_iconst cst_4 rfl ?_
                  obtain ⟨⟨q211, C212⟩, e213, h⟩ := gb h
                  dsimp only at h
                  refine ec_callV1 (k' := 170) (n := 3) (rc := 10) (a := a0) (as := [.int (1 : Int32), .int (4 : Int32)]) ⟨rfl, rfl⟩ rfl rfl (Nat.le_of_ble_eq_true rfl) (Nat.le_of_ble_eq_true rfl) (Nat.le_of_ble_eq_true rfl) g1 rfl (t_170 e213) ?_
                  refine en_pop rfl rfl ?_
                  cases h
                  exact en_vret rfl
                · refine en_if_eq_f c210 rfl ?_
                  refine en_aload rfl rfl ?_
                  refine en_aload rfl rfl ?_
                  obtain ⟨r214, e215, h⟩ := gb h
                  refine ec_getP (ci := 10) (j := 52) ⟨rfl, rfl, rfl⟩ g1 e215 rfl ?_
                  refine ec_iconst cst_0 rfl ?_
                  refine ec_iconst cst_30 rfl ?_
                  refine en_aload rfl rfl ?_
                  refine ec_getI (ci := 10) (j := 41) ⟨rfl, rfl, rfl⟩ g1 rfl ?_
                  obtain ⟨⟨q216, C217⟩, e218, h⟩ := gb h
                  dsimp only at h
                  refine ec_callV1 (k' := 192) (n := 5) (rc := 10) (a := a0) (as := [.ref r214, .int (0 : Int32), .int (30 : Int32), .int (cI C208 a0 41)]) ⟨rfl, rfl⟩ rfl rfl (Nat.le_of_ble_eq_true rfl) (Nat.le_of_ble_eq_true rfl) (Nat.le_of_ble_eq_true rfl) g1 rfl (t_192 e218) ?_
                  refine ec_iconst cst_m1 rfl ?_
                  rcases gi h with ⟨c219, h⟩ | ⟨c219, h⟩
                  · refine en_icmp_ne_t c219 rfl ?_
                    refine ec_iconst cst_0 rfl ?_
                    refine ec_iconst cst_4 rfl ?_
                    obtain ⟨⟨q220, C221⟩, e222, h⟩ := gb h
                    dsimp only at h
                    refine ec_callV1 (k' := 170) (n := 3) (rc := 10) (a := a0) (as := [.int (0 : Int32), .int (4 : Int32)]) ⟨rfl, rfl⟩ rfl rfl (Nat.le_of_ble_eq_true rfl) (Nat.le_of_ble_eq_true rfl) (Nat.le_of_ble_eq_true rfl) g1 rfl (t_170 e222) ?_
                    refine en_pop rfl rfl ?_
                    cases h
                    exact en_vret rfl
                  · refine en_icmp_ne_f c219 rfl ?_
                    refine ec_iconst cst_1 rfl ?_
                    refine en_goto rfl ?_
                    refine ec_iconst cst_4 rfl ?_
                    obtain ⟨⟨q223, C224⟩, e225, h⟩ := gb h
                    dsimp only at h
                    refine ec_callV1 (k' := 170) (n := 3) (rc := 10) (a := a0) (as := [.int (1 : Int32), .int (4 : Int32)]) ⟨rfl, rfl⟩ rfl rfl (Nat.le_of_ble_eq_true rfl) (Nat.le_of_ble_eq_true rfl) (Nat.le_of_ble_eq_true rfl) g1 rfl (t_170 e225) ?_
                    refine en_pop rfl rfl ?_
                    cases h
                    exact en_vret rfl
            · refine en_if_eq_f c167 rfl ?_
              cases h
              exact en_vret rfl
          · refine en_icmp_eq_f c156 rfl ?_
            refine ec_iconst cst_1 rfl ?_
            refine en_goto rfl ?_
            refine ec_iconst cst_3 rfl ?_
            obtain ⟨⟨q226, C227⟩, e228, h⟩ := gb h
            dsimp only at h
            refine ec_callV1 (k' := 170) (n := 3) (rc := 10) (a := a0) (as := [.int (1 : Int32), .int (3 : Int32)]) ⟨rfl, rfl⟩ rfl rfl (Nat.le_of_ble_eq_true rfl) (Nat.le_of_ble_eq_true rfl) (Nat.le_of_ble_eq_true rfl) g1 rfl (t_170 e228) ?_
            refine en_pop rfl rfl ?_
            refine en_aload rfl rfl ?_
            obtain ⟨r229, e230, h⟩ := gb h
            refine ec_getP (ci := 10) (j := 30) ⟨rfl, rfl, rfl⟩ g1 e230 rfl ?_
            refine en_iload rfl rfl ?_
            refine en_aload rfl rfl ?_
            obtain ⟨⟨q231, C232⟩, e233, h⟩ := gb h
            dsimp only at h
            refine ec_callV1 (k' := 176) (n := 1) (rc := 10) (a := a0) (as := []) ⟨rfl, rfl⟩ rfl rfl (Nat.le_of_ble_eq_true rfl) (Nat.le_of_ble_eq_true rfl) (Nat.le_of_ble_eq_true rfl) g1 rfl (t_176 e233) ?_
            obtain ⟨g234, h⟩ := gd h
            obtain ⟨g235, h⟩ := gd h
            refine ec_iastore g234 g235 rfl ?_
            refine en_aload rfl rfl ?_
            refine ec_getI (ci := 10) (j := 51) ⟨rfl, rfl, rfl⟩ g1 rfl ?_
            rcases gi h with ⟨c236, h⟩ | ⟨c236, h⟩
            · refine en_if_eq_t c236 rfl ?_
              refine en_iload rfl rfl ?_
              rcases gi h with ⟨c237, h⟩ | ⟨c237, h⟩
              · refine en_if_eq_t c237 rfl ?_
                refine en_aload rfl rfl ?_
                obtain ⟨r238, e239, h⟩ := gb h
                refine ec_getP (ci := 10) (j := 22) ⟨rfl, rfl, rfl⟩ g1 e239 rfl ?_
                refine en_aload rfl rfl ?_
                refine ec_getI (ci := 10) (j := 41) ⟨rfl, rfl, rfl⟩ g1 rfl ?_
                refine en_dup2 ⟨rfl, rfl⟩ rfl ?_
                obtain ⟨g240, h⟩ := gd h
                obtain ⟨g241, h⟩ := gd h
                refine ec_iaload g240 g241 rfl ?_
                refine ec_iconst cst_1 rfl ?_
                refine en_iadd rfl ?_
                obtain ⟨g242, h⟩ := gd h
                refine ec_iastore g240 g242 rfl ?_
                refine en_aload rfl rfl ?_
                refine en_aload rfl rfl ?_
                refine ec_iconst cst_59 rfl ?_
                obtain ⟨⟨q243, C244⟩, e245, h⟩ := gb h
                dsimp only at h
                refine ec_callV1 (k' := 172) (n := 2) (rc := 10) (a := a0) (as := [.int (59 : Int32)]) ⟨rfl, rfl⟩ rfl rfl (Nat.le_of_ble_eq_true rfl) (Nat.le_of_ble_eq_true rfl) (Nat.le_of_ble_eq_true rfl) g1 rfl (t_172 e245) ?_
                rcases gi h with ⟨c246, h⟩ | ⟨c246, h⟩
                · refine en_if_eq_t c246 rfl ?_
                  refine ec_iconst cst_1 rfl ?_
                  refine en_goto rfl ?_
                  refine ec_iconst cst_4 rfl ?_
                  obtain ⟨⟨q247, C248⟩, e249, h⟩ := gb h
                  dsimp only at h
                  refine ec_callV1 (k' := 170) (n := 3) (rc := 10) (a := a0) (as := [.int (1 : Int32), .int (4 : Int32)]) ⟨rfl, rfl⟩ rfl rfl (Nat.le_of_ble_eq_true rfl) (Nat.le_of_ble_eq_true rfl) (Nat.le_of_ble_eq_true rfl) g1 rfl (t_170 e249) ?_
                  refine en_pop rfl rfl ?_
                  cases h
                  exact en_vret rfl
                · refine en_if_eq_f c246 rfl ?_
                  refine en_aload rfl rfl ?_
                  refine en_aload rfl rfl ?_
                  obtain ⟨r250, e251, h⟩ := gb h
                  refine ec_getP (ci := 10) (j := 52) ⟨rfl, rfl, rfl⟩ g1 e251 rfl ?_
                  refine ec_iconst cst_0 rfl ?_
                  refine ec_iconst cst_30 rfl ?_
                  refine en_aload rfl rfl ?_
                  refine ec_getI (ci := 10) (j := 41) ⟨rfl, rfl, rfl⟩ g1 rfl ?_
                  obtain ⟨⟨q252, C253⟩, e254, h⟩ := gb h
                  dsimp only at h
                  refine ec_callV1 (k' := 192) (n := 5) (rc := 10) (a := a0) (as := [.ref r250, .int (0 : Int32), .int (30 : Int32), .int (cI C244 a0 41)]) ⟨rfl, rfl⟩ rfl rfl (Nat.le_of_ble_eq_true rfl) (Nat.le_of_ble_eq_true rfl) (Nat.le_of_ble_eq_true rfl) g1 rfl (t_192 e254) ?_
                  refine ec_iconst cst_m1 rfl ?_
                  rcases gi h with ⟨c255, h⟩ | ⟨c255, h⟩
                  · refine en_icmp_ne_t c255 rfl ?_
                    refine ec_iconst cst_0 rfl ?_
                    refine ec_iconst cst_4 rfl ?_
                    obtain ⟨⟨q256, C257⟩, e258, h⟩ := gb h
                    dsimp only at h
                    refine ec_callV1 (k' := 170) (n := 3) (rc := 10) (a := a0) (as := [.int (0 : Int32), .int (4 : Int32)]) ⟨rfl, rfl⟩ rfl rfl (Nat.le_of_ble_eq_true rfl) (Nat.le_of_ble_eq_true rfl) (Nat.le_of_ble_eq_true rfl) g1 rfl (t_170 e258) ?_
                    refine en_pop rfl rfl ?_
                    cases h
                    exact en_vret rfl
                  · refine en_icmp_ne_f c255 rfl ?_
                    refine ec_iconst cst_1 rfl ?_
                    refine en_goto rfl ?_
                    refine ec_iconst cst_4 rfl ?_
                    obtain ⟨⟨q259, C260⟩, e261, h⟩ := gb h
                    dsimp only at h
                    refine ec_callV1 (k' := 170) (n := 3) (rc := 10) (a := a0) (as := [.int (1 : Int32), .int (4 : Int32)]) ⟨rfl, rfl⟩ rfl rfl (Nat.le_of_ble_eq_true rfl) (Nat.le_of_ble_eq_true rfl) (Nat.le_of_ble_eq_true rfl) g1 rfl (t_170 e261) ?_
                    refine en_pop rfl rfl ?_
                    cases h
                    exact en_vret rfl
              · refine en_if_eq_f c237 rfl ?_
                refine en_aload rfl rfl ?_
                obtain ⟨r262, e263, h⟩ := gb h
                refine ec_getP (ci := 10) (j := 23) ⟨rfl, rfl, rfl⟩ g1 e263 rfl ?_
                refine en_aload rfl rfl ?_
                refine ec_getI (ci := 10) (j := 41) ⟨rfl, rfl, rfl⟩ g1 rfl ?_
                refine en_dup2 ⟨rfl, rfl⟩ rfl ?_
                obtain ⟨g264, h⟩ := gd h
                obtain ⟨g265, h⟩ := gd h
                refine ec_iaload g264 g265 rfl ?_
                refine ec_iconst cst_1 rfl ?_
                refine en_aload rfl rfl ?_
                obtain ⟨r266, e267, h⟩ := gb h
                refine ec_getP (ci := 10) (j := 22) ⟨rfl, rfl, rfl⟩ g1 e267 rfl ?_
                refine en_aload rfl rfl ?_
                refine ec_getI (ci := 10) (j := 41) ⟨rfl, rfl, rfl⟩ g1 rfl ?_
                obtain ⟨g268, h⟩ := gd h
                obtain ⟨g269, h⟩ := gd h
                refine ec_iaload g268 g269 rfl ?_
                refine en_ishl rfl ?_
                refine en_ior rfl ?_
                obtain ⟨g270, h⟩ := gd h
                refine ec_iastore g264 g270 rfl ?_
                refine en_aload rfl rfl ?_
                obtain ⟨r271, e272, h⟩ := gb h
                refine ec_getP (ci := 10) (j := 22) ⟨rfl, rfl, rfl⟩ g1 e272 rfl ?_
                refine en_aload rfl rfl ?_
                refine ec_getI (ci := 10) (j := 41) ⟨rfl, rfl, rfl⟩ g1 rfl ?_
                refine en_dup2 ⟨rfl, rfl⟩ rfl ?_
                obtain ⟨g273, h⟩ := gd h
                obtain ⟨g274, h⟩ := gd h
                refine ec_iaload g273 g274 rfl ?_
                refine ec_iconst cst_1 rfl ?_
                refine en_iadd rfl ?_
                obtain ⟨g275, h⟩ := gd h
                refine ec_iastore g273 g275 rfl ?_
                refine en_aload rfl rfl ?_
                refine en_aload rfl rfl ?_
                refine ec_iconst cst_59 rfl ?_
                obtain ⟨⟨q276, C277⟩, e278, h⟩ := gb h
                dsimp only at h
                refine ec_callV1 (k' := 172) (n := 2) (rc := 10) (a := a0) (as := [.int (59 : Int32)]) ⟨rfl, rfl⟩ rfl rfl (Nat.le_of_ble_eq_true rfl) (Nat.le_of_ble_eq_true rfl) (Nat.le_of_ble_eq_true rfl) g1 rfl (t_172 e278) ?_
                rcases gi h with ⟨c279, h⟩ | ⟨c279, h⟩
                · refine en_if_eq_t c279 rfl ?_
                  refine ec_iconst cst_1 rfl ?_
                  refine en_goto rfl ?_
                  refine ec_iconst cst_4 rfl ?_
                  obtain ⟨⟨q280, C281⟩, e282, h⟩ := gb h
                  dsimp only at h
                  refine ec_callV1 (k' := 170) (n := 3) (rc := 10) (a := a0) (as := [.int (1 : Int32), .int (4 : Int32)]) ⟨rfl, rfl⟩ rfl rfl (Nat.le_of_ble_eq_true rfl) (Nat.le_of_ble_eq_true rfl) (Nat.le_of_ble_eq_true rfl) g1 rfl (t_170 e282) ?_
                  refine en_pop rfl rfl ?_
                  cases h
                  exact en_vret rfl
                · refine en_if_eq_f c279 rfl ?_
                  refine en_aload rfl rfl ?_
                  refine en_aload rfl rfl ?_
                  obtain ⟨r283, e284, h⟩ := gb h
                  refine ec_getP (ci := 10) (j := 52) ⟨rfl, rfl, rfl⟩ g1 e284 rfl ?_
                  refine ec_iconst cst_0 rfl ?_
                  refine ec_iconst cst_30 rfl ?_
                  refine en_aload rfl rfl ?_
                  refine ec_getI (ci := 10) (j := 41) ⟨rfl, rfl, rfl⟩ g1 rfl ?_
                  obtain ⟨⟨q285, C286⟩, e287, h⟩ := gb h
                  dsimp only at h
                  refine ec_callV1 (k' := 192) (n := 5) (rc := 10) (a := a0) (as := [.ref r283, .int (0 : Int32), .int (30 : Int32), .int (cI C277 a0 41)]) ⟨rfl, rfl⟩ rfl rfl (Nat.le_of_ble_eq_true rfl) (Nat.le_of_ble_eq_true rfl) (Nat.le_of_ble_eq_true rfl) g1 rfl (t_192 e287) ?_
                  refine ec_iconst cst_m1 rfl ?_
                  rcases gi h with ⟨c288, h⟩ | ⟨c288, h⟩
                  · refine en_icmp_ne_t c288 rfl ?_
                    refine ec_iconst cst_0 rfl ?_
                    refine ec_iconst cst_4 rfl ?_
                    obtain ⟨⟨q289, C290⟩, e291, h⟩ := gb h
                    dsimp only at h
                    refine ec_callV1 (k' := 170) (n := 3) (rc := 10) (a := a0) (as := [.int (0 : Int32), .int (4 : Int32)]) ⟨rfl, rfl⟩ rfl rfl (Nat.le_of_ble_eq_true rfl) (Nat.le_of_ble_eq_true rfl) (Nat.le_of_ble_eq_true rfl) g1 rfl (t_170 e291) ?_
                    refine en_pop rfl rfl ?_
                    cases h
                    exact en_vret rfl
                  · refine en_icmp_ne_f c288 rfl ?_
                    refine ec_iconst cst_1 rfl ?_
                    refine en_goto rfl ?_
                    refine ec_iconst cst_4 rfl ?_
                    obtain ⟨⟨q292, C293⟩, e294, h⟩ := gb h
                    dsimp only at h
                    refine ec_callV1 (k' := 170) (n := 3) (rc := 10) (a := a0) (as := [.int (1 : Int32), .int (4 : Int32)]) ⟨rfl, rfl⟩ rfl rfl (Nat.le_of_ble_eq_true rfl) (Nat.le_of_ble_eq_true rfl) (Nat.le_of_ble_eq_true rfl) g1 rfl (t_170 e294) ?_
                    refine en_pop rfl rfl ?_
                    cases h
                    exact en_vret rfl
            · refine en_if_eq_f c236 rfl ?_
              cases h
              exact en_vret rfl
    · refine en_if_ne_f c10 rfl ?_
      cases h
      exact en_vret rfl
  · refine en_icmp_ge_f c6 rfl ?_
    refine ec_iconst cst_1 rfl ?_
    refine en_goto rfl ?_
    refine ec_iconst cst_2 rfl ?_
    obtain ⟨⟨q295, C296⟩, e297, h⟩ := gb h
    dsimp only at h
    refine ec_callV1 (k' := 170) (n := 3) (rc := 10) (a := a0) (as := [.int (1 : Int32), .int (2 : Int32)]) ⟨rfl, rfl⟩ rfl rfl (Nat.le_of_ble_eq_true rfl) (Nat.le_of_ble_eq_true rfl) (Nat.le_of_ble_eq_true rfl) g1 rfl (t_170 e297) ?_
    rcases gi h with ⟨c298, h⟩ | ⟨c298, h⟩
    · refine en_if_ne_t c298 rfl ?_
      refine en_aload rfl rfl ?_
      obtain ⟨⟨q299, C300⟩, e301, h⟩ := gb h
      dsimp only at h
      refine ec_callV0 (k' := 169) (n := 1) (rc := 10) (a := a0) (as := []) ⟨rfl, rfl⟩ rfl rfl (Nat.le_of_ble_eq_true rfl) (Nat.le_of_ble_eq_true rfl) (Nat.le_of_ble_eq_true rfl) g1 rfl (t_169 e301) ?_
      refine ec_iconst cst_3 rfl ?_
      refine en_aload rfl rfl ?_
      refine ec_getI (ci := 10) (j := 41) ⟨rfl, rfl, rfl⟩ g1 rfl ?_
      refine en_imul rfl ?_
      refine en_aload rfl rfl ?_
      obtain ⟨r302, e303, h⟩ := gb h
      refine ec_getP (ci := 10) (j := 22) ⟨rfl, rfl, rfl⟩ g1 e303 rfl ?_
      refine en_aload rfl rfl ?_
      refine ec_getI (ci := 10) (j := 41) ⟨rfl, rfl, rfl⟩ g1 rfl ?_
      obtain ⟨g304, h⟩ := gd h
      obtain ⟨g305, h⟩ := gd h
      refine ec_iaload g304 g305 rfl ?_
      refine en_iadd rfl ?_
      refine en_istore (l' := [(2, .int (((3 : Int32) * (cI C300 a0 41)) + (cI C300 r302 (Int32.toNatClampNeg (cI C300 a0 41))))), (0, .ref a0), (1, .int a1)]) rfl rfl ?_
      refine en_aload rfl rfl ?_
      obtain ⟨r306, e307, h⟩ := gb h
      refine ec_getP (ci := 10) (j := 29) ⟨rfl, rfl, rfl⟩ g1 e307 rfl ?_
      refine en_iload rfl rfl ?_
      refine en_aload rfl rfl ?_
      obtain ⟨⟨q308, C309⟩, e310, h⟩ := gb h
      dsimp only at h
      refine ec_callV1 (k' := 176) (n := 1) (rc := 10) (a := a0) (as := []) ⟨rfl, rfl⟩ rfl rfl (Nat.le_of_ble_eq_true rfl) (Nat.le_of_ble_eq_true rfl) (Nat.le_of_ble_eq_true rfl) g1 rfl (t_176 e310) ?_
      obtain ⟨g311, h⟩ := gd h
      obtain ⟨g312, h⟩ := gd h
      refine ec_iastore g311 g312 rfl ?_
      refine en_aload rfl rfl ?_
      obtain ⟨r313, e314, h⟩ := gb h
      refine ec_getP (ci := 10) (j := 30) ⟨rfl, rfl, rfl⟩ g1 e314 rfl ?_
      refine en_iload rfl rfl ?_
      refine ec_iconst cst_m1 rfl ?_
      obtain ⟨g315, h⟩ := gd h
      obtain ⟨g316, h⟩ := gd h
      refine ec_iastore g315 g316 rfl ?_
      refine en_aload rfl rfl ?_
      obtain ⟨⟨q317, C318⟩, e319, h⟩ := gb h
      dsimp only at h
      refine ec_callV1 (k' := 175) (n := 1) (rc := 10) (a := a0) (as := []) ⟨rfl, rfl⟩ rfl rfl (Nat.le_of_ble_eq_true rfl) (Nat.le_of_ble_eq_true rfl) (Nat.le_of_ble_eq_true rfl) g1 rfl (t_175 e319) ?_
      rcases gi h with ⟨c320, h⟩ | ⟨c320, h⟩
      · refine en_if_eq_t c320 rfl ?_
        refine en_aload rfl rfl ?_
        refine ec_getI (ci := 10) (j := 51) ⟨rfl, rfl, rfl⟩ g1 rfl ?_
        rcases gi h with ⟨c321, h⟩ | ⟨c321, h⟩
        · refine en_if_eq_t c321 rfl ?_
          refine en_iload rfl rfl ?_
          rcases gi h with ⟨c322, h⟩ | ⟨c322, h⟩
          · refine en_if_eq_t c322 rfl ?_
            refine en_aload rfl rfl ?_
            obtain ⟨r323, e324, h⟩ := gb h
            refine ec_getP (ci := 10) (j := 22) ⟨rfl, rfl, rfl⟩ g1 e324 rfl ?_
            refine en_aload rfl rfl ?_
            refine ec_getI (ci := 10) (j := 41) ⟨rfl, rfl, rfl⟩ g1 rfl ?_
            refine en_dup2 ⟨rfl, rfl⟩ rfl ?_
            obtain ⟨g325, h⟩ := gd h
            obtain ⟨g326, h⟩ := gd h
            refine ec_iaload g325 g326 rfl ?_
            refine ec_iconst cst_1 rfl ?_
            refine en_iadd rfl ?_
            obtain ⟨g327, h⟩ := gd h
            refine ec_iastore g325 g327 rfl ?_
            refine en_aload rfl rfl ?_
            refine en_aload rfl rfl ?_
            refine ec_iconst cst_59 rfl ?_
            obtain ⟨⟨q328, C329⟩, e330, h⟩ := gb h
            dsimp only at h
            refine ec_callV1 (k' := 172) (n := 2) (rc := 10) (a := a0) (as := [.int (59 : Int32)]) ⟨rfl, rfl⟩ rfl rfl (Nat.le_of_ble_eq_true rfl) (Nat.le_of_ble_eq_true rfl) (Nat.le_of_ble_eq_true rfl) g1 rfl (t_172 e330) ?_
            rcases gi h with ⟨c331, h⟩ | ⟨c331, h⟩
            · refine en_if_eq_t c331 rfl ?_
              refine ec_iconst cst_1 rfl ?_
              refine en_goto rfl ?_
              refine ec_iconst cst_4 rfl ?_
              obtain ⟨⟨q332, C333⟩, e334, h⟩ := gb h
              dsimp only at h
              refine ec_callV1 (k' := 170) (n := 3) (rc := 10) (a := a0) (as := [.int (1 : Int32), .int (4 : Int32)]) ⟨rfl, rfl⟩ rfl rfl (Nat.le_of_ble_eq_true rfl) (Nat.le_of_ble_eq_true rfl) (Nat.le_of_ble_eq_true rfl) g1 rfl (t_170 e334) ?_
              refine en_pop rfl rfl ?_
              cases h
              exact en_vret rfl
            · refine en_if_eq_f c331 rfl ?_
              refine en_aload rfl rfl ?_
              refine en_aload rfl rfl ?_
              obtain ⟨r335, e336, h⟩ := gb h
              refine ec_getP (ci := 10) (j := 52) ⟨rfl, rfl, rfl⟩ g1 e336 rfl ?_
              refine ec_iconst cst_0 rfl ?_
              refine ec_iconst cst_30 rfl ?_
              refine en_aload rfl rfl ?_
              refine ec_getI (ci := 10) (j := 41) ⟨rfl, rfl, rfl⟩ g1 rfl ?_
              obtain ⟨⟨q337, C338⟩, e339, h⟩ := gb h
              dsimp only at h
              refine ec_callV1 (k' := 192) (n := 5) (rc := 10) (a := a0) (as := [.ref r335, .int (0 : Int32), .int (30 : Int32), .int (cI C329 a0 41)]) ⟨rfl, rfl⟩ rfl rfl (Nat.le_of_ble_eq_true rfl) (Nat.le_of_ble_eq_true rfl) (Nat.le_of_ble_eq_true rfl) g1 rfl (t_192 e339) ?_
              refine ec_iconst cst_m1 rfl ?_
              rcases gi h with ⟨c340, h⟩ | ⟨c340, h⟩
              · refine en_icmp_ne_t c340 rfl ?_
                refine ec_iconst cst_0 rfl ?_
                refine ec_iconst cst_4 rfl ?_
                obtain ⟨⟨q341, C342⟩, e343, h⟩ := gb h
                dsimp only at h
                refine ec_callV1 (k' := 170) (n := 3) (rc := 10) (a := a0) (as := [.int (0 : Int32), .int (4 : Int32)]) ⟨rfl, rfl⟩ rfl rfl (Nat.le_of_ble_eq_true rfl) (Nat.le_of_ble_eq_true rfl) (Nat.le_of_ble_eq_true rfl) g1 rfl (t_170 e343) ?_
                refine en_pop rfl rfl ?_
                cases h
                exact en_vret rfl
              · refine en_icmp_ne_f c340 rfl ?_
                refine ec_iconst cst_1 rfl ?_
                refine en_goto rfl ?_
                refine ec_iconst cst_4 rfl ?_
                obtain ⟨⟨q344, C345⟩, e346, h⟩ := gb h
                dsimp only at h
                refine ec_callV1 (k' := 170) (n := 3) (rc := 10) (a := a0) (as := [.int (1 : Int32), .int (4 : Int32)]) ⟨rfl, rfl⟩ rfl rfl (Nat.le_of_ble_eq_true rfl) (Nat.le_of_ble_eq_true rfl) (Nat.le_of_ble_eq_true rfl) g1 rfl (t_170 e346) ?_
                refine en_pop rfl rfl ?_
                cases h
                exact en_vret rfl
          · refine en_if_eq_f c322 rfl ?_
            refine en_aload rfl rfl ?_
            obtain ⟨r347, e348, h⟩ := gb h
            refine ec_getP (ci := 10) (j := 23) ⟨rfl, rfl, rfl⟩ g1 e348 rfl ?_
            refine en_aload rfl rfl ?_
            refine ec_getI (ci := 10) (j := 41) ⟨rfl, rfl, rfl⟩ g1 rfl ?_
            refine en_dup2 ⟨rfl, rfl⟩ rfl ?_
            obtain ⟨g349, h⟩ := gd h
            obtain ⟨g350, h⟩ := gd h
            refine ec_iaload g349 g350 rfl ?_
            refine ec_iconst cst_1 rfl ?_
            refine en_aload rfl rfl ?_
            obtain ⟨r351, e352, h⟩ := gb h
            refine ec_getP (ci := 10) (j := 22) ⟨rfl, rfl, rfl⟩ g1 e352 rfl ?_
            refine en_aload rfl rfl ?_
            refine ec_getI (ci := 10) (j := 41) ⟨rfl, rfl, rfl⟩ g1 rfl ?_
            obtain ⟨g353, h⟩ := gd h
            obtain ⟨g354, h⟩ := gd h
            refine ec_iaload g353 g354 rfl ?_
            refine en_ishl rfl ?_
            refine en_ior rfl ?_
            obtain ⟨g355, h⟩ := gd h
            refine ec_iastore g349 g355 rfl ?_
            refine en_aload rfl rfl ?_
            obtain ⟨r356, e357, h⟩ := gb h
            refine ec_getP (ci := 10) (j := 22) ⟨rfl, rfl, rfl⟩ g1 e357 rfl ?_
            refine en_aload rfl rfl ?_
            refine ec_getI (ci := 10) (j := 41) ⟨rfl, rfl, rfl⟩ g1 rfl ?_
            refine en_dup2 ⟨rfl, rfl⟩ rfl ?_
            obtain ⟨g358, h⟩ := gd h
            obtain ⟨g359, h⟩ := gd h
            refine ec_iaload g358 g359 rfl ?_
            refine ec_iconst cst_1 rfl ?_
            refine en_iadd rfl ?_
            obtain ⟨g360, h⟩ := gd h
            refine ec_iastore g358 g360 rfl ?_
            refine en_aload rfl rfl ?_
            refine en_aload rfl rfl ?_
            refine ec_iconst cst_59 rfl ?_
            obtain ⟨⟨q361, C362⟩, e363, h⟩ := gb h
            dsimp only at h
            refine ec_callV1 (k' := 172) (n := 2) (rc := 10) (a := a0) (as := [.int (59 : Int32)]) ⟨rfl, rfl⟩ rfl rfl (Nat.le_of_ble_eq_true rfl) (Nat.le_of_ble_eq_true rfl) (Nat.le_of_ble_eq_true rfl) g1 rfl (t_172 e363) ?_
            rcases gi h with ⟨c364, h⟩ | ⟨c364, h⟩
            · refine en_if_eq_t c364 rfl ?_
              refine ec_iconst cst_1 rfl ?_
              refine en_goto rfl ?_
              refine ec_iconst cst_4 rfl ?_
              obtain ⟨⟨q365, C366⟩, e367, h⟩ := gb h
              dsimp only at h
              refine ec_callV1 (k' := 170) (n := 3) (rc := 10) (a := a0) (as := [.int (1 : Int32), .int (4 : Int32)]) ⟨rfl, rfl⟩ rfl rfl (Nat.le_of_ble_eq_true rfl) (Nat.le_of_ble_eq_true rfl) (Nat.le_of_ble_eq_true rfl) g1 rfl (t_170 e367) ?_
              refine en_pop rfl rfl ?_
              cases h
              exact en_vret rfl
            · refine en_if_eq_f c364 rfl ?_
              refine en_aload rfl rfl ?_
              refine en_aload rfl rfl ?_
              obtain ⟨r368, e369, h⟩ := gb h
              refine ec_getP (ci := 10) (j := 52) ⟨rfl, rfl, rfl⟩ g1 e369 rfl ?_
              refine ec_iconst cst_0 rfl ?_
              refine ec_iconst cst_30 rfl ?_
              refine en_aload rfl rfl ?_
              refine ec_getI (ci := 10) (j := 41) ⟨rfl, rfl, rfl⟩ g1 rfl ?_
              obtain ⟨⟨q370, C371⟩, e372, h⟩ := gb h
              dsimp only at h
              refine ec_callV1 (k' := 192) (n := 5) (rc := 10) (a := a0) (as := [.ref r368, .int (0 : Int32), .int (30 : Int32), .int (cI C362 a0 41)]) ⟨rfl, rfl⟩ rfl rfl (Nat.le_of_ble_eq_true rfl) (Nat.le_of_ble_eq_true rfl) (Nat.le_of_ble_eq_true rfl) g1 rfl (t_192 e372) ?_
              refine ec_iconst cst_m1 rfl ?_
              rcases gi h with ⟨c373, h⟩ | ⟨c373, h⟩
              · refine en_icmp_ne_t c373 rfl ?_
                refine ec_iconst cst_0 rfl ?_
                refine ec_iconst cst_4 rfl ?_
                obtain ⟨⟨q374, C375⟩, e376, h⟩ := gb h
                dsimp only at h
                refine ec_callV1 (k' := 170) (n := 3) (rc := 10) (a := a0) (as := [.int (0 : Int32), .int (4 : Int32)]) ⟨rfl, rfl⟩ rfl rfl (Nat.le_of_ble_eq_true rfl) (Nat.le_of_ble_eq_true rfl) (Nat.le_of_ble_eq_true rfl) g1 rfl (t_170 e376) ?_
                refine en_pop rfl rfl ?_
                cases h
                exact en_vret rfl
              · refine en_icmp_ne_f c373 rfl ?_
                refine ec_iconst cst_1 rfl ?_
                refine en_goto rfl ?_
                refine ec_iconst cst_4 rfl ?_
                obtain ⟨⟨q377, C378⟩, e379, h⟩ := gb h
                dsimp only at h
                refine ec_callV1 (k' := 170) (n := 3) (rc := 10) (a := a0) (as := [.int (1 : Int32), .int (4 : Int32)]) ⟨rfl, rfl⟩ rfl rfl (Nat.le_of_ble_eq_true rfl) (Nat.le_of_ble_eq_true rfl) (Nat.le_of_ble_eq_true rfl) g1 rfl (t_170 e379) ?_
                refine en_pop rfl rfl ?_
                cases h
                exact en_vret rfl
        · refine en_if_eq_f c321 rfl ?_
          cases h
          exact en_vret rfl
      · refine en_if_eq_f c320 rfl ?_
        refine en_aload rfl rfl ?_
        refine ec_getI (ci := 10) (j := 51) ⟨rfl, rfl, rfl⟩ g1 rfl ?_
        rcases gi h with ⟨c380, h⟩ | ⟨c380, h⟩
        · refine en_if_ne_t c380 rfl ?_
          refine en_aload rfl rfl ?_
          refine ec_getI (ci := 10) (j := 51) ⟨rfl, rfl, rfl⟩ g1 rfl ?_
          rcases gi h with ⟨c381, h⟩ | ⟨c381, h⟩
          · refine en_if_eq_t c381 rfl ?_
            refine en_iload rfl rfl ?_
            rcases gi h with ⟨c382, h⟩ | ⟨c382, h⟩
            · refine en_if_eq_t c382 rfl ?_
              refine en_aload rfl rfl ?_
              obtain ⟨r383, e384, h⟩ := gb h
              refine ec_getP (ci := 10) (j := 22) ⟨rfl, rfl, rfl⟩ g1 e384 rfl ?_
              refine en_aload rfl rfl ?_
              refine ec_getI (ci := 10) (j := 41) ⟨rfl, rfl, rfl⟩ g1 rfl ?_
              refine en_dup2 ⟨rfl, rfl⟩ rfl ?_
              obtain ⟨g385, h⟩ := gd h
              obtain ⟨g386, h⟩ := gd h
              refine ec_iaload g385 g386 rfl ?_
              refine ec_iconst cst_1 rfl ?_
              refine en_iadd rfl ?_
              obtain ⟨g387, h⟩ := gd h
              refine ec_iastore g385 g387 rfl ?_
              refine en_aload rfl rfl ?_
              refine en_aload rfl rfl ?_
              refine ec_iconst cst_59 rfl ?_
              obtain ⟨⟨q388, C389⟩, e390, h⟩ := gb h
              dsimp only at h
              refine ec_callV1 (k' := 172) (n := 2) (rc := 10) (a := a0) (as := [.int (59 : Int32)]) ⟨rfl, rfl⟩ rfl rfl (Nat.le_of_ble_eq_true rfl) (Nat.le_of_ble_eq_true rfl) (Nat.le_of_ble_eq_true rfl) g1 rfl (t_172 e390) ?_
              rcases gi h with ⟨c391, h⟩ | ⟨c391, h⟩
              · refine en_if_eq_t c391 rfl ?_
                refine ec_iconst cst_1 rfl ?_
                refine en_goto rfl ?_
                refine ec_iconst cst_4 rfl ?_
                obtain ⟨⟨q392, C393⟩, e394, h⟩ := gb h
                dsimp only at h
                refine ec_callV1 (k' := 170) (n := 3) (rc := 10) (a := a0) (as := [.int (1 : Int32), .int (4 : Int32)]) ⟨rfl, rfl⟩ rfl rfl (Nat.le_of_ble_eq_true rfl) (Nat.le_of_ble_eq_true rfl) (Nat.le_of_ble_eq_true rfl) g1 rfl (t_170 e394) ?_
                refine en_pop rfl rfl ?_
                cases h
                exact en_vret rfl
              · refine en_if_eq_f c391 rfl ?_
                refine en_aload rfl rfl ?_
                refine en_aload rfl rfl ?_
                obtain ⟨r395, e396, h⟩ := gb h
                refine ec_getP (ci := 10) (j := 52) ⟨rfl, rfl, rfl⟩ g1 e396 rfl ?_
                refine ec_iconst cst_0 rfl ?_
                refine ec_iconst cst_30 rfl ?_
                refine en_aload rfl rfl ?_
                refine ec_getI (ci := 10) (j := 41) ⟨rfl, rfl, rfl⟩ g1 rfl ?_
                obtain ⟨⟨q397, C398⟩, e399, h⟩ := gb h
                dsimp only at h
                refine ec_callV1 (k' := 192) (n := 5) (rc := 10) (a := a0) (as := [.ref r395, .int (0 : Int32), .int (30 : Int32), .int (cI C389 a0 41)]) ⟨rfl, rfl⟩ rfl rfl (Nat.le_of_ble_eq_true rfl) (Nat.le_of_ble_eq_true rfl) (Nat.le_of_ble_eq_true rfl) g1 rfl (t_192 e399) ?_
                refine ec_iconst cst_m1 rfl ?_
                rcases gi h with ⟨c400, h⟩ | ⟨c400, h⟩
                · refine en_icmp_ne_t c400 rfl ?_
                  refine ec_iconst cst_0 rfl ?_
                  refine ec_iconst cst_4 rfl ?_
                  obtain ⟨⟨q401, C402⟩, e403, h⟩ := gb h
                  dsimp only at h
                  refine ec_callV1 (k' := 170) (n := 3) (rc := 10) (a := a0) (as := [.int (0 : Int32), .int (4 : Int32)]) ⟨rfl, rfl⟩ rfl rfl (Nat.le_of_ble_eq_true rfl) (Nat.le_of_ble_eq_true rfl) (Nat.le_of_ble_eq_true rfl) g1 rfl (t_170 e403) ?_
                  refine en_pop rfl rfl ?_
                  cases h
                  exact en_vret rfl
                · refine en_icmp_ne_f c400 rfl ?_
                  refine ec_iconst cst_1 rfl ?_
                  refine en_goto rfl ?_
                  refine ec_iconst cst_4 rfl ?_
                  obtain ⟨⟨q404, C405⟩, e406, h⟩ := gb h
                  dsimp only at h
                  refine ec_callV1 (k' := 170) (n := 3) (rc := 10) (a := a0) (as := [.int (1 : Int32), .int (4 : Int32)]) ⟨rfl, rfl⟩ rfl rfl (Nat.le_of_ble_eq_true rfl) (Nat.le_of_ble_eq_true rfl) (Nat.le_of_ble_eq_true rfl) g1 rfl (t_170 e406) ?_
                  refine en_pop rfl rfl ?_
                  cases h
                  exact en_vret rfl
            · refine en_if_eq_f c382 rfl ?_
              refine en_aload rfl rfl ?_
              obtain ⟨r407, e408, h⟩ := gb h
              refine ec_getP (ci := 10) (j := 23) ⟨rfl, rfl, rfl⟩ g1 e408 rfl ?_
              refine en_aload rfl rfl ?_
              refine ec_getI (ci := 10) (j := 41) ⟨rfl, rfl, rfl⟩ g1 rfl ?_
              refine en_dup2 ⟨rfl, rfl⟩ rfl ?_
              obtain ⟨g409, h⟩ := gd h
              obtain ⟨g410, h⟩ := gd h
              refine ec_iaload g409 g410 rfl ?_
              refine ec_iconst cst_1 rfl ?_
              refine en_aload rfl rfl ?_
              obtain ⟨r411, e412, h⟩ := gb h
              refine ec_getP (ci := 10) (j := 22) ⟨rfl, rfl, rfl⟩ g1 e412 rfl ?_
              refine en_aload rfl rfl ?_
              refine ec_getI (ci := 10) (j := 41) ⟨rfl, rfl, rfl⟩ g1 rfl ?_
              obtain ⟨g413, h⟩ := gd h
              obtain ⟨g414, h⟩ := gd h
              refine ec_iaload g413 g414 rfl ?_
              refine en_ishl rfl ?_
              refine en_ior rfl ?_
              obtain ⟨g415, h⟩ := gd h
              refine ec_iastore g409 g415 rfl ?_
              refine en_aload rfl rfl ?_
              obtain ⟨r416, e417, h⟩ := gb h
              refine ec_getP (ci := 10) (j := 22) ⟨rfl, rfl, rfl⟩ g1 e417 rfl ?_
              refine en_aload rfl rfl ?_
              refine ec_getI (ci := 10) (j := 41) ⟨rfl, rfl, rfl⟩ g1 rfl ?_
              refine en_dup2 ⟨rfl, rfl⟩ rfl ?_
              obtain ⟨g418, h⟩ := gd h
              obtain ⟨g419, h⟩ := gd h
              refine ec_iaload g418 g419 rfl ?_
              refine ec_iconst cst_1 rfl ?_
              refine en_iadd rfl ?_
              obtain ⟨g420, h⟩ := gd h
              refine ec_iastore g418 g420 rfl ?_
              refine en_aload rfl rfl ?_
              refine en_aload rfl rfl ?_
              refine ec_iconst cst_59 rfl ?_
              obtain ⟨⟨q421, C422⟩, e423, h⟩ := gb h
              dsimp only at h
              refine ec_callV1 (k' := 172) (n := 2) (rc := 10) (a := a0) (as := [.int (59 : Int32)]) ⟨rfl, rfl⟩ rfl rfl (Nat.le_of_ble_eq_true rfl) (Nat.le_of_ble_eq_true rfl) (Nat.le_of_ble_eq_true rfl) g1 rfl (t_172 e423) ?_
              rcases gi h with ⟨c424, h⟩ | ⟨c424, h⟩
              · refine en_if_eq_t c424 rfl ?_
                refine ec_iconst cst_1 rfl ?_
                refine en_goto rfl ?_
                refine ec_iconst cst_4 rfl ?_
                obtain ⟨⟨q425, C426⟩, e427, h⟩ := gb h
                dsimp only at h
                refine ec_callV1 (k' := 170) (n := 3) (rc := 10) (a := a0) (as := [.int (1 : Int32), .int (4 : Int32)]) ⟨rfl, rfl⟩ rfl rfl (Nat.le_of_ble_eq_true rfl) (Nat.le_of_ble_eq_true rfl) (Nat.le_of_ble_eq_true rfl) g1 rfl (t_170 e427) ?_
                refine en_pop rfl rfl ?_
                cases h
                exact en_vret rfl
              · refine en_if_eq_f c424 rfl ?_
                refine en_aload rfl rfl ?_
                refine en_aload rfl rfl ?_
                obtain ⟨r428, e429, h⟩ := gb h
                refine ec_getP (ci := 10) (j := 52) ⟨rfl, rfl, rfl⟩ g1 e429 rfl ?_
                refine ec_iconst cst_0 rfl ?_
                refine ec_iconst cst_30 rfl ?_
                refine en_aload rfl rfl ?_
                refine ec_getI (ci := 10) (j := 41) ⟨rfl, rfl, rfl⟩ g1 rfl ?_
                obtain ⟨⟨q430, C431⟩, e432, h⟩ := gb h
                dsimp only at h
                refine ec_callV1 (k' := 192) (n := 5) (rc := 10) (a := a0) (as := [.ref r428, .int (0 : Int32), .int (30 : Int32), .int (cI C422 a0 41)]) ⟨rfl, rfl⟩ rfl rfl (Nat.le_of_ble_eq_true rfl) (Nat.le_of_ble_eq_true rfl) (Nat.le_of_ble_eq_true rfl) g1 rfl (t_192 e432) ?_
                refine ec_iconst cst_m1 rfl ?_
                rcases gi h with ⟨c433, h⟩ | ⟨c433, h⟩
                · refine en_icmp_ne_t c433 rfl ?_
                  refine ec_iconst cst_0 rfl ?_
                  refine ec_iconst cst_4 rfl ?_
                  obtain ⟨⟨q434, C435⟩, e436, h⟩ := gb h
                  dsimp only at h
                  refine ec_callV1 (k' := 170) (n := 3) (rc := 10) (a := a0) (as := [.int (0 : Int32), .int (4 : Int32)]) ⟨rfl, rfl⟩ rfl rfl (Nat.le_of_ble_eq_true rfl) (Nat.le_of_ble_eq_true rfl) (Nat.le_of_ble_eq_true rfl) g1 rfl (t_170 e436) ?_
                  refine en_pop rfl rfl ?_
                  cases h
                  exact en_vret rfl
                · refine en_icmp_ne_f c433 rfl ?_
                  refine ec_iconst cst_1 rfl ?_
                  refine en_goto rfl ?_
                  refine ec_iconst cst_4 rfl ?_
                  obtain ⟨⟨q437, C438⟩, e439, h⟩ := gb h
                  dsimp only at h
                  refine ec_callV1 (k' := 170) (n := 3) (rc := 10) (a := a0) (as := [.int (1 : Int32), .int (4 : Int32)]) ⟨rfl, rfl⟩ rfl rfl (Nat.le_of_ble_eq_true rfl) (Nat.le_of_ble_eq_true rfl) (Nat.le_of_ble_eq_true rfl) g1 rfl (t_170 e439) ?_
                  refine en_pop rfl rfl ?_
                  cases h
                  exact en_vret rfl
          · refine en_if_eq_f c381 rfl ?_
            cases h
            exact en_vret rfl
        · refine en_if_ne_f c380 rfl ?_
          refine en_aload rfl rfl ?_
          refine en_aload rfl rfl ?_
          refine ec_getI (ci := 10) (j := 50) ⟨rfl, rfl, rfl⟩ g1 rfl ?_
          refine ec_iconst cst_17 rfl ?_
          refine en_isub rfl ?_
          refine en_aload rfl rfl ?_
          obtain ⟨r440, e441, h⟩ := gb h
          refine ec_getP (ci := 10) (j := 29) ⟨rfl, rfl, rfl⟩ g1 e441 rfl ?_
          refine en_iload rfl rfl ?_
          obtain ⟨g442, h⟩ := gd h
          obtain ⟨g443, h⟩ := gd h
          refine ec_iaload g442 g443 rfl ?_
          rcases gi h with ⟨c444, h⟩ | ⟨c444, h⟩
          · refine en_icmp_eq_t c444 rfl ?_
            refine ec_iconst cst_0 rfl ?_
            refine ec_iconst cst_3 rfl ?_
            obtain ⟨⟨q445, C446⟩, e447, h⟩ := gb h
            dsimp only at h
            refine ec_callV1 (k' := 170) (n := 3) (rc := 10) (a := a0) (as := [.int (0 : Int32), .int (3 : Int32)]) ⟨rfl, rfl⟩ rfl rfl (Nat.le_of_ble_eq_true rfl) (Nat.le_of_ble_eq_true rfl) (Nat.le_of_ble_eq_true rfl) g1 rfl (t_170 e447) ?_
            refine en_pop rfl rfl ?_
            refine en_aload rfl rfl ?_
            obtain ⟨r448, e449, h⟩ := gb h
            refine ec_getP (ci := 10) (j := 30) ⟨rfl, rfl, rfl⟩ g1 e449 rfl ?_
            refine en_iload rfl rfl ?_
            refine en_aload rfl rfl ?_
            obtain ⟨⟨q450, C451⟩, e452, h⟩ := gb h
            dsimp only at h
            refine ec_callV1 (k' := 176) (n := 1) (rc := 10) (a := a0) (as := []) ⟨rfl, rfl⟩ rfl rfl (Nat.le_of_ble_eq_true rfl) (Nat.le_of_ble_eq_true rfl) (Nat.le_of_ble_eq_true rfl) g1 rfl (t_176 e452) ?_
            obtain ⟨g453, h⟩ := gd h
            obtain ⟨g454, h⟩ := gd h
            refine ec_iastore g453 g454 rfl ?_
            refine en_aload rfl rfl ?_
            refine ec_getI (ci := 10) (j := 51) ⟨rfl, rfl, rfl⟩ g1 rfl ?_
            rcases gi h with ⟨c455, h⟩ | ⟨c455, h⟩
            · refine en_if_eq_t c455 rfl ?_
              refine en_iload rfl rfl ?_
              rcases gi h with ⟨c456, h⟩ | ⟨c456, h⟩
              · refine en_if_eq_t c456 rfl ?_
                refine en_aload rfl rfl ?_
                obtain ⟨r457, e458, h⟩ := gb h
                refine ec_getP (ci := 10) (j := 22) ⟨rfl, rfl, rfl⟩ g1 e458 rfl ?_
                refine en_aload rfl rfl ?_
                refine ec_getI (ci := 10) (j := 41) ⟨rfl, rfl, rfl⟩ g1 rfl ?_
                refine en_dup2 ⟨rfl, rfl⟩ rfl ?_
                obtain ⟨g459, h⟩ := gd h
                obtain ⟨g460, h⟩ := gd h
                refine ec_iaload g459 g460 rfl ?_
                refine ec_iconst cst_1 rfl ?_
                refine en_iadd rfl ?_
                obtain ⟨g461, h⟩ := gd h
                refine ec_iastore g459 g461 rfl ?_
                refine en_aload rfl rfl ?_
                refine en_aload rfl rfl ?_
                refine ec_iconst cst_59 rfl ?_
                obtain ⟨⟨q462, C463⟩, e464, h⟩ := gb h
                dsimp only at h
                refine ec_callV1 (k' := 172) (n := 2) (rc := 10) (a := a0) (as := [.int (59 : Int32)]) ⟨rfl, rfl⟩ rfl rfl (Nat.le_of_ble_eq_true rfl) (Nat.le_of_ble_eq_true rfl) (Nat.le_of_ble_eq_true rfl) g1 rfl (t_172 e464) ?_
                rcases gi h with ⟨c465, h⟩ | ⟨c465, h⟩
                · refine en_if_eq_t c465 rfl ?_
                  refine ec_iconst cst_1 rfl ?_
                  refine en_goto rfl ?_
                  refine ec_iconst cst_4 rfl ?_
                  obtain ⟨⟨q466, C467⟩, e468, h⟩ := gb h
                  dsimp only at h
                  refine ec_callV1 (k' := 170) (n := 3) (rc := 10) (a := a0) (as := [.int (1 : Int32), .int (4 : Int32)]) ⟨rfl, rfl⟩ rfl rfl (Nat.le_of_ble_eq_true rfl) (Nat.le_of_ble_eq_true rfl) (Nat.le_of_ble_eq_true rfl) g1 rfl (t_170 e468) ?_
                  refine en_pop rfl rfl ?_
                  cases h
                  exact en_vret rfl
                · refine en_if_eq_f c465 rfl ?_
                  refine en_aload rfl rfl ?_
                  refine en_aload rfl rfl ?_
                  obtain ⟨r469, e470, h⟩ := gb h
                  refine ec_getP (ci := 10) (j := 52) ⟨rfl, rfl, rfl⟩ g1 e470 rfl ?_
                  refine ec_iconst cst_0 rfl ?_
                  refine ec_iconst cst_30 rfl ?_
                  refine en_aload rfl rfl ?_
                  refine ec_getI (ci := 10) (j := 41) ⟨rfl, rfl, rfl⟩ g1 rfl ?_
                  obtain ⟨⟨q471, C472⟩, e473, h⟩ := gb h
                  dsimp only at h
                  refine ec_callV1 (k' := 192) (n := 5) (rc := 10) (a := a0) (as := [.ref r469, .int (0 : Int32), .int (30 : Int32), .int (cI C463 a0 41)]) ⟨rfl, rfl⟩ rfl rfl (Nat.le_of_ble_eq_true rfl) (Nat.le_of_ble_eq_true rfl) (Nat.le_of_ble_eq_true rfl) g1 rfl (t_192 e473) ?_
                  refine ec_iconst cst_m1 rfl ?_
                  rcases gi h with ⟨c474, h⟩ | ⟨c474, h⟩
                  · refine en_icmp_ne_t c474 rfl ?_
                    refine ec_iconst cst_0 rfl ?_
                    refine ec_iconst cst_4 rfl ?_
                    obtain ⟨⟨q475, C476⟩, e477, h⟩ := gb h
                    dsimp only at h
                    refine ec_callV1 (k' := 170) (n := 3) (rc := 10) (a := a0) (as := [.int (0 : Int32), .int (4 : Int32)]) ⟨rfl, rfl⟩ rfl rfl (Nat.le_of_ble_eq_true rfl) (Nat.le_of_ble_eq_true rfl) (Nat.le_of_ble_eq_true rfl) g1 rfl (t_170 e477) ?_
                    refine en_pop rfl rfl ?_
                    cases h
                    exact en_vret rfl
                  · refine en_icmp_ne_f c474 rfl ?_
                    refine ec_iconst cst_1 rfl ?_
                    refine en_goto rfl ?_
                    refine ec_iconst cst_4 rfl ?_
                    obtain ⟨⟨q478, C479⟩, e480, h⟩ := gb h
                    dsimp only at h
                    refine ec_callV1 (k' := 170) (n := 3) (rc := 10) (a := a0) (as := [.int (1 : Int32), .int (4 : Int32)]) ⟨rfl, rfl⟩ rfl rfl (Nat.le_of_ble_eq_true rfl) (Nat.le_of_ble_eq_true rfl) (Nat.le_of_ble_eq_true rfl) g1 rfl (t_170 e480) ?_
                    refine en_pop rfl rfl ?_
                    cases h
                    exact en_vret rfl
              · refine en_if_eq_f c456 rfl ?_
                refine en_aload rfl rfl ?_
                obtain ⟨r481, e482, h⟩ := gb h
                refine ec_getP (ci := 10) (j := 23) ⟨rfl, rfl, rfl⟩ g1 e482 rfl ?_
                refine en_aload rfl rfl ?_
                refine ec_getI (ci := 10) (j := 41) ⟨rfl, rfl, rfl⟩ g1 rfl ?_
                refine en_dup2 ⟨rfl, rfl⟩ rfl ?_
                obtain ⟨g483, h⟩ := gd h
                obtain ⟨g484, h⟩ := gd h
                refine ec_iaload g483 g484 rfl ?_
                refine ec_iconst cst_1 rfl ?_
                refine en_aload rfl rfl ?_
                obtain ⟨r485, e486, h⟩ := gb h
                refine ec_getP (ci := 10) (j := 22) ⟨rfl, rfl, rfl⟩ g1 e486 rfl ?_
                refine en_aload rfl rfl ?_
                refine ec_getI (ci := 10) (j := 41) ⟨rfl, rfl, rfl⟩ g1 rfl ?_
                obtain ⟨g487, h⟩ := gd h
                obtain ⟨g488, h⟩ := gd h
                refine ec_iaload g487 g488 rfl ?_
                refine en_ishl rfl ?_
                refine en_ior rfl ?_
                obtain ⟨g489, h⟩ := gd h
                refine ec_iastore g483 g489 rfl ?_
                refine en_aload rfl rfl ?_
                obtain ⟨r490, e491, h⟩ := gb h
                refine ec_getP (ci := 10) (j := 22) ⟨rfl, rfl, rfl⟩ g1 e491 rfl ?_
                refine en_aload rfl rfl ?_
                refine ec_getI (ci := 10) (j := 41) ⟨rfl, rfl, rfl⟩ g1 rfl ?_
                refine en_dup2 ⟨rfl, rfl⟩ rfl ?_
                obtain ⟨g492, h⟩ := gd h
                obtain ⟨g493, h⟩ := gd h
                refine ec_iaload g492 g493 rfl ?_
                refine ec_iconst cst_1 rfl ?_
                refine en_iadd rfl ?_
                obtain ⟨g494, h⟩ := gd h
                refine ec_iastore g492 g494 rfl ?_
                refine en_aload rfl rfl ?_
                refine en_aload rfl rfl ?_
                refine ec_iconst cst_59 rfl ?_
                obtain ⟨⟨q495, C496⟩, e497, h⟩ := gb h
                dsimp only at h
                refine ec_callV1 (k' := 172) (n := 2) (rc := 10) (a := a0) (as := [.int (59 : Int32)]) ⟨rfl, rfl⟩ rfl rfl (Nat.le_of_ble_eq_true rfl) (Nat.le_of_ble_eq_true rfl) (Nat.le_of_ble_eq_true rfl) g1 rfl (t_172 e497) ?_
                rcases gi h with ⟨c498, h⟩ | ⟨c498, h⟩
                · refine en_if_eq_t c498 rfl ?_
                  refine ec_iconst cst_1 rfl ?_
                  refine en_goto rfl ?_
                  refine ec_iconst cst_4 rfl ?_
                  obtain ⟨⟨q499, C500⟩, e501, h⟩ := gb h
                  dsimp only at h
                  refine ec_callV1 (k' := 170) (n := 3) (rc := 10) (a := a0) (as := [.int (1 : Int32), .int (4 : Int32)]) ⟨rfl, rfl⟩ rfl rfl (Nat.le_of_ble_eq_true rfl) (Nat.le_of_ble_eq_true rfl) (Nat.le_of_ble_eq_true rfl) g1 rfl (t_170 e501) ?_
                  refine en_pop rfl rfl ?_
                  cases h
                  exact en_vret rfl
                · refine en_if_eq_f c498 rfl ?_
                  refine en_aload rfl rfl ?_
                  refine en_aload rfl rfl ?_
                  obtain ⟨r502, e503, h⟩ := gb h
                  refine ec_getP (ci := 10) (j := 52) ⟨rfl, rfl, rfl⟩ g1 e503 rfl ?_
                  refine ec_iconst cst_0 rfl ?_
                  refine ec_iconst cst_30 rfl ?_
                  refine en_aload rfl rfl ?_
                  refine ec_getI (ci := 10) (j := 41) ⟨rfl, rfl, rfl⟩ g1 rfl ?_
                  obtain ⟨⟨q504, C505⟩, e506, h⟩ := gb h
                  dsimp only at h
                  refine ec_callV1 (k' := 192) (n := 5) (rc := 10) (a := a0) (as := [.ref r502, .int (0 : Int32), .int (30 : Int32), .int (cI C496 a0 41)]) ⟨rfl, rfl⟩ rfl rfl (Nat.le_of_ble_eq_true rfl) (Nat.le_of_ble_eq_true rfl) (Nat.le_of_ble_eq_true rfl) g1 rfl (t_192 e506) ?_
                  refine ec_iconst cst_m1 rfl ?_
                  rcases gi h with ⟨c507, h⟩ | ⟨c507, h⟩
                  · refine en_icmp_ne_t c507 rfl ?_
                    refine ec_iconst cst_0 rfl ?_
                    refine ec_iconst cst_4 rfl ?_
                    obtain ⟨⟨q508, C509⟩, e510, h⟩ := gb h
                    dsimp only at h
                    refine ec_callV1 (k' := 170) (n := 3) (rc := 10) (a := a0) (as := [.int (0 : Int32), .int (4 : Int32)]) ⟨rfl, rfl⟩ rfl rfl (Nat.le_of_ble_eq_true rfl) (Nat.le_of_ble_eq_true rfl) (Nat.le_of_ble_eq_true rfl) g1 rfl (t_170 e510) ?_
                    refine en_pop rfl rfl ?_
                    cases h
                    exact en_vret rfl
                  · refine en_icmp_ne_f c507 rfl ?_
                    refine ec_iconst cst_1 rfl ?_
                    refine en_goto rfl ?_
                    refine ec_iconst cst_4 rfl ?_
                    obtain ⟨⟨q511, C512⟩, e513, h⟩ := gb h
                    dsimp only at h
                    refine ec_callV1 (k' := 170) (n := 3) (rc := 10) (a := a0) (as := [.int (1 : Int32), .int (4 : Int32)]) ⟨rfl, rfl⟩ rfl rfl (Nat.le_of_ble_eq_true rfl) (Nat.le_of_ble_eq_true rfl) (Nat.le_of_ble_eq_true rfl) g1 rfl (t_170 e513) ?_
                    refine en_pop rfl rfl ?_
                    cases h
                    exact en_vret rfl
            · refine en_if_eq_f c455 rfl ?_
              cases h
              exact en_vret rfl
          · refine en_icmp_eq_f c444 rfl ?_
            refine ec_iconst cst_1 rfl ?_
            refine en_goto rfl ?_
            refine ec_iconst cst_3 rfl ?_
            obtain ⟨⟨q514, C515⟩, e516, h⟩ := gb h
            dsimp only at h
            refine ec_callV1 (k' := 170) (n := 3) (rc := 10) (a := a0) (as := [.int (1 : Int32), .int (3 : Int32)]) ⟨rfl, rfl⟩ rfl rfl (Nat.le_of_ble_eq_true rfl) (Nat.le_of_ble_eq_true rfl) (Nat.le_of_ble_eq_true rfl) g1 rfl (t_170 e516) ?_
            refine en_pop rfl rfl ?_
            refine en_aload rfl rfl ?_
            obtain ⟨r517, e518, h⟩ := gb h
            refine ec_getP (ci := 10) (j := 30) ⟨rfl, rfl, rfl⟩ g1 e518 rfl ?_
            refine en_iload rfl rfl ?_
            refine en_aload rfl rfl ?_
            obtain ⟨⟨q519, C520⟩, e521, h⟩ := gb h
            dsimp only at h
            refine ec_callV1 (k' := 176) (n := 1) (rc := 10) (a := a0) (as := []) ⟨rfl, rfl⟩ rfl rfl (Nat.le_of_ble_eq_true rfl) (Nat.le_of_ble_eq_true rfl) (Nat.le_of_ble_eq_true rfl) g1 rfl (t_176 e521) ?_
            obtain ⟨g522, h⟩ := gd h
            obtain ⟨g523, h⟩ := gd h
            refine ec_iastore g522 g523 rfl ?_
            refine en_aload rfl rfl ?_
            refine ec_getI (ci := 10) (j := 51) ⟨rfl, rfl, rfl⟩ g1 rfl ?_
            rcases gi h with ⟨c524, h⟩ | ⟨c524, h⟩
            · refine en_if_eq_t c524 rfl ?_
              refine en_iload rfl rfl ?_
              rcases gi h with ⟨c525, h⟩ | ⟨c525, h⟩
              · refine en_if_eq_t c525 rfl ?_
                refine en_aload rfl rfl ?_
                obtain ⟨r526, e527, h⟩ := gb h
                refine ec_getP (ci := 10) (j := 22) ⟨rfl, rfl, rfl⟩ g1 e527 rfl ?_
                refine en_aload rfl rfl ?_
                refine ec_getI (ci := 10) (j := 41) ⟨rfl, rfl, rfl⟩ g1 rfl ?_
                refine en_dup2 ⟨rfl, rfl⟩ rfl ?_
                obtain ⟨g528, h⟩ := gd h
                obtain ⟨g529, h⟩ := gd h
                refine ec_iaload g528 g529 rfl ?_
                refine ec_iconst cst_1 rfl ?_
                refine en_iadd rfl ?_
                obtain ⟨g530, h⟩ := gd h
                refine ec_iastore g528 g530 rfl ?_
                refine en_aload rfl rfl ?_
                refine en_aload rfl rfl ?_
                refine ec_iconst cst_59 rfl ?_
                obtain ⟨⟨q531, C532⟩, e533, h⟩ := gb h
                dsimp only at h
                refine ec_callV1 (k' := 172) (n := 2) (rc := 10) (a := a0) (as := [.int (59 : Int32)]) ⟨rfl, rfl⟩ rfl rfl (Nat.le_of_ble_eq_true rfl) (Nat.le_of_ble_eq_true rfl) (Nat.le_of_ble_eq_true rfl) g1 rfl (t_172 e533) ?_
                rcases gi h with ⟨c534, h⟩ | ⟨c534, h⟩
                · refine en_if_eq_t c534 rfl ?_
                  refine ec_iconst cst_1 rfl ?_
                  refine en_goto rfl ?_
                  refine ec_iconst cst_4 rfl ?_
                  obtain ⟨⟨q535, C536⟩, e537, h⟩ := gb h
                  dsimp only at h
                  refine ec_callV1 (k' := 170) (n := 3) (rc := 10) (a := a0) (as := [.int (1 : Int32), .int (4 : Int32)]) ⟨rfl, rfl⟩ rfl rfl (Nat.le_of_ble_eq_true rfl) (Nat.le_of_ble_eq_true rfl) (Nat.le_of_ble_eq_true rfl) g1 rfl (t_170 e537) ?_
                  refine en_pop rfl rfl ?_
                  cases h
                  exact en_vret rfl
                · refine en_if_eq_f c534 rfl ?_
                  refine en_aload rfl rfl ?_
                  refine en_aload rfl rfl ?_
                  obtain ⟨r538, e539, h⟩ := gb h
                  refine ec_getP (ci := 10) (j := 52) ⟨rfl, rfl, rfl⟩ g1 e539 rfl ?_
                  refine ec_iconst cst_0 rfl ?_
                  refine ec_iconst cst_30 rfl ?_
                  refine en_aload rfl rfl ?_
                  refine ec_getI (ci := 10) (j := 41) ⟨rfl, rfl, rfl⟩ g1 rfl ?_
                  obtain ⟨⟨q540, C541⟩, e542, h⟩ := gb h
                  dsimp only at h
                  refine ec_callV1 (k' := 192) (n := 5) (rc := 10) (a := a0) (as := [.ref r538, .int (0 : Int32), .int (30 : Int32), .int (cI C532 a0 41)]) ⟨rfl, rfl⟩ rfl rfl (Nat.le_of_ble_eq_true rfl) (Nat.le_of_ble_eq_true rfl) (Nat.le_of_ble_eq_true rfl) g1 rfl (t_192 e542) ?_
                  refine ec_iconst cst_m1 rfl ?_
                  rcases gi h with ⟨c543, h⟩ | ⟨c543, h⟩
                  · refine en_icmp_ne_t c543 rfl ?_
                    refine ec_iconst cst_0 rfl ?_
                    refine ec_iconst cst_4 rfl ?_
                    obtain ⟨⟨q544, C545⟩, e546, h⟩ := gb h
                    dsimp only at h
                    refine ec_callV1 (k' := 170) (n := 3) (rc := 10) (a := a0) (as := [.int (0 : Int32), .int (4 : Int32)]) ⟨rfl, rfl⟩ rfl rfl (Nat.le_of_ble_eq_true rfl) (Nat.le_of_ble_eq_true rfl) (Nat.le_of_ble_eq_true rfl) g1 rfl (t_170 e546) ?_
                    refine en_pop rfl rfl ?_
                    cases h
                    exact en_vret rfl
                  · refine en_icmp_ne_f c543 rfl ?_
                    refine ec_iconst cst_1 rfl ?_
                    refine en_goto rfl ?_
                    refine ec_iconst cst_4 rfl ?_
                    obtain ⟨⟨q547, C548⟩, e549, h⟩ := gb h
                    dsimp only at h
                    refine ec_callV1 (k' := 170) (n := 3) (rc := 10) (a := a0) (as := [.int (1 : Int32), .int (4 : Int32)]) ⟨rfl, rfl⟩ rfl rfl (Nat.le_of_ble_eq_true rfl) (Nat.le_of_ble_eq_true rfl) (Nat.le_of_ble_eq_true rfl) g1 rfl (t_170 e549) ?_
                    refine en_pop rfl rfl ?_
                    cases h
                    exact en_vret rfl
              · refine en_if_eq_f c525 rfl ?_
                refine en_aload rfl rfl ?_
                obtain ⟨r550, e551, h⟩ := gb h
                refine ec_getP (ci := 10) (j := 23) ⟨rfl, rfl, rfl⟩ g1 e551 rfl ?_
                refine en_aload rfl rfl ?_
                refine ec_getI (ci := 10) (j := 41) ⟨rfl, rfl, rfl⟩ g1 rfl ?_
                refine en_dup2 ⟨rfl, rfl⟩ rfl ?_
                obtain ⟨g552, h⟩ := gd h
                obtain ⟨g553, h⟩ := gd h
                refine ec_iaload g552 g553 rfl ?_
                refine ec_iconst cst_1 rfl ?_
                refine en_aload rfl rfl ?_
                obtain ⟨r554, e555, h⟩ := gb h
                refine ec_getP (ci := 10) (j := 22) ⟨rfl, rfl, rfl⟩ g1 e555 rfl ?_
                refine en_aload rfl rfl ?_
                refine ec_getI (ci := 10) (j := 41) ⟨rfl, rfl, rfl⟩ g1 rfl ?_
                obtain ⟨g556, h⟩ := gd h
                obtain ⟨g557, h⟩ := gd h
                refine ec_iaload g556 g557 rfl ?_
                refine en_ishl rfl ?_
                refine en_ior rfl ?_
                obtain ⟨g558, h⟩ := gd h
                refine ec_iastore g552 g558 rfl ?_
                refine en_aload rfl rfl ?_
                obtain ⟨r559, e560, h⟩ := gb h
                refine ec_getP (ci := 10) (j := 22) ⟨rfl, rfl, rfl⟩ g1 e560 rfl ?_
                refine en_aload rfl rfl ?_
                refine ec_getI (ci := 10) (j := 41) ⟨rfl, rfl, rfl⟩ g1 rfl ?_
                refine en_dup2 ⟨rfl, rfl⟩ rfl ?_
                obtain ⟨g561, h⟩ := gd h
                obtain ⟨g562, h⟩ := gd h
                refine ec_iaload g561 g562 rfl ?_
                refine ec_iconst cst_1 rfl ?_
                refine en_iadd rfl ?_
                obtain ⟨g563, h⟩ := gd h
                refine ec_iastore g561 g563 rfl ?_
                refine en_aload rfl rfl ?_
                refine en_aload rfl rfl ?_
                refine ec_iconst cst_59 rfl ?_
                obtain ⟨⟨q564, C565⟩, e566, h⟩ := gb h
                dsimp only at h
                refine ec_callV1 (k' := 172) (n := 2) (rc := 10) (a := a0) (as := [.int (59 : Int32)]) ⟨rfl, rfl⟩ rfl rfl (Nat.le_of_ble_eq_true rfl) (Nat.le_of_ble_eq_true rfl) (Nat.le_of_ble_eq_true rfl) g1 rfl (t_172 e566) ?_
                rcases gi h with ⟨c567, h⟩ | ⟨c567, h⟩
                · refine en_if_eq_t c567 rfl ?_
                  refine ec_iconst cst_1 rfl ?_
                  refine en_goto rfl ?_
                  refine ec_iconst cst_4 rfl ?_
                  obtain ⟨⟨q568, C569⟩, e570, h⟩ := gb h
                  dsimp only at h
                  refine ec_callV1 (k' := 170) (n := 3) (rc := 10) (a := a0) (as := [.int (1 : Int32), .int (4 : Int32)]) ⟨rfl, rfl⟩ rfl rfl (Nat.le_of_ble_eq_true rfl) (Nat.le_of_ble_eq_true rfl) (Nat.le_of_ble_eq_true rfl) g1 rfl (t_170 e570) ?_
                  refine en_pop rfl rfl ?_
                  cases h
                  exact en_vret rfl
                · refine en_if_eq_f c567 rfl ?_
                  refine en_aload rfl rfl ?_
                  refine en_aload rfl rfl ?_
                  obtain ⟨r571, e572, h⟩ := gb h
                  refine ec_getP (ci := 10) (j := 52) ⟨rfl, rfl, rfl⟩ g1 e572 rfl ?_
                  refine ec_iconst cst_0 rfl ?_
                  refine ec_iconst cst_30 rfl ?_
                  refine en_aload rfl rfl ?_
                  refine ec_getI (ci := 10) (j := 41) ⟨rfl, rfl, rfl⟩ g1 rfl ?_
                  obtain ⟨⟨q573, C574⟩, e575, h⟩ := gb h
                  dsimp only at h
                  refine ec_callV1 (k' := 192) (n := 5) (rc := 10) (a := a0) (as := [.ref r571, .int (0 : Int32), .int (30 : Int32), .int (cI C565 a0 41)]) ⟨rfl, rfl⟩ rfl rfl (Nat.le_of_ble_eq_true rfl) (Nat.le_of_ble_eq_true rfl) (Nat.le_of_ble_eq_true rfl) g1 rfl (t_192 e575) ?_
                  refine ec_iconst cst_m1 rfl ?_
                  rcases gi h with ⟨c576, h⟩ | ⟨c576, h⟩
                  · refine en_icmp_ne_t c576 rfl ?_
                    refine ec_iconst cst_0 rfl ?_
                    refine ec_iconst cst_4 rfl ?_
                    obtain ⟨⟨q577, C578⟩, e579, h⟩ := gb h
                    dsimp only at h
                    refine ec_callV1 (k' := 170) (n := 3) (rc := 10) (a := a0) (as := [.int (0 : Int32), .int (4 : Int32)]) ⟨rfl, rfl⟩ rfl rfl (Nat.le_of_ble_eq_true rfl) (Nat.le_of_ble_eq_true rfl) (Nat.le_of_ble_eq_true rfl) g1 rfl (t_170 e579) ?_
                    refine en_pop rfl rfl ?_
                    cases h
                    exact en_vret rfl
                  · refine en_icmp_ne_f c576 rfl ?_
                    refine ec_iconst cst_1 rfl ?_
                    refine en_goto rfl ?_
                    refine ec_iconst cst_4 rfl ?_
                    obtain ⟨⟨q580, C581⟩, e582, h⟩ := gb h
                    dsimp only at h
                    refine ec_callV1 (k' := 170) (n := 3) (rc := 10) (a := a0) (as := [.int (1 : Int32), .int (4 : Int32)]) ⟨rfl, rfl⟩ rfl rfl (Nat.le_of_ble_eq_true rfl) (Nat.le_of_ble_eq_true rfl) (Nat.le_of_ble_eq_true rfl) g1 rfl (t_170 e582) ?_
                    refine en_pop rfl rfl ?_
                    cases h
                    exact en_vret rfl
            · refine en_if_eq_f c524 rfl ?_
              cases h
              exact en_vret rfl
    · refine en_if_ne_f c298 rfl ?_
      cases h
      exact en_vret rfl
