/-- BulkWriterModel.clause()V -/
def f_187 (n : Nat) (a0 : Nat) (C : AmC) : Option (Unit × AmC) := if isK a0 10 = true then (if ¬ (cI C a0 48) = (1 : Int32) then (if (-1 : Int32) = (0 : Int32) then (if ¬ (cI C a0 54) = 0 then (f_170 n a0 (0 : Int32) (4 : Int32) C).bind (fun z => match z with | (q13, C14) => (if ¬ q13 = 0 then (f_169 n a0 C14).bind (fun z => match z with | (_, C18) => (if ¬ (cI C18 a0 48) = (2 : Int32) then (f_170 n a0 (0 : Int32) (1 : Int32) C18).bind (fun z => match z with | (q21, C22) => (if q21 = 0 then some ((), C22) else (f_163 n (cI C22 a0 49) (1 : Int32) (4 : Int32) C22).bind (fun z => match z with | (q25, C26) => (f_170 n a0 q25 (2 : Int32) C26).bind (fun z => match z with | (q28, C29) => (if ¬ q28 = 0 then (cP C29 a0 21).bind (fun r32 => if isK r32 12 = true then if amIn (cI C29 a0 41) (aLen r32) = true then (f_169 n a0 (uI C29 r32 (Int32.toNatClampNeg (cI C29 a0 41)) (cI C29 a0 49))).bind (fun z => match z with | (_, C37) => some ((), C37)) else none else none) else some ((), C29)))))) else (f_170 n a0 (1 : Int32) (1 : Int32) C18).bind (fun z => match z with | (q39, C40) => (if q39 = 0 then some ((), C40) else (f_163 n (cI C40 a0 49) (1 : Int32) (4 : Int32) C40).bind (fun z => match z with | (q43, C44) => (f_170 n a0 q43 (2 : Int32) C44).bind (fun z => match z with | (q46, C47) => (if ¬ q46 = 0 then (cP C47 a0 21).bind (fun r50 => if isK r50 12 = true then if amIn (cI C47 a0 41) (aLen r50) = true then (f_169 n a0 (uI C47 r50 (Int32.toNatClampNeg (cI C47 a0 41)) (cI C47 a0 49))).bind (fun z => match z with | (_, C55) => some ((), C55)) else none else none) else some ((), C47)))))))) else some ((), C14))) else (f_170 n a0 (1 : Int32) (4 : Int32) C).bind (fun z => match z with | (q57, C58) => (if ¬ q57 = 0 then (f_169 n a0 C58).bind (fun z => match z with | (_, C62) => (if ¬ (cI C62 a0 48) = (2 : Int32) then (f_170 n a0 (0 : Int32) (1 : Int32) C62).bind (fun z => match z with | (q65, C66) => (if q65 = 0 then some ((), C66) else (f_163 n (cI C66 a0 49) (1 : Int32) (4 : Int32) C66).bind (fun z => match z with | (q69, C70) => (f_170 n a0 q69 (2 : Int32) C70).bind (fun z => match z with | (q72, C73) => (if ¬ q72 = 0 then (cP C73 a0 21).bind (fun r76 => if isK r76 12 = true then if amIn (cI C73 a0 41) (aLen r76) = true then (f_169 n a0 (uI C73 r76 (Int32.toNatClampNeg (cI C73 a0 41)) (cI C73 a0 49))).bind (fun z => match z with | (_, C81) => some ((), C81)) else none else none) else some ((), C73)))))) else (f_170 n a0 (1 : Int32) (1 : Int32) C62).bind (fun z => match z with | (q83, C84) => (if q83 = 0 then some ((), C84) else (f_163 n (cI C84 a0 49) (1 : Int32) (4 : Int32) C84).bind (fun z => match z with | (q87, C88) => (f_170 n a0 q87 (2 : Int32) C88).bind (fun z => match z with | (q90, C91) => (if ¬ q90 = 0 then (cP C91 a0 21).bind (fun r94 => if isK r94 12 = true then if amIn (cI C91 a0 41) (aLen r94) = true then (f_169 n a0 (uI C91 r94 (Int32.toNatClampNeg (cI C91 a0 41)) (cI C91 a0 49))).bind (fun z => match z with | (_, C99) => some ((), C99)) else none else none) else some ((), C91)))))))) else some ((), C58)))) else if (-1 : Int32) = (1 : Int32) then (if (30 : Int32) ≤ (cI C a0 53) then (f_170 n a0 (0 : Int32) (2 : Int32) C).bind (fun z => match z with | (q102, C103) => (if ¬ q102 = 0 then (f_169 n a0 C103).bind (fun z => match z with | (_, C107) => (cP C107 a0 52).bind (fun r109 => (f_185 n a0 r109 ((30 : Int32) + ((4 : Int32) * (cI C107 a0 53))) C107).bind (fun z => match z with | (_, C112) => (if (cI C112 a0 51) = 0 then (cP C112 a0 52).bind (fun r115 => if isK r115 12 = true then if amIn (cI C112 a0 53) (aLen r115) = true then (f_172 n a0 (59 : Int32) (uI (uI C112 r115 (Int32.toNatClampNeg (cI C112 a0 53)) (1 : Int32)) a0 53 ((cI (uI C112 r115 (Int32.toNatClampNeg (cI C112 a0 53)) (1 : Int32)) a0 53) + (1 : Int32)))).bind (fun z => match z with | (q119, C120) => (if q119 = 0 then (f_170 n a0 (1 : Int32) (4 : Int32) C120).bind (fun z => match z with | (q123, C124) => some ((), C124)) else (cP C120 a0 52).bind (fun r126 => (f_192 n a0 r126 (0 : Int32) (30 : Int32) (cI C120 a0 41) C120).bind (fun z => match z with | (q128, C129) => (if ¬ q128 = (-1 : Int32) then (f_170 n a0 (0 : Int32) (4 : Int32) C129).bind (fun z => match z with | (q132, C133) => some ((), C133)) else (f_170 n a0 (1 : Int32) (4 : Int32) C129).bind (fun z => match z with | (q135, C136) => some ((), C136))))))) else none else none) else some ((), C112))))) else some ((), C103))) else (f_170 n a0 (1 : Int32) (2 : Int32) C).bind (fun z => match z with | (q138, C139) => (if ¬ q138 = 0 then (f_169 n a0 C139).bind (fun z => match z with | (_, C143) => (cP C143 a0 52).bind (fun r145 => (f_185 n a0 r145 ((30 : Int32) + ((4 : Int32) * (cI C143 a0 53))) C143).bind (fun z => match z with | (_, C148) => (if (cI C148 a0 51) = 0 then (cP C148 a0 52).bind (fun r151 => if isK r151 12 = true then if amIn (cI C148 a0 53) (aLen r151) = true then (f_172 n a0 (59 : Int32) (uI (uI C148 r151 (Int32.toNatClampNeg (cI C148 a0 53)) (1 : Int32)) a0 53 ((cI (uI C148 r151 (Int32.toNatClampNeg (cI C148 a0 53)) (1 : Int32)) a0 53) + (1 : Int32)))).bind (fun z => match z with | (q155, C156) => (if q155 = 0 then (f_170 n a0 (1 : Int32) (4 : Int32) C156).bind (fun z => match z with | (q159, C160) => some ((), C160)) else (cP C156 a0 52).bind (fun r162 => (f_192 n a0 r162 (0 : Int32) (30 : Int32) (cI C156 a0 41) C156).bind (fun z => match z with | (q164, C165) => (if ¬ q164 = (-1 : Int32) then (f_170 n a0 (0 : Int32) (4 : Int32) C165).bind (fun z => match z with | (q168, C169) => some ((), C169)) else (f_170 n a0 (1 : Int32) (4 : Int32) C165).bind (fun z => match z with | (q171, C172) => some ((), C172))))))) else none else none) else some ((), C148))))) else some ((), C139)))) else if (-1 : Int32) = (2 : Int32) then (cP C a0 24).bind (fun r174 => if isK r174 12 = true then if amIn (cI C a0 41) (aLen r174) = true then (if (10 : Int32) ≤ (cI C r174 (Int32.toNatClampNeg (cI C a0 41))) then (f_170 n a0 (0 : Int32) (2 : Int32) C).bind (fun z => match z with | (q179, C180) => (if ¬ q179 = 0 then (f_169 n a0 C180).bind (fun z => match z with | (_, C184) => (cP C184 a0 31).bind (fun r186 => (cP C184 a0 24).bind (fun r188 => if isK r188 12 = true then if amIn (cI C184 a0 41) (aLen r188) = true then (f_185 n a0 r186 ((4 : Int32) * (((10 : Int32) * (cI C184 a0 41)) + (cI C184 r188 (Int32.toNatClampNeg (cI C184 a0 41))))) C184).bind (fun z => match z with | (_, C193) => (cP C193 a0 24).bind (fun r195 => if isK r195 12 = true then if amIn (cI C193 a0 41) (aLen r195) = true then if amIn (cI C193 a0 41) (aLen r195) = true then some ((), uI C193 r195 (Int32.toNatClampNeg (cI C193 a0 41)) ((cI C193 r195 (Int32.toNatClampNeg (cI C193 a0 41))) + (1 : Int32))) else none else none else none)) else none else none))) else some ((), C180))) else (f_170 n a0 (1 : Int32) (2 : Int32) C).bind (fun z => match z with | (q200, C201) => (if ¬ q200 = 0 then (f_169 n a0 C201).bind (fun z => match z with | (_, C205) => (cP C205 a0 31).bind (fun r207 => (cP C205 a0 24).bind (fun r209 => if isK r209 12 = true then if amIn (cI C205 a0 41) (aLen r209) = true then (f_185 n a0 r207 ((4 : Int32) * (((10 : Int32) * (cI C205 a0 41)) + (cI C205 r209 (Int32.toNatClampNeg (cI C205 a0 41))))) C205).bind (fun z => match z with | (_, C214) => (cP C214 a0 24).bind (fun r216 => if isK r216 12 = true then if amIn (cI C214 a0 41) (aLen r216) = true then if amIn (cI C214 a0 41) (aLen r216) = true then some ((), uI C214 r216 (Int32.toNatClampNeg (cI C214 a0 41)) ((cI C214 r216 (Int32.toNatClampNeg (cI C214 a0 41))) + (1 : Int32))) else none else none else none)) else none else none))) else some ((), C201)))) else none else none) else if (-1 : Int32) = (3 : Int32) then (if ¬ (cI C a0 50) = (3 : Int32) then (f_186 n a0 (0 : Int32) C).bind (fun z => match z with | (_, C223) => some ((), C223)) else (f_186 n a0 (1 : Int32) C).bind (fun z => match z with | (_, C226) => some ((), C226))) else if (-1 : Int32) = (4 : Int32) then (if ¬ (cI C a0 50) = (3 : Int32) then (f_186 n a0 (0 : Int32) C).bind (fun z => match z with | (_, C230) => some ((), C230)) else (f_186 n a0 (1 : Int32) C).bind (fun z => match z with | (_, C233) => some ((), C233))) else if (-1 : Int32) = (5 : Int32) then (f_183 n a0 C).bind (fun z => match z with | (_, C236) => some ((), C236)) else if (-1 : Int32) = (6 : Int32) then (f_183 n a0 C).bind (fun z => match z with | (_, C239) => some ((), C239)) else if (-1 : Int32) = (7 : Int32) then (f_183 n a0 C).bind (fun z => match z with | (_, C242) => some ((), C242)) else if (-1 : Int32) = (8 : Int32) then (f_183 n a0 C).bind (fun z => match z with | (_, C245) => some ((), C245)) else (f_170 n a0 (0 : Int32) (1 : Int32) C).bind (fun z => match z with | (q247, C248) => some ((), C248))) else (if (cI C a0 50) = (0 : Int32) then (if ¬ (cI C a0 54) = 0 then (f_170 n a0 (0 : Int32) (4 : Int32) C).bind (fun z => match z with | (q260, C261) => (if ¬ q260 = 0 then (f_169 n a0 C261).bind (fun z => match z with | (_, C265) => (if ¬ (cI C265 a0 48) = (2 : Int32) then (f_170 n a0 (0 : Int32) (1 : Int32) C265).bind (fun z => match z with | (q268, C269) => (if q268 = 0 then some ((), C269) else (f_163 n (cI C269 a0 49) (1 : Int32) (4 : Int32) C269).bind (fun z => match z with | (q272, C273) => (f_170 n a0 q272 (2 : Int32) C273).bind (fun z => match z with | (q275, C276) => (if ¬ q275 = 0 then (cP C276 a0 21).bind (fun r279 => if isK r279 12 = true then if amIn (cI C276 a0 41) (aLen r279) = true then (f_169 n a0 (uI C276 r279 (Int32.toNatClampNeg (cI C276 a0 41)) (cI C276 a0 49))).bind (fun z => match z with | (_, C284) => some ((), C284)) else none else none) else some ((), C276)))))) else (f_170 n a0 (1 : Int32) (1 : Int32) C265).bind (fun z => match z with | (q286, C287) => (if q286 = 0 then some ((), C287) else (f_163 n (cI C287 a0 49) (1 : Int32) (4 : Int32) C287).bind (fun z => match z with | (q290, C291) => (f_170 n a0 q290 (2 : Int32) C291).bind (fun z => match z with | (q293, C294) => (if ¬ q293 = 0 then (cP C294 a0 21).bind (fun r297 => if isK r297 12 = true then if amIn (cI C294 a0 41) (aLen r297) = true then (f_169 n a0 (uI C294 r297 (Int32.toNatClampNeg (cI C294 a0 41)) (cI C294 a0 49))).bind (fun z => match z with | (_, C302) => some ((), C302)) else none else none) else some ((), C294)))))))) else some ((), C261))) else (f_170 n a0 (1 : Int32) (4 : Int32) C).bind (fun z => match z with | (q304, C305) => (if ¬ q304 = 0 then (f_169 n a0 C305).bind (fun z => match z with | (_, C309) => (if ¬ (cI C309 a0 48) = (2 : Int32) then (f_170 n a0 (0 : Int32) (1 : Int32) C309).bind (fun z => match z with | (q312, C313) => (if q312 = 0 then some ((), C313) else (f_163 n (cI C313 a0 49) (1 : Int32) (4 : Int32) C313).bind (fun z => match z with | (q316, C317) => (f_170 n a0 q316 (2 : Int32) C317).bind (fun z => match z with | (q319, C320) => (if ¬ q319 = 0 then (cP C320 a0 21).bind (fun r323 => if isK r323 12 = true then if amIn (cI C320 a0 41) (aLen r323) = true then (f_169 n a0 (uI C320 r323 (Int32.toNatClampNeg (cI C320 a0 41)) (cI C320 a0 49))).bind (fun z => match z with | (_, C328) => some ((), C328)) else none else none) else some ((), C320)))))) else (f_170 n a0 (1 : Int32) (1 : Int32) C309).bind (fun z => match z with | (q330, C331) => (if q330 = 0 then some ((), C331) else (f_163 n (cI C331 a0 49) (1 : Int32) (4 : Int32) C331).bind (fun z => match z with | (q334, C335) => (f_170 n a0 q334 (2 : Int32) C335).bind (fun z => match z with | (q337, C338) => (if ¬ q337 = 0 then (cP C338 a0 21).bind (fun r341 => if isK r341 12 = true then if amIn (cI C338 a0 41) (aLen r341) = true then (f_169 n a0 (uI C338 r341 (Int32.toNatClampNeg (cI C338 a0 41)) (cI C338 a0 49))).bind (fun z => match z with | (_, C346) => some ((), C346)) else none else none) else some ((), C338)))))))) else some ((), C305)))) else if (cI C a0 50) = (1 : Int32) then (if (30 : Int32) ≤ (cI C a0 53) then (f_170 n a0 (0 : Int32) (2 : Int32) C).bind (fun z => match z with | (q349, C350) => (if ¬ q349 = 0 then (f_169 n a0 C350).bind (fun z => match z with | (_, C354) => (cP C354 a0 52).bind (fun r356 => (f_185 n a0 r356 ((30 : Int32) + ((4 : Int32) * (cI C354 a0 53))) C354).bind (fun z => match z with | (_, C359) => (if (cI C359 a0 51) = 0 then (cP C359 a0 52).bind (fun r362 => if isK r362 12 = true then if amIn (cI C359 a0 53) (aLen r362) = true then (f_172 n a0 (59 : Int32) (uI (uI C359 r362 (Int32.toNatClampNeg (cI C359 a0 53)) (1 : Int32)) a0 53 ((cI (uI C359 r362 (Int32.toNatClampNeg (cI C359 a0 53)) (1 : Int32)) a0 53) + (1 : Int32)))).bind (fun z => match z with | (q366, C367) => (if q366 = 0 then (f_170 n a0 (1 : Int32) (4 : Int32) C367).bind (fun z => match z with | (q370, C371) => some ((), C371)) else (cP C367 a0 52).bind (fun r373 => (f_192 n a0 r373 (0 : Int32) (30 : Int32) (cI C367 a0 41) C367).bind (fun z => match z with | (q375, C376) => (if ¬ q375 = (-1 : Int32) then (f_170 n a0 (0 : Int32) (4 : Int32) C376).bind (fun z => match z with | (q379, C380) => some ((), C380)) else (f_170 n a0 (1 : Int32) (4 : Int32) C376).bind (fun z => match z with | (q382, C383) => some ((), C383))))))) else none else none) else some ((), C359))))) else some ((), C350))) else (f_170 n a0 (1 : Int32) (2 : Int32) C).bind (fun z => match z with | (q385, C386) => (if ¬ q385 = 0 then (f_169 n a0 C386).bind (fun z => match z with | (_, C390) => (cP C390 a0 52).bind (fun r392 => (f_185 n a0 r392 ((30 : Int32) + ((4 : Int32) * (cI C390 a0 53))) C390).bind (fun z => match z with | (_, C395) => (if (cI C395 a0 51) = 0 then (cP C395 a0 52).bind (fun r398 => if isK r398 12 = true then if amIn (cI C395 a0 53) (aLen r398) = true then (f_172 n a0 (59 : Int32) (uI (uI C395 r398 (Int32.toNatClampNeg (cI C395 a0 53)) (1 : Int32)) a0 53 ((cI (uI C395 r398 (Int32.toNatClampNeg (cI C395 a0 53)) (1 : Int32)) a0 53) + (1 : Int32)))).bind (fun z => match z with | (q402, C403) => (if q402 = 0 then (f_170 n a0 (1 : Int32) (4 : Int32) C403).bind (fun z => match z with | (q406, C407) => some ((), C407)) else (cP C403 a0 52).bind (fun r409 => (f_192 n a0 r409 (0 : Int32) (30 : Int32) (cI C403 a0 41) C403).bind (fun z => match z with | (q411, C412) => (if ¬ q411 = (-1 : Int32) then (f_170 n a0 (0 : Int32) (4 : Int32) C412).bind (fun z => match z with | (q415, C416) => some ((), C416)) else (f_170 n a0 (1 : Int32) (4 : Int32) C412).bind (fun z => match z with | (q418, C419) => some ((), C419))))))) else none else none) else some ((), C395))))) else some ((), C386)))) else if (cI C a0 50) = (2 : Int32) then (cP C a0 24).bind (fun r421 => if isK r421 12 = true then if amIn (cI C a0 41) (aLen r421) = true then (if (10 : Int32) ≤ (cI C r421 (Int32.toNatClampNeg (cI C a0 41))) then (f_170 n a0 (0 : Int32) (2 : Int32) C).bind (fun z => match z with | (q426, C427) => (if ¬ q426 = 0 then (f_169 n a0 C427).bind (fun z => match z with | (_, C431) => (cP C431 a0 31).bind (fun r433 => (cP C431 a0 24).bind (fun r435 => if isK r435 12 = true then if amIn (cI C431 a0 41) (aLen r435) = true then (f_185 n a0 r433 ((4 : Int32) * (((10 : Int32) * (cI C431 a0 41)) + (cI C431 r435 (Int32.toNatClampNeg (cI C431 a0 41))))) C431).bind (fun z => match z with | (_, C440) => (cP C440 a0 24).bind (fun r442 => if isK r442 12 = true then if amIn (cI C440 a0 41) (aLen r442) = true then if amIn (cI C440 a0 41) (aLen r442) = true then some ((), uI C440 r442 (Int32.toNatClampNeg (cI C440 a0 41)) ((cI C440 r442 (Int32.toNatClampNeg (cI C440 a0 41))) + (1 : Int32))) else none else none else none)) else none else none))) else some ((), C427))) else (f_170 n a0 (1 : Int32) (2 : Int32) C).bind (fun z => match z with | (q447, C448) => (if ¬ q447 = 0 then (f_169 n a0 C448).bind (fun z => match z with | (_, C452) => (cP C452 a0 31).bind (fun r454 => (cP C452 a0 24).bind (fun r456 => if isK r456 12 = true then if amIn (cI C452 a0 41) (aLen r456) = true then (f_185 n a0 r454 ((4 : Int32) * (((10 : Int32) * (cI C452 a0 41)) + (cI C452 r456 (Int32.toNatClampNeg (cI C452 a0 41))))) C452).bind (fun z => match z with | (_, C461) => (cP C461 a0 24).bind (fun r463 => if isK r463 12 = true then if amIn (cI C461 a0 41) (aLen r463) = true then if amIn (cI C461 a0 41) (aLen r463) = true then some ((), uI C461 r463 (Int32.toNatClampNeg (cI C461 a0 41)) ((cI C461 r463 (Int32.toNatClampNeg (cI C461 a0 41))) + (1 : Int32))) else none else none else none)) else none else none))) else some ((), C448)))) else none else none) else if (cI C a0 50) = (3 : Int32) then (if ¬ (cI C a0 50) = (3 : Int32) then (f_186 n a0 (0 : Int32) C).bind (fun z => match z with | (_, C470) => some ((), C470)) else (f_186 n a0 (1 : Int32) C).bind (fun z => match z with | (_, C473) => some ((), C473))) else if (cI C a0 50) = (4 : Int32) then (if ¬ (cI C a0 50) = (3 : Int32) then (f_186 n a0 (0 : Int32) C).bind (fun z => match z with | (_, C477) => some ((), C477)) else (f_186 n a0 (1 : Int32) C).bind (fun z => match z with | (_, C480) => some ((), C480))) else if (cI C a0 50) = (5 : Int32) then (f_183 n a0 C).bind (fun z => match z with | (_, C483) => some ((), C483)) else if (cI C a0 50) = (6 : Int32) then (f_183 n a0 C).bind (fun z => match z with | (_, C486) => some ((), C486)) else if (cI C a0 50) = (7 : Int32) then (f_183 n a0 C).bind (fun z => match z with | (_, C489) => some ((), C489)) else if (cI C a0 50) = (8 : Int32) then (f_183 n a0 C).bind (fun z => match z with | (_, C492) => some ((), C492)) else (f_170 n a0 (0 : Int32) (1 : Int32) C).bind (fun z => match z with | (q494, C495) => some ((), C495)))) else none
set_option maxRecDepth 20000 in
set_option maxHeartbeats 4000000 in
theorem t_187 {n : Nat} {a0 : Nat} {C : AmC} {r : Unit} {C' : AmC} (h : f_187 n a0 C = some (r, C')) : En false 187 0 [(0, .ref a0)] [] (mkM C) (.inl none) (mkM C') := by
  unfold f_187 at h
  refine en_aload rfl rfl ?_
  obtain ⟨g1, h⟩ := gd h
  refine ec_getI (ci := 10) (j := 48) ⟨rfl, rfl, rfl⟩ g1 rfl ?_
  refine ec_iconst cst_1 rfl ?_
  rcases gi h with ⟨c2, h⟩ | ⟨c2, h⟩
  · refine en_icmp_ne_t c2 rfl ?_
    refine ec_iconst cst_m1 rfl ?_
    rcases gi h with ⟨c3, h⟩ | ⟨c3, h⟩
    · refine en_tab_i (t := 9) (by rw [c3]; decide) (by rw [c3]; rfl) rfl ?_
      refine en_aload rfl rfl ?_
      refine en_aload rfl rfl ?_
      refine ec_getI (ci := 10) (j := 54) ⟨rfl, rfl, rfl⟩ g1 rfl ?_
      rcases gi h with ⟨c12, h⟩ | ⟨c12, h⟩
      · refine en_if_ne_t c12 rfl ?_
        refine ec_iconst cst_0 rfl ?_
        refine ec_iconst cst_4 rfl ?_
        obtain ⟨⟨q13, C14⟩, e15, h⟩ := gb h
        dsimp only at h
        refine ec_callV1 (k' := 170) (n := 3) (rc := 10) (a := a0) (as := [.int (0 : Int32), .int (4 : Int32)]) ⟨rfl, rfl⟩ rfl rfl (Nat.le_of_ble_eq_true rfl) (Nat.le_of_ble_eq_true rfl) (Nat.le_of_ble_eq_true rfl) g1 rfl (t_170 e15) ?_
        rcases gi h with ⟨c16, h⟩ | ⟨c16, h⟩
        · refine en_if_ne_t c16 rfl ?_
          refine en_aload rfl rfl ?_
          obtain ⟨⟨q17, C18⟩, e19, h⟩ := gb h
          dsimp only at h
          refine ec_callV0 (k' := 169) (n := 1) (rc := 10) (a := a0) (as := []) ⟨rfl, rfl⟩ rfl rfl (Nat.le_of_ble_eq_true rfl) (Nat.le_of_ble_eq_true rfl) (Nat.le_of_ble_eq_true rfl) g1 rfl (t_169 e19) ?_
          refine en_aload rfl rfl ?_
          refine en_aload rfl rfl ?_
          refine ec_getI (ci := 10) (j := 48) ⟨rfl, rfl, rfl⟩ g1 rfl ?_
          refine ec_iconst cst_2 rfl ?_
          rcases gi h with ⟨c20, h⟩ | ⟨c20, h⟩
          · refine en_icmp_ne_t c20 rfl ?_
            refine ec_iconst cst_0 rfl ?_
            refine ec_iconst cst_1 rfl ?_
            obtain ⟨⟨q21, C22⟩, e23, h⟩ := gb h
            dsimp only at h
            refine ec_callV1 (k' := 170) (n := 3) (rc := 10) (a := a0) (as := [.int (0 : Int32), .int (1 : Int32)]) ⟨rfl, rfl⟩ rfl rfl (Nat.le_of_ble_eq_true rfl) (Nat.le_of_ble_eq_true rfl) (Nat.le_of_ble_eq_true rfl) g1 rfl (t_170 e23) ?_
            rcases gi h with ⟨c24, h⟩ | ⟨c24, h⟩
            · refine en_if_eq_t c24 rfl ?_
              cases h
              exact en_vret rfl
            · refine en_if_eq_f c24 rfl ?_
              refine en_aload rfl rfl ?_
              refine en_aload rfl rfl ?_
              refine ec_getI (ci := 10) (j := 49) ⟨rfl, rfl, rfl⟩ g1 rfl ?_
              refine ec_iconst cst_1 rfl ?_
              refine ec_iconst cst_4 rfl ?_
              obtain ⟨⟨q25, C26⟩, e27, h⟩ := gb h
              dsimp only at h
              refine ec_callS1 (k' := 163) (n := 3) (as := [.int (cI C22 a0 49), .int (1 : Int32), .int (4 : Int32)]) rfl rfl rfl (Nat.le_of_ble_eq_true rfl) (Nat.le_of_ble_eq_true rfl) (Nat.le_of_ble_eq_true rfl) rfl (t_163 e27) ?_
              refine ec_iconst cst_2 rfl ?_
              obtain ⟨⟨q28, C29⟩, e30, h⟩ := gb h
              dsimp only at h
              refine ec_callV1 (k' := 170) (n := 3) (rc := 10) (a := a0) (as := [.int q25, .int (2 : Int32)]) ⟨rfl, rfl⟩ rfl rfl (Nat.le_of_ble_eq_true rfl) (Nat.le_of_ble_eq_true rfl) (Nat.le_of_ble_eq_true rfl) g1 rfl (t_170 e30) ?_
              rcases gi h with ⟨c31, h⟩ | ⟨c31, h⟩
              · refine en_if_ne_t c31 rfl ?_
                refine en_aload rfl rfl ?_
                obtain ⟨r32, e33, h⟩ := gb h
                refine ec_getP (ci := 10) (j := 21) ⟨rfl, rfl, rfl⟩ g1 e33 rfl ?_
                refine en_aload rfl rfl ?_
                refine ec_getI (ci := 10) (j := 41) ⟨rfl, rfl, rfl⟩ g1 rfl ?_
                refine en_aload rfl rfl ?_
                refine ec_getI (ci := 10) (j := 49) ⟨rfl, rfl, rfl⟩ g1 rfl ?_
                obtain ⟨g34, h⟩ := gd h
                obtain ⟨g35, h⟩ := gd h
                refine ec_iastore g34 g35 rfl ?_
                refine en_aload rfl rfl ?_
                obtain ⟨⟨q36, C37⟩, e38, h⟩ := gb h
                dsimp only at h
                refine ec_callV0 (k' := 169) (n := 1) (rc := 10) (a := a0) (as := []) ⟨rfl, rfl⟩ rfl rfl (Nat.le_of_ble_eq_true rfl) (Nat.le_of_ble_eq_true rfl) (Nat.le_of_ble_eq_true rfl) g1 rfl (t_169 e38) ?_
                refine en_goto rfl ?_
                cases h
                exact en_vret rfl
              · refine en_if_ne_f c31 rfl ?_
                cases h
                exact en_vret rfl
          · refine en_icmp_ne_f c20 rfl ?_
            refine ec_iconst cst_1 rfl ?_
            refine en_goto rfl ?_
            refine ec_iconst cst_1 rfl ?_
            obtain ⟨⟨q39, C40⟩, e41, h⟩ := gb h
            dsimp only at h
            refine ec_callV1 (k' := 170) (n := 3) (rc := 10) (a := a0) (as := [.int (1 : Int32), .int (1 : Int32)]) ⟨rfl, rfl⟩ rfl rfl (Nat.le_of_ble_eq_true rfl) (Nat.le_of_ble_eq_true rfl) (Nat.le_of_ble_eq_true rfl) g1 rfl (t_170 e41) ?_
            rcases gi h with ⟨c42, h⟩ | ⟨c42, h⟩
            · refine en_if_eq_t c42 rfl ?_
              cases h
              exact en_vret rfl
            · refine en_if_eq_f c42 rfl ?_
              refine en_aload rfl rfl ?_
              refine en_aload rfl rfl ?_
              refine ec_getI (ci := 10) (j := 49) ⟨rfl, rfl, rfl⟩ g1 rfl ?_
              refine ec_iconst cst_1 rfl ?_
              refine ec_iconst cst_4 rfl ?_
              obtain ⟨⟨q43, C44⟩, e45, h⟩ := gb h
              dsimp only at h
              refine ec_callS1 (k' := 163) (n := 3) (as := [.int (cI C40 a0 49), .int (1 : Int32), .int (4 : Int32)]) rfl rfl rfl (Nat.le_of_ble_eq_true rfl) (Nat.le_of_ble_eq_true rfl) (Nat.le_of_ble_eq_true rfl) rfl (t_163 e45) ?_
              refine ec_iconst cst_2 rfl ?_
              obtain ⟨⟨q46, C47⟩, e48, h⟩ := gb h
              dsimp only at h
              refine ec_callV1 (k' := 170) (n := 3) (rc := 10) (a := a0) (as := [.int q43, .int (2 : Int32)]) ⟨rfl, rfl⟩ rfl rfl (Nat.le_of_ble_eq_true rfl) (Nat.le_of_ble_eq_true rfl) (Nat.le_of_ble_eq_true rfl) g1 rfl (t_170 e48) ?_
              rcases gi h with ⟨c49, h⟩ | ⟨c49, h⟩
              · refine en_if_ne_t c49 rfl ?_
                refine en_aload rfl rfl ?_
                obtain ⟨r50, e51, h⟩ := gb h
                refine ec_getP (ci := 10) (j := 21) ⟨rfl, rfl, rfl⟩ g1 e51 rfl ?_
                refine en_aload rfl rfl ?_
                refine ec_getI (ci := 10) (j := 41) ⟨rfl, rfl, rfl⟩ g1 rfl ?_
                refine en_aload rfl rfl ?_
                refine ec_getI (ci := 10) (j := 49) ⟨rfl, rfl, rfl⟩ g1 rfl ?_
                obtain ⟨g52, h⟩ := gd h
                obtain ⟨g53, h⟩ := gd h
                refine ec_iastore g52 g53 rfl ?_
                refine en_aload rfl rfl ?_
                obtain ⟨⟨q54, C55⟩, e56, h⟩ := gb h
                dsimp only at h
                refine ec_callV0 (k' := 169) (n := 1) (rc := 10) (a := a0) (as := []) ⟨rfl, rfl⟩ rfl rfl (Nat.le_of_ble_eq_true rfl) (Nat.le_of_ble_eq_true rfl) (Nat.le_of_ble_eq_true rfl) g1 rfl (t_169 e56) ?_
                refine en_goto rfl ?_
                cases h
                exact en_vret rfl
              · refine en_if_ne_f c49 rfl ?_
                cases h
                exact en_vret rfl
        · refine en_if_ne_f c16 rfl ?_
          cases h
          exact en_vret rfl
      · refine en_if_ne_f c12 rfl ?_
        refine ec_iconst cst_1 rfl ?_
        refine en_goto rfl ?_
        refine ec_iconst cst_4 rfl ?_
        obtain ⟨⟨q57, C58⟩, e59, h⟩ := gb h
        dsimp only at h
        refine ec_callV1 (k' := 170) (n := 3) (rc := 10) (a := a0) (as := [.int (1 : Int32), .int (4 : Int32)]) ⟨rfl, rfl⟩ rfl rfl (Nat.le_of_ble_eq_true rfl) (Nat.le_of_ble_eq_true rfl) (Nat.le_of_ble_eq_true rfl) g1 rfl (t_170 e59) ?_
        rcases gi h with ⟨c60, h⟩ | ⟨c60, h⟩
        · refine en_if_ne_t c60 rfl ?_
          refine en_aload rfl rfl ?_
          obtain ⟨⟨q61, C62⟩, e63, h⟩ := gb h
          dsimp only at h
          refine ec_callV0 (k' := 169) (n := 1) (rc := 10) (a := a0) (as := []) ⟨rfl, rfl⟩ rfl rfl (Nat.le_of_ble_eq_true rfl) (Nat.le_of_ble_eq_true rfl) (Nat.le_of_ble_eq_true rfl) g1 rfl (t_169 e63) ?_
          refine en_aload rfl rfl ?_
          refine en_aload rfl rfl ?_
          refine ec_getI (ci := 10) (j := 48) ⟨rfl, rfl, rfl⟩ g1 rfl ?_
          refine ec_iconst cst_2 rfl ?_
          rcases gi h with ⟨c64, h⟩ | ⟨c64, h⟩
          · refine en_icmp_ne_t c64 rfl ?_
            refine ec_iconst cst_0 rfl ?_
            refine ec_iconst cst_1 rfl ?_
            obtain ⟨⟨q65, C66⟩, e67, h⟩ := gb h
            dsimp only at h
            refine ec_callV1 (k' := 170) (n := 3) (rc := 10) (a := a0) (as := [.int (0 : Int32), .int (1 : Int32)]) ⟨rfl, rfl⟩ rfl rfl (Nat.le_of_ble_eq_true rfl) (Nat.le_of_ble_eq_true rfl) (Nat.le_of_ble_eq_true rfl) g1 rfl (t_170 e67) ?_
            rcases gi h with ⟨c68, h⟩ | ⟨c68, h⟩
            · refine en_if_eq_t c68 rfl ?_
              cases h
              exact en_vret rfl
            · refine en_if_eq_f c68 rfl ?_
              refine en_aload rfl rfl ?_
              refine en_aload rfl rfl ?_
              refine ec_getI (ci := 10) (j := 49) ⟨rfl, rfl, rfl⟩ g1 rfl ?_
              refine ec_iconst cst_1 rfl ?_
              refine ec_iconst cst_4 rfl ?_
              obtain ⟨⟨q69, C70⟩, e71, h⟩ := gb h
              dsimp only at h
              refine ec_callS1 (k' := 163) (n := 3) (as := [.int (cI C66 a0 49), .int (1 : Int32), .int (4 : Int32)]) rfl rfl rfl (Nat.le_of_ble_eq_true rfl) (Nat.le_of_ble_eq_true rfl) (Nat.le_of_ble_eq_true rfl) rfl (t_163 e71) ?_
              refine ec_iconst cst_2 rfl ?_
              obtain ⟨⟨q72, C73⟩, e74, h⟩ := gb h
              dsimp only at h
              refine ec_callV1 (k' := 170) (n := 3) (rc := 10) (a := a0) (as := [.int q69, .int (2 : Int32)]) ⟨rfl, rfl⟩ rfl rfl (Nat.le_of_ble_eq_true rfl) (Nat.le_of_ble_eq_true rfl) (Nat.le_of_ble_eq_true rfl) g1 rfl (t_170 e74) ?_
              rcases gi h with ⟨c75, h⟩ | ⟨c75, h⟩
              · refine en_if_ne_t c75 rfl ?_
                refine en_aload rfl rfl ?_
                obtain ⟨r76, e77, h⟩ := gb h
                refine ec_getP (ci := 10) (j := 21) ⟨rfl, rfl, rfl⟩ g1 e77 rfl ?_
                refine en_aload rfl rfl ?_
                refine ec_getI (ci := 10) (j := 41) ⟨rfl, rfl, rfl⟩ g1 rfl ?_
                refine en_aload rfl rfl ?_
                refine ec_getI (ci := 10) (j := 49) ⟨rfl, rfl, rfl⟩ g1 rfl ?_
                obtain ⟨g78, h⟩ := gd h
                obtain ⟨g79, h⟩ := gd h
                refine ec_iastore g78 g79 rfl ?_
                refine en_aload rfl rfl ?_
                obtain ⟨⟨q80, C81⟩, e82, h⟩ := gb h
                dsimp only at h
                refine ec_callV0 (k' := 169) (n := 1) (rc := 10) (a := a0) (as := []) ⟨rfl, rfl⟩ rfl rfl (Nat.le_of_ble_eq_true rfl) (Nat.le_of_ble_eq_true rfl) (Nat.le_of_ble_eq_true rfl) g1 rfl (t_169 e82) ?_
                refine en_goto rfl ?_
                cases h
                exact en_vret rfl
              · refine en_if_ne_f c75 rfl ?_
                cases h
                exact en_vret rfl
          · refine en_icmp_ne_f c64 rfl ?_
            refine ec_iconst cst_1 rfl ?_
            refine en_goto rfl ?_
            refine ec_iconst cst_1 rfl ?_
            obtain ⟨⟨q83, C84⟩, e85, h⟩ := gb h
            dsimp only at h
            refine ec_callV1 (k' := 170) (n := 3) (rc := 10) (a := a0) (as := [.int (1 : Int32), .int (1 : Int32)]) ⟨rfl, rfl⟩ rfl rfl (Nat.le_of_ble_eq_true rfl) (Nat.le_of_ble_eq_true rfl) (Nat.le_of_ble_eq_true rfl) g1 rfl (t_170 e85) ?_
            rcases gi h with ⟨c86, h⟩ | ⟨c86, h⟩
            · refine en_if_eq_t c86 rfl ?_
              cases h
              exact en_vret rfl
            · refine en_if_eq_f c86 rfl ?_
              refine en_aload rfl rfl ?_
              refine en_aload rfl rfl ?_
              refine ec_getI (ci := 10) (j := 49) ⟨rfl, rfl, rfl⟩ g1 rfl ?_
              refine ec_iconst cst_1 rfl ?_
              refine ec_iconst cst_4 rfl ?_
              obtain ⟨⟨q87, C88⟩, e89, h⟩ := gb h
              dsimp only at h
              refine ec_callS1 (k' := 163) (n := 3) (as := [.int (cI C84 a0 49), .int (1 : Int32), .int (4 : Int32)]) rfl rfl rfl (Nat.le_of_ble_eq_true rfl) (Nat.le_of_ble_eq_true rfl) (Nat.le_of_ble_eq_true rfl) rfl (t_163 e89) ?_
              refine ec_iconst cst_2 rfl ?_
              obtain ⟨⟨q90, C91⟩, e92, h⟩ := gb h
              dsimp only at h
              refine ec_callV1 (k' := 170) (n := 3) (rc := 10) (a := a0) (as := [.int q87, .int (2 : Int32)]) ⟨rfl, rfl⟩ rfl rfl (Nat.le_of_ble_eq_true rfl) (Nat.le_of_ble_eq_true rfl) (Nat.le_of_ble_eq_true rfl) g1 rfl (t_170 e92) ?_
              rcases gi h with ⟨c93, h⟩ | ⟨c93, h⟩
              · refine en_if_ne_t c93 rfl ?_
                refine en_aload rfl rfl ?_
                obtain ⟨r94, e95, h⟩ := gb h
                refine ec_getP (ci := 10) (j := 21) ⟨rfl, rfl, rfl⟩ g1 e95 rfl ?_
                refine en_aload rfl rfl ?_
                refine ec_getI (ci := 10) (j := 41) ⟨rfl, rfl, rfl⟩ g1 rfl ?_
                refine en_aload rfl rfl ?_
                refine ec_getI (ci := 10) (j := 49) ⟨rfl, rfl, rfl⟩ g1 rfl ?_
                obtain ⟨g96, h⟩ := gd h
                obtain ⟨g97, h⟩ := gd h
                refine ec_iastore g96 g97 rfl ?_
                refine en_aload rfl rfl ?_
                obtain ⟨⟨q98, C99⟩, e100, h⟩ := gb h
                dsimp only at h
                refine ec_callV0 (k' := 169) (n := 1) (rc := 10) (a := a0) (as := []) ⟨rfl, rfl⟩ rfl rfl (Nat.le_of_ble_eq_true rfl) (Nat.le_of_ble_eq_true rfl) (Nat.le_of_ble_eq_true rfl) g1 rfl (t_169 e100) ?_
                refine en_goto rfl ?_
                cases h
                exact en_vret rfl
              · refine en_if_ne_f c93 rfl ?_
                cases h
                exact en_vret rfl
        · refine en_if_ne_f c60 rfl ?_
          cases h
          exact en_vret rfl
    ·
      rcases gi h with ⟨c4, h⟩ | ⟨c4, h⟩
      · refine en_tab_i (t := 53) (by rw [c4]; decide) (by rw [c4]; rfl) rfl ?_
        refine en_aload rfl rfl ?_
        refine en_aload rfl rfl ?_
        refine ec_getI (ci := 10) (j := 53) ⟨rfl, rfl, rfl⟩ g1 rfl ?_
        refine ec_iconst cst_30 rfl ?_
        rcases gi h with ⟨c101, h⟩ | ⟨c101, h⟩
        · refine en_icmp_ge_t c101 rfl ?_
          refine ec_iconst cst_0 rfl ?_
          refine ec_iconst cst_2 rfl ?_
          obtain ⟨⟨q102, C103⟩, e104, h⟩ := gb h
          dsimp only at h
          refine ec_callV1 (k' := 170) (n := 3) (rc := 10) (a := a0) (as := [.int (0 : Int32), .int (2 : Int32)]) ⟨rfl, rfl⟩ rfl rfl (Nat.le_of_ble_eq_true rfl) (Nat.le_of_ble_eq_true rfl) (Nat.le_of_ble_eq_true rfl) g1 rfl (t_170 e104) ?_
          rcases gi h with ⟨c105, h⟩ | ⟨c105, h⟩
          · refine en_if_ne_t c105 rfl ?_
            refine en_aload rfl rfl ?_
            obtain ⟨⟨q106, C107⟩, e108, h⟩ := gb h
            dsimp only at h
            refine ec_callV0 (k' := 169) (n := 1) (rc := 10) (a := a0) (as := []) ⟨rfl, rfl⟩ rfl rfl (Nat.le_of_ble_eq_true rfl) (Nat.le_of_ble_eq_true rfl) (Nat.le_of_ble_eq_true rfl) g1 rfl (t_169 e108) ?_
            refine en_aload rfl rfl ?_
            refine en_aload rfl rfl ?_
            obtain ⟨r109, e110, h⟩ := gb h
            refine ec_getP (ci := 10) (j := 52) ⟨rfl, rfl, rfl⟩ g1 e110 rfl ?_
            refine ec_iconst cst_30 rfl ?_
            refine ec_iconst cst_4 rfl ?_
            refine en_aload rfl rfl ?_
            refine ec_getI (ci := 10) (j := 53) ⟨rfl, rfl, rfl⟩ g1 rfl ?_
            refine en_imul rfl ?_
            refine en_iadd rfl ?_
            obtain ⟨⟨q111, C112⟩, e113, h⟩ := gb h
            dsimp only at h
            refine ec_callV0 (k' := 185) (n := 3) (rc := 10) (a := a0) (as := [.ref r109, .int ((30 : Int32) + ((4 : Int32) * (cI C107 a0 53)))]) ⟨rfl, rfl⟩ rfl rfl (Nat.le_of_ble_eq_true rfl) (Nat.le_of_ble_eq_true rfl) (Nat.le_of_ble_eq_true rfl) g1 rfl (t_185 e113) ?_
            refine en_aload rfl rfl ?_
            refine ec_getI (ci := 10) (j := 51) ⟨rfl, rfl, rfl⟩ g1 rfl ?_
            rcases gi h with ⟨c114, h⟩ | ⟨c114, h⟩
            · refine en_if_eq_t c114 rfl ?_
              refine en_aload rfl rfl ?_
              obtain ⟨r115, e116, h⟩ := gb h
              refine ec_getP (ci := 10) (j := 52) ⟨rfl, rfl, rfl⟩ g1 e116 rfl ?_
              refine en_aload rfl rfl ?_
              refine ec_getI (ci := 10) (j := 53) ⟨rfl, rfl, rfl⟩ g1 rfl ?_
              refine ec_iconst cst_1 rfl ?_
              obtain ⟨g117, h⟩ := gd h
              obtain ⟨g118, h⟩ := gd h
              refine ec_iastore g117 g118 rfl ?_
              refine en_aload rfl rfl ?_
              refine en_dup rfl rfl ?_
              refine ec_getI (ci := 10) (j := 53) ⟨rfl, rfl, rfl⟩ g1 rfl ?_
              refine ec_iconst cst_1 rfl ?_
              refine en_iadd rfl ?_
              refine ec_putI (ci := 10) (j := 53) ⟨rfl, rfl, rfl⟩ g1 rfl ?_
              refine en_aload rfl rfl ?_
              refine en_aload rfl rfl ?_
              refine ec_iconst cst_59 rfl ?_
              obtain ⟨⟨q119, C120⟩, e121, h⟩ := gb h
              dsimp only at h
              refine ec_callV1 (k' := 172) (n := 2) (rc := 10) (a := a0) (as := [.int (59 : Int32)]) ⟨rfl, rfl⟩ rfl rfl (Nat.le_of_ble_eq_true rfl) (Nat.le_of_ble_eq_true rfl) (Nat.le_of_ble_eq_true rfl) g1 rfl (t_172 e121) ?_
              rcases gi h with ⟨c122, h⟩ | ⟨c122, h⟩
              · refine en_if_eq_t c122 rfl ?_
                refine ec_iconst cst_1 rfl ?_
                refine en_goto rfl ?_
                refine ec_iconst cst_4 rfl ?_
                obtain ⟨⟨q123, C124⟩, e125, h⟩ := gb h
                dsimp only at h
                refine ec_callV1 (k' := 170) (n := 3) (rc := 10) (a := a0) (as := [.int (1 : Int32), .int (4 : Int32)]) ⟨rfl, rfl⟩ rfl rfl (Nat.le_of_ble_eq_true rfl) (Nat.le_of_ble_eq_true rfl) (Nat.le_of_ble_eq_true rfl) g1 rfl (t_170 e125) ?_
                refine en_pop rfl rfl ?_
                refine en_goto rfl ?_
                cases h
                exact en_vret rfl
              · refine en_if_eq_f c122 rfl ?_
                refine en_aload rfl rfl ?_
                refine en_aload rfl rfl ?_
                obtain ⟨r126, e127, h⟩ := gb h
                refine ec_getP (ci := 10) (j := 52) ⟨rfl, rfl, rfl⟩ g1 e127 rfl ?_
                refine ec_iconst cst_0 rfl ?_
                refine ec_iconst cst_30 rfl ?_
                refine en_aload rfl rfl ?_
                refine ec_getI (ci := 10) (j := 41) ⟨rfl, rfl, rfl⟩ g1 rfl ?_
                obtain ⟨⟨q128, C129⟩, e130, h⟩ := gb h
                dsimp only at h
                refine ec_callV1 (k' := 192) (n := 5) (rc := 10) (a := a0) (as := [.ref r126, .int (0 : Int32), .int (30 : Int32), .int (cI C120 a0 41)]) ⟨rfl, rfl⟩ rfl rfl (Nat.le_of_ble_eq_true rfl) (Nat.le_of_ble_eq_true rfl) (Nat.le_of_ble_eq_true rfl) g1 rfl (t_192 e130) ?_
                refine ec_iconst cst_m1 rfl ?_
                rcases gi h with ⟨c131, h⟩ | ⟨c131, h⟩
                · refine en_icmp_ne_t c131 rfl ?_
                  refine ec_iconst cst_0 rfl ?_
                  refine ec_iconst cst_4 rfl ?_
                  obtain ⟨⟨q132, C133⟩, e134, h⟩ := gb h
                  dsimp only at h
                  refine ec_callV1 (k' := 170) (n := 3) (rc := 10) (a := a0) (as := [.int (0 : Int32), .int (4 : Int32)]) ⟨rfl, rfl⟩ rfl rfl (Nat.le_of_ble_eq_true rfl) (Nat.le_of_ble_eq_true rfl) (Nat.le_of_ble_eq_true rfl) g1 rfl (t_170 e134) ?_
                  refine en_pop rfl rfl ?_
                  refine en_goto rfl ?_
                  cases h
                  exact en_vret rfl
                · refine en_icmp_ne_f c131 rfl ?_
                  refine ec_iconst cst_1 rfl ?_
                  refine en_goto rfl ?_
                  refine ec_iconst cst_4 rfl ?_
                  obtain ⟨⟨q135, C136⟩, e137, h⟩ := gb h
                  dsimp only at h
                  refine ec_callV1 (k' := 170) (n := 3) (rc := 10) (a := a0) (as := [.int (1 : Int32), .int (4 : Int32)]) ⟨rfl, rfl⟩ rfl rfl (Nat.le_of_ble_eq_true rfl) (Nat.le_of_ble_eq_true rfl) (Nat.le_of_ble_eq_true rfl) g1 rfl (t_170 e137) ?_
                  refine en_pop rfl rfl ?_
                  refine en_goto rfl ?_
                  cases h
                  exact en_vret rfl
            · refine en_if_eq_f c114 rfl ?_
              cases h
              exact en_vret rfl
          · refine en_if_ne_f c105 rfl ?_
            cases h
            exact en_vret rfl
        · refine en_icmp_ge_f c101 rfl ?_
          refine ec_iconst cst_1 rfl ?_
          refine en_goto rfl ?_
          refine ec_iconst cst_2 rfl ?_
          obtain ⟨⟨q138, C139⟩, e140, h⟩ := gb h
          dsimp only at h
          refine ec_callV1 (k' := 170) (n := 3) (rc := 10) (a := a0) (as := [.int (1 : Int32), .int (2 : Int32)]) ⟨rfl, rfl⟩ rfl rfl (Nat.le_of_ble_eq_true rfl) (Nat.le_of_ble_eq_true rfl) (Nat.le_of_ble_eq_true rfl) g1 rfl (t_170 e140) ?_
          rcases gi h with ⟨c141, h⟩ | ⟨c141, h⟩
          · refine en_if_ne_t c141 rfl ?_
            refine en_aload rfl rfl ?_
            obtain ⟨⟨q142, C143⟩, e144, h⟩ := gb h
            dsimp only at h
            refine ec_callV0 (k' := 169) (n := 1) (rc := 10) (a := a0) (as := []) ⟨rfl, rfl⟩ rfl rfl (Nat.le_of_ble_eq_true rfl) (Nat.le_of_ble_eq_true rfl) (Nat.le_of_ble_eq_true rfl) g1 rfl (t_169 e144) ?_
            refine en_aload rfl rfl ?_
            refine en_aload rfl rfl ?_
            obtain ⟨r145, e146, h⟩ := gb h
            refine ec_getP (ci := 10) (j := 52) ⟨rfl, rfl, rfl⟩ g1 e146 rfl ?_
            refine ec_iconst cst_30 rfl ?_
            refine ec_iconst cst_4 rfl ?_
            refine en_aload rfl rfl ?_
            refine ec_getI (ci := 10) (j := 53) ⟨rfl, rfl, rfl⟩ g1 rfl ?_
            refine en_imul rfl ?_
            refine en_iadd rfl ?_
            obtain ⟨⟨q147, C148⟩, e149, h⟩ := gb h
            dsimp only at h
            refine ec_callV0 (k' := 185) (n := 3) (rc := 10) (a := a0) (as := [.ref r145, .int ((30 : Int32) + ((4 : Int32) * (cI C143 a0 53)))]) ⟨rfl, rfl⟩ rfl rfl (Nat.le_of_ble_eq_true rfl) (Nat.le_of_ble_eq_true rfl) (Nat.le_of_ble_eq_true rfl) g1 rfl (t_185 e149) ?_
            refine en_aload rfl rfl ?_
            refine ec_getI (ci := 10) (j := 51) ⟨rfl, rfl, rfl⟩ g1 rfl ?_
            rcases gi h with ⟨c150, h⟩ | ⟨c150, h⟩
            · refine en_if_eq_t c150 rfl ?_
              refine en_aload rfl rfl ?_
              obtain ⟨r151, e152, h⟩ := gb h
              refine ec_getP (ci := 10) (j := 52) ⟨rfl, rfl, rfl⟩ g1 e152 rfl ?_
              refine en_aload rfl rfl ?_
              refine ec_getI (ci := 10) (j := 53) ⟨rfl, rfl, rfl⟩ g1 rfl ?_
              refine ec_iconst cst_1 rfl ?_
              obtain ⟨g153, h⟩ := gd h
              obtain ⟨g154, h⟩ := gd h
              refine ec_iastore g153 g154 rfl ?_
              refine en_aload rfl rfl ?_
              refine en_dup rfl rfl ?_
              refine ec_getI (ci := 10) (j := 53) ⟨rfl, rfl, rfl⟩ g1 rfl ?_
              refine ec_iconst cst_1 rfl ?_
              refine en_iadd rfl ?_
              refine ec_putI (ci := 10) (j := 53) ⟨rfl, rfl, rfl⟩ g1 rfl ?_
              refine en_aload rfl rfl ?_
              refine en_aload rfl rfl ?_
              refine ec_iconst cst_59 rfl ?_
              obtain ⟨⟨q155, C156⟩, e157, h⟩ := gb h
              dsimp only at h
              refine ec_callV1 (k' := 172) (n := 2) (rc := 10) (a := a0) (as := [.int (59 : Int32)]) ⟨rfl, rfl⟩ rfl rfl (Nat.le_of_ble_eq_true rfl) (Nat.le_of_ble_eq_true rfl) (Nat.le_of_ble_eq_true rfl) g1 rfl (t_172 e157) ?_
              rcases gi h with ⟨c158, h⟩ | ⟨c158, h⟩
              · refine en_if_eq_t c158 rfl ?_
                refine ec_iconst cst_1 rfl ?_
                refine en_goto rfl ?_
                refine ec_iconst cst_4 rfl ?_
                obtain ⟨⟨q159, C160⟩, e161, h⟩ := gb h
                dsimp only at h
                refine ec_callV1 (k' := 170) (n := 3) (rc := 10) (a := a0) (as := [.int (1 : Int32), .int (4 : Int32)]) ⟨rfl, rfl⟩ rfl rfl (Nat.le_of_ble_eq_true rfl) (Nat.le_of_ble_eq_true rfl) (Nat.le_of_ble_eq_true rfl) g1 rfl (t_170 e161) ?_
                refine en_pop rfl rfl ?_
                refine en_goto rfl ?_
                cases h
                exact en_vret rfl
              · refine en_if_eq_f c158 rfl ?_
                refine en_aload rfl rfl ?_
                refine en_aload rfl rfl ?_
                obtain ⟨r162, e163, h⟩ := gb h
                refine ec_getP (ci := 10) (j := 52) ⟨rfl, rfl, rfl⟩ g1 e163 rfl ?_
                refine ec_iconst cst_0 rfl ?_
                refine ec_iconst cst_30 rfl ?_
                refine en_aload rfl rfl ?_
                refine ec_getI (ci := 10) (j := 41) ⟨rfl, rfl, rfl⟩ g1 rfl ?_
                obtain ⟨⟨q164, C165⟩, e166, h⟩ := gb h
                dsimp only at h
                refine ec_callV1 (k' := 192) (n := 5) (rc := 10) (a := a0) (as := [.ref r162, .int (0 : Int32), .int (30 : Int32), .int (cI C156 a0 41)]) ⟨rfl, rfl⟩ rfl rfl (Nat.le_of_ble_eq_true rfl) (Nat.le_of_ble_eq_true rfl) (Nat.le_of_ble_eq_true rfl) g1 rfl (t_192 e166) ?_
                refine ec_iconst cst_m1 rfl ?_
                rcases gi h with ⟨c167, h⟩ | ⟨c167, h⟩
                · refine en_icmp_ne_t c167 rfl ?_
                  refine ec_iconst cst_0 rfl ?_
                  refine ec_iconst cst_4 rfl ?_
                  obtain ⟨⟨q168, C169⟩, e170, h⟩ := gb h
                  dsimp only at h
                  refine ec_callV1 (k' := 170) (n := 3) (rc := 10) (a := a0) (as := [.int (0 : Int32), .int (4 : Int32)]) ⟨rfl, rfl⟩ rfl rfl (Nat.le_of_ble_eq_true rfl) (Nat.le_of_ble_eq_true rfl) (Nat.le_of_ble_eq_true rfl) g1 rfl (t_170 e170) ?_
                  refine en_pop rfl rfl ?_
                  refine en_goto rfl ?_
                  cases h
                  exact en_vret rfl
                · refine en_icmp_ne_f c167 rfl ?_
                  refine ec_iconst cst_1 rfl ?_
                  refine en_goto rfl ?_
                  refine ec_iconst cst_4 rfl ?_
                  obtain ⟨⟨q171, C172⟩, e173, h⟩ := gb h
                  dsimp only at h
                  refine ec_callV1 (k' := 170) (n := 3) (rc := 10) (a := a0) (as := [.int (1 : Int32), .int (4 : Int32)]) ⟨rfl, rfl⟩ rfl rfl (Nat.le_of_ble_eq_true rfl) (Nat.le_of_ble_eq_true rfl) (Nat.le_of_ble_eq_true rfl) g1 rfl (t_170 e173) ?_
                  refine en_pop rfl rfl ?_
                  refine en_goto rfl ?_
                  cases h
                  exact en_vret rfl
            · refine en_if_eq_f c150 rfl ?_
              cases h
              exact en_vret rfl
          · refine en_if_ne_f c141 rfl ?_
            cases h
            exact en_vret rfl
      ·
        rcases gi h with ⟨c5, h⟩ | ⟨c5, h⟩
        · refine en_tab_i (t := 115) (by rw [c5]; decide) (by rw [c5]; rfl) rfl ?_
          refine en_aload rfl rfl ?_
          refine en_aload rfl rfl ?_
          obtain ⟨r174, e175, h⟩ := gb h
          refine ec_getP (ci := 10) (j := 24) ⟨rfl, rfl, rfl⟩ g1 e175 rfl ?_
          refine en_aload rfl rfl ?_
          refine ec_getI (ci := 10) (j := 41) ⟨rfl, rfl, rfl⟩ g1 rfl ?_
          obtain ⟨g176, h⟩ := gd h
          obtain ⟨g177, h⟩ := gd h
          refine ec_iaload g176 g177 rfl ?_
          refine ec_iconst cst_10 rfl ?_
          rcases gi h with ⟨c178, h⟩ | ⟨c178, h⟩
          · refine en_icmp_ge_t c178 rfl ?_
            refine ec_iconst cst_0 rfl ?_
            refine ec_iconst cst_2 rfl ?_
            obtain ⟨⟨q179, C180⟩, e181, h⟩ := gb h
            dsimp only at h
            refine ec_callV1 (k' := 170) (n := 3) (rc := 10) (a := a0) (as := [.int (0 : Int32), .int (2 : Int32)]) ⟨rfl, rfl⟩ rfl rfl (Nat.le_of_ble_eq_true rfl) (Nat.le_of_ble_eq_true rfl) (Nat.le_of_ble_eq_true rfl) g1 rfl (t_170 e181) ?_
            rcases gi h with ⟨c182, h⟩ | ⟨c182, h⟩
            · refine en_if_ne_t c182 rfl ?_
              refine en_aload rfl rfl ?_
              obtain ⟨⟨q183, C184⟩, e185, h⟩ := gb h
              dsimp only at h
              refine ec_callV0 (k' := 169) (n := 1) (rc := 10) (a := a0) (as := []) ⟨rfl, rfl⟩ rfl rfl (Nat.le_of_ble_eq_true rfl) (Nat.le_of_ble_eq_true rfl) (Nat.le_of_ble_eq_true rfl) g1 rfl (t_169 e185) ?_
              refine en_aload rfl rfl ?_
              refine en_aload rfl rfl ?_
              obtain ⟨r186, e187, h⟩ := gb h
              refine ec_getP (ci := 10) (j := 31) ⟨rfl, rfl, rfl⟩ g1 e187 rfl ?_
              refine ec_iconst cst_4 rfl ?_
              refine ec_iconst cst_10 rfl ?_
              refine en_aload rfl rfl ?_
              refine ec_getI (ci := 10) (j := 41) ⟨rfl, rfl, rfl⟩ g1 rfl ?_
              refine en_imul rfl ?_
              refine en_aload rfl rfl ?_
              obtain ⟨r188, e189, h⟩ := gb h
              refine ec_getP (ci := 10) (j := 24) ⟨rfl, rfl, rfl⟩ g1 e189 rfl ?_
              refine en_aload rfl rfl ?_
              refine ec_getI (ci := 10) (j := 41) ⟨rfl, rfl, rfl⟩ g1 rfl ?_
              obtain ⟨g190, h⟩ := gd h
              obtain ⟨g191, h⟩ := gd h
              refine ec_iaload g190 g191 rfl ?_
              refine en_iadd rfl ?_
              refine en_imul rfl ?_
              obtain ⟨⟨q192, C193⟩, e194, h⟩ := gb h
              dsimp only at h
              refine ec_callV0 (k' := 185) (n := 3) (rc := 10) (a := a0) (as := [.ref r186, .int ((4 : Int32) * (((10 : Int32) * (cI C184 a0 41)) + (cI C184 r188 (Int32.toNatClampNeg (cI C184 a0 41)))))]) ⟨rfl, rfl⟩ rfl rfl (Nat.le_of_ble_eq_true rfl) (Nat.le_of_ble_eq_true rfl) (Nat.le_of_ble_eq_true rfl) g1 rfl (t_185 e194) ?_
              refine en_aload rfl rfl ?_
              obtain ⟨r195, e196, h⟩ := gb h
              refine ec_getP (ci := 10) (j := 24) ⟨rfl, rfl, rfl⟩ g1 e196 rfl ?_
              refine en_aload rfl rfl ?_
              refine ec_getI (ci := 10) (j := 41) ⟨rfl, rfl, rfl⟩ g1 rfl ?_
              refine en_dup2 ⟨rfl, rfl⟩ rfl ?_
              obtain ⟨g197, h⟩ := gd h
              obtain ⟨g198, h⟩ := gd h
              refine ec_iaload g197 g198 rfl ?_
              refine ec_iconst cst_1 rfl ?_
              refine en_iadd rfl ?_
              obtain ⟨g199, h⟩ := gd h
              refine ec_iastore g197 g199 rfl ?_
              refine en_goto rfl ?_
              cases h
              exact en_vret rfl
            · refine en_if_ne_f c182 rfl ?_
              cases h
              exact en_vret rfl
          · refine en_icmp_ge_f c178 rfl ?_
            refine ec_iconst cst_1 rfl ?_
            refine en_goto rfl ?_
            refine ec_iconst cst_2 rfl ?_
            obtain ⟨⟨q200, C201⟩, e202, h⟩ := gb h
            dsimp only at h
            refine ec_callV1 (k' := 170) (n := 3) (rc := 10) (a := a0) (as := [.int (1 : Int32), .int (2 : Int32)]) ⟨rfl, rfl⟩ rfl rfl (Nat.le_of_ble_eq_true rfl) (Nat.le_of_ble_eq_true rfl) (Nat.le_of_ble_eq_true rfl) g1 rfl (t_170 e202) ?_
            rcases gi h with ⟨c203, h⟩ | ⟨c203, h⟩
            · refine en_if_ne_t c203 rfl ?_
              refine en_aload rfl rfl ?_
              obtain ⟨⟨q204, C205⟩, e206, h⟩ := gb h
              dsimp only at h
              refine ec_callV0 (k' := 169) (n := 1) (rc := 10) (a := a0) (as := []) ⟨rfl, rfl⟩ rfl rfl (Nat.le_of_ble_eq_true rfl) (Nat.le_of_ble_eq_true rfl) (Nat.le_of_ble_eq_true rfl) g1 rfl (t_169 e206) ?_
              refine en_aload rfl rfl ?_
              refine en_aload rfl rfl ?_
              obtain ⟨r207, e208, h⟩ := gb h
              refine ec_getP (ci := 10) (j := 31) ⟨rfl, rfl, rfl⟩ g1 e208 rfl ?_
              refine ec_iconst cst_4 rfl ?_
              refine ec_iconst cst_10 rfl ?_
              refine en_aload rfl rfl ?_
              refine ec_getI (ci := 10) (j := 41) ⟨rfl, rfl, rfl⟩ g1 rfl ?_
              refine en_imul rfl ?_
              refine en_aload rfl rfl ?_
              obtain ⟨r209, e210, h⟩ := gb h
              refine ec_getP (ci := 10) (j := 24) ⟨rfl, rfl, rfl⟩ g1 e210 rfl ?_
              refine en_aload rfl rfl ?_
              refine ec_getI (ci := 10) (j := 41) ⟨rfl, rfl, rfl⟩ g1 rfl ?_
              obtain ⟨g211, h⟩ := gd h
              obtain ⟨g212, h⟩ := gd h
              refine ec_iaload g211 g212 rfl ?_
              refine en_iadd rfl ?_
              refine en_imul rfl ?_
              obtain ⟨⟨q213, C214⟩, e215, h⟩ := gb h
              dsimp only at h
              refine ec_callV0 (k' := 185) (n := 3) (rc := 10) (a := a0) (as := [.ref r207, .int ((4 : Int32) * (((10 : Int32) * (cI C205 a0 41)) + (cI C205 r209 (Int32.toNatClampNeg (cI C205 a0 41)))))]) ⟨rfl, rfl⟩ rfl rfl (Nat.le_of_ble_eq_true rfl) (Nat.le_of_ble_eq_true rfl) (Nat.le_of_ble_eq_true rfl) g1 rfl (t_185 e215) ?_
              refine en_aload rfl rfl ?_
              obtain ⟨r216, e217, h⟩ := gb h
              refine ec_getP (ci := 10) (j := 24) ⟨rfl, rfl, rfl⟩ g1 e217 rfl ?_
              refine en_aload rfl rfl ?_
              refine ec_getI (ci := 10) (j := 41) ⟨rfl, rfl, rfl⟩ g1 rfl ?_
              refine en_dup2 ⟨rfl, rfl⟩ rfl ?_
              obtain ⟨g218, h⟩ := gd h
              obtain ⟨g219, h⟩ := gd h
              refine ec_iaload g218 g219 rfl ?_
              refine ec_iconst cst_1 rfl ?_
              refine en_iadd rfl ?_
              obtain ⟨g220, h⟩ := gd h
              refine ec_iastore g218 g220 rfl ?_
              refine en_goto rfl ?_
              cases h
              exact en_vret rfl
            · refine en_if_ne_f c203 rfl ?_
              cases h
              exact en_vret rfl
        ·
          rcases gi h with ⟨c6, h⟩ | ⟨c6, h⟩
          · refine en_tab_i (t := 158) (by rw [c6]; decide) (by rw [c6]; rfl) rfl ?_
            refine en_aload rfl rfl ?_
            refine en_aload rfl rfl ?_
            refine ec_getI (ci := 10) (j := 50) ⟨rfl, rfl, rfl⟩ g1 rfl ?_
            refine ec_iconst cst_3 rfl ?_
            rcases gi h with ⟨c221, h⟩ | ⟨c221, h⟩
            · refine en_icmp_ne_t c221 rfl ?_
              refine ec_iconst cst_0 rfl ?_
              obtain ⟨⟨q222, C223⟩, e224, h⟩ := gb h
              dsimp only at h
              refine ec_callV0 (k' := 186) (n := 2) (rc := 10) (a := a0) (as := [.int (0 : Int32)]) ⟨rfl, rfl⟩ rfl rfl (Nat.le_of_ble_eq_true rfl) (Nat.le_of_ble_eq_true rfl) (Nat.le_of_ble_eq_true rfl) g1 rfl (t_186 e224) ?_
              refine en_goto rfl ?_
              cases h
              exact en_vret rfl
            · refine en_icmp_ne_f c221 rfl ?_
              refine ec_iconst cst_1 rfl ?_
              refine en_goto rfl ?_
              obtain ⟨⟨q225, C226⟩, e227, h⟩ := gb h
              dsimp only at h
              refine ec_callV0 (k' := 186) (n := 2) (rc := 10) (a := a0) (as := [.int (1 : Int32)]) ⟨rfl, rfl⟩ rfl rfl (Nat.le_of_ble_eq_true rfl) (Nat.le_of_ble_eq_true rfl) (Nat.le_of_ble_eq_true rfl) g1 rfl (t_186 e227) ?_
              refine en_goto rfl ?_
              cases h
              exact en_vret rfl
          ·
            rcases gi h with ⟨c7, h⟩ | ⟨c7, h⟩
            · refine en_tab_i (t := 158) (by rw [c7]; decide) (by rw [c7]; rfl) rfl ?_
              refine en_aload rfl rfl ?_
              refine en_aload rfl rfl ?_
              refine ec_getI (ci := 10) (j := 50) ⟨rfl, rfl, rfl⟩ g1 rfl ?_
              refine ec_iconst cst_3 rfl ?_
              rcases gi h with ⟨c228, h⟩ | ⟨c228, h⟩
              · refine en_icmp_ne_t c228 rfl ?_
                refine ec_iconst cst_0 rfl ?_
                obtain ⟨⟨q229, C230⟩, e231, h⟩ := gb h
                dsimp only at h
                refine ec_callV0 (k' := 186) (n := 2) (rc := 10) (a := a0) (as := [.int (0 : Int32)]) ⟨rfl, rfl⟩ rfl rfl (Nat.le_of_ble_eq_true rfl) (Nat.le_of_ble_eq_true rfl) (Nat.le_of_ble_eq_true rfl) g1 rfl (t_186 e231) ?_
                refine en_goto rfl ?_
                cases h
                exact en_vret rfl
              · refine en_icmp_ne_f c228 rfl ?_
                refine ec_iconst cst_1 rfl ?_
                refine en_goto rfl ?_
                obtain ⟨⟨q232, C233⟩, e234, h⟩ := gb h
                dsimp only at h
                refine ec_callV0 (k' := 186) (n := 2) (rc := 10) (a := a0) (as := [.int (1 : Int32)]) ⟨rfl, rfl⟩ rfl rfl (Nat.le_of_ble_eq_true rfl) (Nat.le_of_ble_eq_true rfl) (Nat.le_of_ble_eq_true rfl) g1 rfl (t_186 e234) ?_
                refine en_goto rfl ?_
                cases h
                exact en_vret rfl
            ·
              rcases gi h with ⟨c8, h⟩ | ⟨c8, h⟩
              · refine en_tab_i (t := 168) (by rw [c8]; decide) (by rw [c8]; rfl) rfl ?_
                refine en_aload rfl rfl ?_
                obtain ⟨⟨q235, C236⟩, e237, h⟩ := gb h
                dsimp only at h
                refine ec_callV0 (k' := 183) (n := 1) (rc := 10) (a := a0) (as := []) ⟨rfl, rfl⟩ rfl rfl (Nat.le_of_ble_eq_true rfl) (Nat.le_of_ble_eq_true rfl) (Nat.le_of_ble_eq_true rfl) g1 rfl (t_183 e237) ?_
                refine en_goto rfl ?_
                cases h
                exact en_vret rfl
              ·
                rcases gi h with ⟨c9, h⟩ | ⟨c9, h⟩
                · refine en_tab_i (t := 168) (by rw [c9]; decide) (by rw [c9]; rfl) rfl ?_
                  refine en_aload rfl rfl ?_
                  obtain ⟨⟨q238, C239⟩, e240, h⟩ := gb h
                  dsimp only at h
                  refine ec_callV0 (k' := 183) (n := 1) (rc := 10) (a := a0) (as := []) ⟨rfl, rfl⟩ rfl rfl (Nat.le_of_ble_eq_true rfl) (Nat.le_of_ble_eq_true rfl) (Nat.le_of_ble_eq_true rfl) g1 rfl (t_183 e240) ?_
                  refine en_goto rfl ?_
                  cases h
                  exact en_vret rfl
                ·
                  rcases gi h with ⟨c10, h⟩ | ⟨c10, h⟩
                  · refine en_tab_i (t := 168) (by rw [c10]; decide) (by rw [c10]; rfl) rfl ?_
                    refine en_aload rfl rfl ?_
                    obtain ⟨⟨q241, C242⟩, e243, h⟩ := gb h
                    dsimp only at h
                    refine ec_callV0 (k' := 183) (n := 1) (rc := 10) (a := a0) (as := []) ⟨rfl, rfl⟩ rfl rfl (Nat.le_of_ble_eq_true rfl) (Nat.le_of_ble_eq_true rfl) (Nat.le_of_ble_eq_true rfl) g1 rfl (t_183 e243) ?_
                    refine en_goto rfl ?_
                    cases h
                    exact en_vret rfl
                  ·
                    rcases gi h with ⟨c11, h⟩ | ⟨c11, h⟩
                    · refine en_tab_i (t := 168) (by rw [c11]; decide) (by rw [c11]; rfl) rfl ?_
                      refine en_aload rfl rfl ?_
                      obtain ⟨⟨q244, C245⟩, e246, h⟩ := gb h
                      dsimp only at h
                      refine ec_callV0 (k' := 183) (n := 1) (rc := 10) (a := a0) (as := []) ⟨rfl, rfl⟩ rfl rfl (Nat.le_of_ble_eq_true rfl) (Nat.le_of_ble_eq_true rfl) (Nat.le_of_ble_eq_true rfl) g1 rfl (t_183 e246) ?_
                      refine en_goto rfl ?_
                      cases h
                      exact en_vret rfl
                    ·
                      refine en_tab_o (by have z0 := ne_toInt c3 (v := 0) (by decide); have z1 := ne_toInt c4 (v := 1) (by decide); have z2 := ne_toInt c5 (v := 2) (by decide); have z3 := ne_toInt c6 (v := 3) (by decide); have z4 := ne_toInt c7 (v := 4) (by decide); have z5 := ne_toInt c8 (v := 5) (by decide); have z6 := ne_toInt c9 (v := 6) (by decide); have z7 := ne_toInt c10 (v := 7) (by decide); have z8 := ne_toInt c11 (v := 8) (by decide); omega) rfl ?_
                      refine en_aload rfl rfl ?_
                      refine ec_iconst cst_0 rfl ?_
                      refine ec_iconst cst_1 rfl ?_
                      obtain ⟨⟨q247, C248⟩, e249, h⟩ := gb h
                      dsimp only at h
                      refine ec_callV1 (k' := 170) (n := 3) (rc := 10) (a := a0) (as := [.int (0 : Int32), .int (1 : Int32)]) ⟨rfl, rfl⟩ rfl rfl (Nat.le_of_ble_eq_true rfl) (Nat.le_of_ble_eq_true rfl) (Nat.le_of_ble_eq_true rfl) g1 rfl (t_170 e249) ?_
                      refine en_pop rfl rfl ?_
                      cases h
                      exact en_vret rfl
  · refine en_icmp_ne_f c2 rfl ?_
    refine en_aload rfl rfl ?_
    refine ec_getI (ci := 10) (j := 50) ⟨rfl, rfl, rfl⟩ g1 rfl ?_
    refine en_goto rfl ?_
    rcases gi h with ⟨c250, h⟩ | ⟨c250, h⟩
    · refine en_tab_i (t := 9) (by rw [c250]; decide) (by rw [c250]; rfl) rfl ?_
      refine en_aload rfl rfl ?_
      refine en_aload rfl rfl ?_
      refine ec_getI (ci := 10) (j := 54) ⟨rfl, rfl, rfl⟩ g1 rfl ?_
      rcases gi h with ⟨c259, h⟩ | ⟨c259, h⟩
      · refine en_if_ne_t c259 rfl ?_
        refine ec_iconst cst_0 rfl ?_
        refine ec_iconst cst_4 rfl ?_
        obtain ⟨⟨q260, C261⟩, e262, h⟩ := gb h
        dsimp only at h
        refine ec_callV1 (k' := 170) (n := 3) (rc := 10) (a := a0) (as := [.int (0 : Int32), .int (4 : Int32)]) ⟨rfl, rfl⟩ rfl rfl (Nat.le_of_ble_eq_true rfl) (Nat.le_of_ble_eq_true rfl) (Nat.le_of_ble_eq_true rfl) g1 rfl (t_170 e262) ?_
        rcases gi h with ⟨c263, h⟩ | ⟨c263, h⟩
        · refine en_if_ne_t c263 rfl ?_
          refine en_aload rfl rfl ?_
          obtain ⟨⟨q264, C265⟩, e266, h⟩ := gb h
          dsimp only at h
          refine ec_callV0 (k' := 169) (n := 1) (rc := 10) (a := a0) (as := []) ⟨rfl, rfl⟩ rfl rfl (Nat.le_of_ble_eq_true rfl) (Nat.le_of_ble_eq_true rfl) (Nat.le_of_ble_eq_true rfl) g1 rfl (t_169 e266) ?_
          refine en_aload rfl rfl ?_
          refine en_aload rfl rfl ?_
          refine ec_getI (ci := 10) (j := 48) ⟨rfl, rfl, rfl⟩ g1 rfl ?_
          refine ec_iconst cst_2 rfl ?_
          rcases gi h with ⟨c267, h⟩ | ⟨c267, h⟩
          · refine en_icmp_ne_t c267 rfl ?_
            refine ec_iconst cst_0 rfl ?_
            refine ec_iconst cst_1 rfl ?_
            obtain ⟨⟨q268, C269⟩, e270, h⟩ := gb h
            dsimp only at h
            refine ec_callV1 (k' := 170) (n := 3) (rc := 10) (a := a0) (as := [.int (0 : Int32), .int (1 : Int32)]) ⟨rfl, rfl⟩ rfl rfl (Nat.le_of_ble_eq_true rfl) (Nat.le_of_ble_eq_true rfl) (Nat.le_of_ble_eq_true rfl) g1 rfl (t_170 e270) ?_
            rcases gi h with ⟨c271, h⟩ | ⟨c271, h⟩
            · refine en_if_eq_t c271 rfl ?_
              cases h
              exact en_vret rfl
            · refine en_if_eq_f c271 rfl ?_
              refine en_aload rfl rfl ?_
              refine en_aload rfl rfl ?_
              refine ec_getI (ci := 10) (j := 49) ⟨rfl, rfl, rfl⟩ g1 rfl ?_
              refine ec_iconst cst_1 rfl ?_
              refine ec_iconst cst_4 rfl ?_
              obtain ⟨⟨q272, C273⟩, e274, h⟩ := gb h
              dsimp only at h
              refine ec_callS1 (k' := 163) (n := 3) (as := [.int (cI C269 a0 49), .int (1 : Int32), .int (4 : Int32)]) rfl rfl rfl (Nat.le_of_ble_eq_true rfl) (Nat.le_of_ble_eq_true rfl) (Nat.le_of_ble_eq_true rfl) rfl (t_163 e274) ?_
              refine ec_iconst cst_2 rfl ?_
              obtain ⟨⟨q275, C276⟩, e277, h⟩ := gb h
              dsimp only at h
              refine ec_callV1 (k' := 170) (n := 3) (rc := 10) (a := a0) (as := [.int q272, .int (2 : Int32)]) ⟨rfl, rfl⟩ rfl rfl (Nat.le_of_ble_eq_true rfl) (Nat.le_of_ble_eq_true rfl) (Nat.le_of_ble_eq_true rfl) g1 rfl (t_170 e277) ?_
              rcases gi h with ⟨c278, h⟩ | ⟨c278, h⟩
              · refine en_if_ne_t c278 rfl ?_
                refine en_aload rfl rfl ?_
                obtain ⟨r279, e280, h⟩ := gb h
                refine ec_getP (ci := 10) (j := 21) ⟨rfl, rfl, rfl⟩ g1 e280 rfl ?_
                refine en_aload rfl rfl ?_
                refine ec_getI (ci := 10) (j := 41) ⟨rfl, rfl, rfl⟩ g1 rfl ?_
                refine en_aload rfl rfl ?_
                refine ec_getI (ci := 10) (j := 49) ⟨rfl, rfl, rfl⟩ g1 rfl ?_
                obtain ⟨g281, h⟩ := gd h
                obtain ⟨g282, h⟩ := gd h
                refine ec_iastore g281 g282 rfl ?_
                refine en_aload rfl rfl ?_
                obtain ⟨⟨q283, C284⟩, e285, h⟩ := gb h
                dsimp only at h
                refine ec_callV0 (k' := 169) (n := 1) (rc := 10) (a := a0) (as := []) ⟨rfl, rfl⟩ rfl rfl (Nat.le_of_ble_eq_true rfl) (Nat.le_of_ble_eq_true rfl) (Nat.le_of_ble_eq_true rfl) g1 rfl (t_169 e285) ?_
                refine en_goto rfl ?_
                cases h
                exact en_vret rfl
              · refine en_if_ne_f c278 rfl ?_
                cases h
                exact en_vret rfl
          · refine en_icmp_ne_f c267 rfl ?_
            refine ec_iconst cst_1 rfl ?_
            refine en_goto rfl ?_
            refine ec_iconst cst_1 rfl ?_
            obtain ⟨⟨q286, C287⟩, e288, h⟩ := gb h
            dsimp only at h
            refine ec_callV1 (k' := 170) (n := 3) (rc := 10) (a := a0) (as := [.int (1 : Int32), .int (1 : Int32)]) ⟨rfl, rfl⟩ rfl rfl (Nat.le_of_ble_eq_true rfl) (Nat.le_of_ble_eq_true rfl) (Nat.le_of_ble_eq_true rfl) g1 rfl (t_170 e288) ?_
            rcases gi h with ⟨c289, h⟩ | ⟨c289, h⟩
            · refine en_if_eq_t c289 rfl ?_
              cases h
              exact en_vret rfl
            · refine en_if_eq_f c289 rfl ?_
              refine en_aload rfl rfl ?_
              refine en_aload rfl rfl ?_
              refine ec_getI (ci := 10) (j := 49) ⟨rfl, rfl, rfl⟩ g1 rfl ?_
              refine ec_iconst cst_1 rfl ?_
              refine ec_iconst cst_4 rfl ?_
              obtain ⟨⟨q290, C291⟩, e292, h⟩ := gb h
              dsimp only at h
              refine ec_callS1 (k' := 163) (n := 3) (as := [.int (cI C287 a0 49), .int (1 : Int32), .int (4 : Int32)]) rfl rfl rfl (Nat.le_of_ble_eq_true rfl) (Nat.le_of_ble_eq_true rfl) (Nat.le_of_ble_eq_true rfl) rfl (t_163 e292) ?_
              refine ec_iconst cst_2 rfl ?_
              obtain ⟨⟨q293, C294⟩, e295, h⟩ := gb h
              dsimp only at h
              refine ec_callV1 (k' := 170) (n := 3) (rc := 10) (a := a0) (as := [.int q290, .int (2 : Int32)]) ⟨rfl, rfl⟩ rfl rfl (Nat.le_of_ble_eq_true rfl) (Nat.le_of_ble_eq_true rfl) (Nat.le_of_ble_eq_true rfl) g1 rfl (t_170 e295) ?_
              rcases gi h with ⟨c296, h⟩ | ⟨c296, h⟩
              · refine en_if_ne_t c296 rfl ?_
                refine en_aload rfl rfl ?_
                obtain ⟨r297, e298, h⟩ := gb h
                refine ec_getP (ci := 10) (j := 21) ⟨rfl, rfl, rfl⟩ g1 e298 rfl ?_
                refine en_aload rfl rfl ?_
                refine ec_getI (ci := 10) (j := 41) ⟨rfl, rfl, rfl⟩ g1 rfl ?_
                refine en_aload rfl rfl ?_
                refine ec_getI (ci := 10) (j := 49) ⟨rfl, rfl, rfl⟩ g1 rfl ?_
                obtain ⟨g299, h⟩ := gd h
                obtain ⟨g300, h⟩ := gd h
                refine ec_iastore g299 g300 rfl ?_
                refine en_aload rfl rfl ?_
                obtain ⟨⟨q301, C302⟩, e303, h⟩ := gb h
                dsimp only at h
                refine ec_callV0 (k' := 169) (n := 1) (rc := 10) (a := a0) (as := []) ⟨rfl, rfl⟩ rfl rfl (Nat.le_of_ble_eq_true rfl) (Nat.le_of_ble_eq_true rfl) (Nat.le_of_ble_eq_true rfl) g1 rfl (t_169 e303) ?_
                refine en_goto rfl ?_
                cases h
                exact en_vret rfl
              · refine en_if_ne_f c296 rfl ?_
                cases h
                exact en_vret rfl
        · refine en_if_ne_f c263 rfl ?_
          cases h
          exact en_vret rfl
      · refine en_if_ne_f c259 rfl ?_
        refine ec_iconst cst_1 rfl ?_
        refine en_goto rfl ?_
        refine ec_iconst cst_4 rfl ?_
        obtain ⟨⟨q304, C305⟩, e306, h⟩ := gb h
        dsimp only at h
        refine ec_callV1 (k' := 170) (n := 3) (rc := 10) (a := a0) (as := [.int (1 : Int32), .int (4 : Int32)]) ⟨rfl, rfl⟩ rfl rfl (Nat.le_of_ble_eq_true rfl) (Nat.le_of_ble_eq_true rfl) (Nat.le_of_ble_eq_true rfl) g1 rfl (t_170 e306) ?_
        rcases gi h with ⟨c307, h⟩ | ⟨c307, h⟩
        · refine en_if_ne_t c307 rfl ?_
          refine en_aload rfl rfl ?_
          obtain ⟨⟨q308, C309⟩, e310, h⟩ := gb h
          dsimp only at h
          refine ec_callV0 (k' := 169) (n := 1) (rc := 10) (a := a0) (as := []) ⟨rfl, rfl⟩ rfl rfl (Nat.le_of_ble_eq_true rfl) (Nat.le_of_ble_eq_true rfl) (Nat.le_of_ble_eq_true rfl) g1 rfl (t_169 e310) ?_
          refine en_aload rfl rfl ?_
          refine en_aload rfl rfl ?_
          refine ec_getI (ci := 10) (j := 48) ⟨rfl, rfl, rfl⟩ g1 rfl ?_
          refine ec_iconst cst_2 rfl ?_
          rcases gi h with ⟨c311, h⟩ | ⟨c311, h⟩
          · refine en_icmp_ne_t c311 rfl ?_
            refine ec_iconst cst_0 rfl ?_
            refine ec_iconst cst_1 rfl ?_
            obtain ⟨⟨q312, C313⟩, e314, h⟩ := gb h
            dsimp only at h
            refine ec_callV1 (k' := 170) (n := 3) (rc := 10) (a := a0) (as := [.int (0 : Int32), .int (1 : Int32)]) ⟨rfl, rfl⟩ rfl rfl (Nat.le_of_ble_eq_true rfl) (Nat.le_of_ble_eq_true rfl) (Nat.le_of_ble_eq_true rfl) g1 rfl (t_170 e314) ?_
            rcases gi h with ⟨c315, h⟩ | ⟨c315, h⟩
            · refine en_if_eq_t c315 rfl ?_
              cases h
              exact en_vret rfl
            · refine en_if_eq_f c315 rfl ?_
              refine en_aload rfl rfl ?_
              refine en_aload rfl rfl ?_
              refine ec_getI (ci := 10) (j := 49) ⟨rfl, rfl, rfl⟩ g1 rfl ?_
              refine ec_iconst cst_1 rfl ?_
              refine ec_iconst cst_4 rfl ?_
              obtain ⟨⟨q316, C317⟩, e318, h⟩ := gb h
              dsimp only at h
              refine ec_callS1 (k' := 163) (n := 3) (as := [.int (cI C313 a0 49), .int (1 : Int32), .int (4 : Int32)]) rfl rfl rfl (Nat.le_of_ble_eq_true rfl) (Nat.le_of_ble_eq_true rfl) (Nat.le_of_ble_eq_true rfl) rfl (t_163 e318) ?_
              refine ec_iconst cst_2 rfl ?_
              obtain ⟨⟨q319, C320⟩, e321, h⟩ := gb h
              dsimp only at h
              refine ec_callV1 (k' := 170) (n := 3) (rc := 10) (a := a0) (as := [.int q316, .int (2 : Int32)]) ⟨rfl, rfl⟩ rfl rfl (Nat.le_of_ble_eq_true rfl) (Nat.le_of_ble_eq_true rfl) (Nat.le_of_ble_eq_true rfl) g1 rfl (t_170 e321) ?_
              rcases gi h with ⟨c322, h⟩ | ⟨c322, h⟩
              · refine en_if_ne_t c322 rfl ?_
                refine en_aload rfl rfl ?_
                obtain ⟨r323, e324, h⟩ := gb h
                refine ec_getP (ci := 10) (j := 21) ⟨rfl, rfl, rfl⟩ g1 e324 rfl ?_
                refine en_aload rfl rfl ?_
                refine ec_getI (ci := 10) (j := 41) ⟨rfl, rfl, rfl⟩ g1 rfl ?_
                refine en_aload rfl rfl ?_
                refine ec_getI (ci := 10) (j := 49) ⟨rfl, rfl, rfl⟩ g1 rfl ?_
                obtain ⟨g325, h⟩ := gd h
                obtain ⟨g326, h⟩ := gd h
                refine ec_iastore g325 g326 rfl ?_
                refine en_aload rfl rfl ?_
                obtain ⟨⟨q327, C328⟩, e329, h⟩ := gb h
                dsimp only at h
                refine ec_callV0 (k' := 169) (n := 1) (rc := 10) (a := a0) (as := []) ⟨rfl, rfl⟩ rfl rfl (Nat.le_of_ble_eq_true rfl) (Nat.le_of_ble_eq_true rfl) (Nat.le_of_ble_eq_true rfl) g1 rfl (t_169 e329) ?_
                refine en_goto rfl ?_
                cases h
                exact en_vret rfl
              · refine en_if_ne_f c322 rfl ?_
                cases h
                exact en_vret rfl
          · refine en_icmp_ne_f c311 rfl ?_
            refine ec_iconst cst_1 rfl ?_
            refine en_goto rfl ?_
            refine ec_iconst cst_1 rfl ?_
            obtain ⟨⟨q330, C331⟩, e332, h⟩ := gb h
            dsimp only at h
            refine ec_callV1 (k' := 170) (n := 3) (rc := 10) (a := a0) (as := [.int (1 : Int32), .int (1 : Int32)]) ⟨rfl, rfl⟩ rfl rfl (Nat.le_of_ble_eq_true rfl) (Nat.le_of_ble_eq_true rfl) (Nat.le_of_ble_eq_true rfl) g1 rfl (t_170 e332) ?_
            rcases gi h with ⟨c333, h⟩ | ⟨c333, h⟩
            · refine en_if_eq_t c333 rfl ?_
              cases h
              exact en_vret rfl
            · refine en_if_eq_f c333 rfl ?_
              refine en_aload rfl rfl ?_
              refine en_aload rfl rfl ?_
              refine ec_getI (ci := 10) (j := 49) ⟨rfl, rfl, rfl⟩ g1 rfl ?_
              refine ec_iconst cst_1 rfl ?_
              refine ec_iconst cst_4 rfl ?_
              obtain ⟨⟨q334, C335⟩, e336, h⟩ := gb h
              dsimp only at h
              refine ec_callS1 (k' := 163) (n := 3) (as := [.int (cI C331 a0 49), .int (1 : Int32), .int (4 : Int32)]) rfl rfl rfl (Nat.le_of_ble_eq_true rfl) (Nat.le_of_ble_eq_true rfl) (Nat.le_of_ble_eq_true rfl) rfl (t_163 e336) ?_
              refine ec_iconst cst_2 rfl ?_
              obtain ⟨⟨q337, C338⟩, e339, h⟩ := gb h
              dsimp only at h
              refine ec_callV1 (k' := 170) (n := 3) (rc := 10) (a := a0) (as := [.int q334, .int (2 : Int32)]) ⟨rfl, rfl⟩ rfl rfl (Nat.le_of_ble_eq_true rfl) (Nat.le_of_ble_eq_true rfl) (Nat.le_of_ble_eq_true rfl) g1 rfl (t_170 e339) ?_
              rcases gi h with ⟨c340, h⟩ | ⟨c340, h⟩
              · refine en_if_ne_t c340 rfl ?_
                refine en_aload rfl rfl ?_
                obtain ⟨r341, e342, h⟩ := gb h
                refine ec_getP (ci := 10) (j := 21) ⟨rfl, rfl, rfl⟩ g1 e342 rfl ?_
                refine en_aload rfl rfl ?_
                refine ec_getI (ci := 10) (j := 41) ⟨rfl, rfl, rfl⟩ g1 rfl ?_
                refine en_aload rfl rfl ?_
                refine ec_getI (ci := 10) (j := 49) ⟨rfl, rfl, rfl⟩ g1 rfl ?_
                obtain ⟨g343, h⟩ := gd h
                obtain ⟨g344, h⟩ := gd h
                refine ec_iastore g343 g344 rfl ?_
                refine en_aload rfl rfl ?_
                obtain ⟨⟨q345, C346⟩, e347, h⟩ := gb h
                dsimp only at h
                refine ec_callV0 (k' := 169) (n := 1) (rc := 10) (a := a0) (as := []) ⟨rfl, rfl⟩ rfl rfl (Nat.le_of_ble_eq_true rfl) (Nat.le_of_ble_eq_true rfl) (Nat.le_of_ble_eq_true rfl) g1 rfl (t_169 e347) ?_
                refine en_goto rfl ?_
                cases h
                exact en_vret rfl
              · refine en_if_ne_f c340 rfl ?_
                cases h
                exact en_vret rfl
        · refine en_if_ne_f c307 rfl ?_
          cases h
          exact en_vret rfl
    ·
      rcases gi h with ⟨c251, h⟩ | ⟨c251, h⟩
      · refine en_tab_i (t := 53) (by rw [c251]; decide) (by rw [c251]; rfl) rfl ?_
        refine en_aload rfl rfl ?_
        refine en_aload rfl rfl ?_
        refine ec_getI (ci := 10) (j := 53) ⟨rfl, rfl, rfl⟩ g1 rfl ?_
        refine ec_iconst cst_30 rfl ?_
        rcases gi h with ⟨c348, h⟩ | ⟨c348, h⟩
        · refine en_icmp_ge_t c348 rfl ?_
          refine ec_iconst cst_0 rfl ?_
          refine ec_iconst cst_2 rfl ?_
          obtain ⟨⟨q349, C350⟩, e351, h⟩ := gb h
          dsimp only at h
          refine ec_callV1 (k' := 170) (n := 3) (rc := 10) (a := a0) (as := [.int (0 : Int32), .int (2 : Int32)]) ⟨rfl, rfl⟩ rfl rfl (Nat.le_of_ble_eq_true rfl) (Nat.le_of_ble_eq_true rfl) (Nat.le_of_ble_eq_true rfl) g1 rfl (t_170 e351) ?_
          rcases gi h with ⟨c352, h⟩ | ⟨c352, h⟩
          · refine en_if_ne_t c352 rfl ?_
            refine en_aload rfl rfl ?_
            obtain ⟨⟨q353, C354⟩, e355, h⟩ := gb h
            dsimp only at h
            refine ec_callV0 (k' := 169) (n := 1) (rc := 10) (a := a0) (as := []) ⟨rfl, rfl⟩ rfl rfl (Nat.le_of_ble_eq_true rfl) (Nat.le_of_ble_eq_true rfl) (Nat.le_of_ble_eq_true rfl) g1 rfl (t_169 e355) ?_
            refine en_aload rfl rfl ?_
            refine en_aload rfl rfl ?_
            obtain ⟨r356, e357, h⟩ := gb h
            refine ec_getP (ci := 10) (j := 52) ⟨rfl, rfl, rfl⟩ g1 e357 rfl ?_
            refine ec_iconst cst_30 rfl ?_
            refine ec_iconst cst_4 rfl ?_
            refine en_aload rfl rfl ?_
            refine ec_getI (ci := 10) (j := 53) ⟨rfl, rfl, rfl⟩ g1 rfl ?_
            refine en_imul rfl ?_
            refine en_iadd rfl ?_
            obtain ⟨⟨q358, C359⟩, e360, h⟩ := gb h
            dsimp only at h
            refine ec_callV0 (k' := 185) (n := 3) (rc := 10) (a := a0) (as := [.ref r356, .int ((30 : Int32) + ((4 : Int32) * (cI C354 a0 53)))]) ⟨rfl, rfl⟩ rfl rfl (Nat.le_of_ble_eq_true rfl) (Nat.le_of_ble_eq_true rfl) (Nat.le_of_ble_eq_true rfl) g1 rfl (t_185 e360) ?_
            refine en_aload rfl rfl ?_
            refine ec_getI (ci := 10) (j := 51) ⟨rfl, rfl, rfl⟩ g1 rfl ?_
            rcases gi h with ⟨c361, h⟩ | ⟨c361, h⟩
            · refine en_if_eq_t c361 rfl ?_
              refine en_aload rfl rfl ?_
              obtain ⟨r362, e363, h⟩ := gb h
              refine ec_getP (ci := 10) (j := 52) ⟨rfl, rfl, rfl⟩ g1 e363 rfl ?_
              refine en_aload rfl rfl ?_
              refine ec_getI (ci := 10) (j := 53) ⟨rfl, rfl, rfl⟩ g1 rfl ?_
              refine ec_iconst cst_1 rfl ?_
              obtain ⟨g364, h⟩ := gd h
              obtain ⟨g365, h⟩ := gd h
              refine ec_iastore g364 g365 rfl ?_
              refine en_aload rfl rfl ?_
              refine en_dup rfl rfl ?_
              refine ec_getI (ci := 10) (j := 53) ⟨rfl, rfl, rfl⟩ g1 rfl ?_
              refine ec_iconst cst_1 rfl ?_
              refine en_iadd rfl ?_
              refine ec_putI (ci := 10) (j := 53) ⟨rfl, rfl, rfl⟩ g1 rfl ?_
              refine en_aload rfl rfl ?_
              refine en_aload rfl rfl ?_
              refine ec_iconst cst_59 rfl ?_
              obtain ⟨⟨q366, C367⟩, e368, h⟩ := gb h
              dsimp only at h
              refine ec_callV1 (k' := 172) (n := 2) (rc := 10) (a := a0) (as := [.int (59 : Int32)]) ⟨rfl, rfl⟩ rfl rfl (Nat.le_of_ble_eq_true rfl) (Nat.le_of_ble_eq_true rfl) (Nat.le_of_ble_eq_true rfl) g1 rfl (t_172 e368) ?_
              rcases gi h with ⟨c369, h⟩ | ⟨c369, h⟩
              · refine en_if_eq_t c369 rfl ?_
                refine ec_iconst cst_1 rfl ?_
                refine en_goto rfl ?_
                refine ec_iconst cst_4 rfl ?_
                obtain ⟨⟨q370, C371⟩, e372, h⟩ := gb h
                dsimp only at h
                refine ec_callV1 (k' := 170) (n := 3) (rc := 10) (a := a0) (as := [.int (1 : Int32), .int (4 : Int32)]) ⟨rfl, rfl⟩ rfl rfl (Nat.le_of_ble_eq_true rfl) (Nat.le_of_ble_eq_true rfl) (Nat.le_of_ble_eq_true rfl) g1 rfl (t_170 e372) ?_
                refine en_pop rfl rfl ?_
                refine en_goto rfl ?_
                cases h
                exact en_vret rfl
              · refine en_if_eq_f c369 rfl ?_
                refine en_aload rfl rfl ?_
                refine en_aload rfl rfl ?_
                obtain ⟨r373, e374, h⟩ := gb h
                refine ec_getP (ci := 10) (j := 52) ⟨rfl, rfl, rfl⟩ g1 e374 rfl ?_
                refine ec_iconst cst_0 rfl ?_
                refine ec_iconst cst_30 rfl ?_
                refine en_aload rfl rfl ?_
                refine ec_getI (ci := 10) (j := 41) ⟨rfl, rfl, rfl⟩ g1 rfl ?_
                obtain ⟨⟨q375, C376⟩, e377, h⟩ := gb h
                dsimp only at h
                refine ec_callV1 (k' := 192) (n := 5) (rc := 10) (a := a0) (as := [.ref r373, .int (0 : Int32), .int (30 : Int32), .int (cI C367 a0 41)]) ⟨rfl, rfl⟩ rfl rfl (Nat.le_of_ble_eq_true rfl) (Nat.le_of_ble_eq_true rfl) (Nat.le_of_ble_eq_true rfl) g1 rfl (t_192 e377) ?_
                refine ec_iconst cst_m1 rfl ?_
                rcases gi h with ⟨c378, h⟩ | ⟨c378, h⟩
                · refine en_icmp_ne_t c378 rfl ?_
                  refine ec_iconst cst_0 rfl ?_
                  refine ec_iconst cst_4 rfl ?_
                  obtain ⟨⟨q379, C380⟩, e381, h⟩ := gb h
                  dsimp only at h
                  refine ec_callV1 (k' := 170) (n := 3) (rc := 10) (a := a0) (as := [.int (0 : Int32), .int (4 : Int32)]) ⟨rfl, rfl⟩ rfl rfl (Nat.le_of_ble_eq_true rfl) (Nat.le_of_ble_eq_true rfl) (Nat.le_of_ble_eq_true rfl) g1 rfl (t_170 e381) ?_
                  refine en_pop rfl rfl ?_
                  refine en_goto rfl ?_
                  cases h
                  exact en_vret rfl
                · refine en_icmp_ne_f c378 rfl ?_
                  refine ec_iconst cst_1 rfl ?_
                  refine en_goto rfl ?_
                  refine ec_iconst cst_4 rfl ?_
                  obtain ⟨⟨q382, C383⟩, e384, h⟩ := gb h
                  dsimp only at h
                  refine ec_callV1 (k' := 170) (n := 3) (rc := 10) (a := a0) (as := [.int (1 : Int32), .int (4 : Int32)]) ⟨rfl, rfl⟩ rfl rfl (Nat.le_of_ble_eq_true rfl) (Nat.le_of_ble_eq_true rfl) (Nat.le_of_ble_eq_true rfl) g1 rfl (t_170 e384) ?_
                  refine en_pop rfl rfl ?_
                  refine en_goto rfl ?_
                  cases h
                  exact en_vret rfl
            · refine en_if_eq_f c361 rfl ?_
              cases h
              exact en_vret rfl
          · refine en_if_ne_f c352 rfl ?_
            cases h
            exact en_vret rfl
        · refine en_icmp_ge_f c348 rfl ?_
          refine ec_iconst cst_1 rfl ?_
          refine en_goto rfl ?_
          refine ec_iconst cst_2 rfl ?_
          obtain ⟨⟨q385, C386⟩, e387, h⟩ := gb h
          dsimp only at h
          refine ec_callV1 (k' := 170) (n := 3) (rc := 10) (a := a0) (as := [.int (1 : Int32), .int (2 : Int32)]) ⟨rfl, rfl⟩ rfl rfl (Nat.le_of_ble_eq_true rfl) (Nat.le_of_ble_eq_true rfl) (Nat.le_of_ble_eq_true rfl) g1 rfl (t_170 e387) ?_
          rcases gi h with ⟨c388, h⟩ | ⟨c388, h⟩
          · refine en_if_ne_t c388 rfl ?_
            refine en_aload rfl rfl ?_
            obtain ⟨⟨q389, C390⟩, e391, h⟩ := gb h
            dsimp only at h
            refine ec_callV0 (k' := 169) (n := 1) (rc := 10) (a := a0) (as := []) ⟨rfl, rfl⟩ rfl rfl (Nat.le_of_ble_eq_true rfl) (Nat.le_of_ble_eq_true rfl) (Nat.le_of_ble_eq_true rfl) g1 rfl (t_169 e391) ?_
            refine en_aload rfl rfl ?_
            refine en_aload rfl rfl ?_
            obtain ⟨r392, e393, h⟩ := gb h
            refine ec_getP (ci := 10) (j := 52) ⟨rfl, rfl, rfl⟩ g1 e393 rfl ?_
            refine ec_iconst cst_30 rfl ?_
            refine ec_iconst cst_4 rfl ?_
            refine en_aload rfl rfl ?_
            refine ec_getI (ci := 10) (j := 53) ⟨rfl, rfl, rfl⟩ g1 rfl ?_
            refine en_imul rfl ?_
            refine en_iadd rfl ?_
            obtain ⟨⟨q394, C395⟩, e396, h⟩ := gb h
            dsimp only at h
            refine ec_callV0 (k' := 185) (n := 3) (rc := 10) (a := a0) (as := [.ref r392, .int ((30 : Int32) + ((4 : Int32) * (cI C390 a0 53)))]) ⟨rfl, rfl⟩ rfl rfl (Nat.le_of_ble_eq_true rfl) (Nat.le_of_ble_eq_true rfl) (Nat.le_of_ble_eq_true rfl) g1 rfl (t_185 e396) ?_
            refine en_aload rfl rfl ?_
            refine ec_getI (ci := 10) (j := 51) ⟨rfl, rfl, rfl⟩ g1 rfl ?_
            rcases gi h with ⟨c397, h⟩ | ⟨c397, h⟩
            · refine en_if_eq_t c397 rfl ?_
              refine en_aload rfl rfl ?_
              obtain ⟨r398, e399, h⟩ := gb h
              refine ec_getP (ci := 10) (j := 52) ⟨rfl, rfl, rfl⟩ g1 e399 rfl ?_
              refine en_aload rfl rfl ?_
              refine ec_getI (ci := 10) (j := 53) ⟨rfl, rfl, rfl⟩ g1 rfl ?_
              refine ec_iconst cst_1 rfl ?_
              obtain ⟨g400, h⟩ := gd h
              obtain ⟨g401, h⟩ := gd h
              refine ec_iastore g400 g401 rfl ?_
              refine en_aload rfl rfl ?_
              refine en_dup rfl rfl ?_
              refine ec_getI (ci := 10) (j := 53) ⟨rfl, rfl, rfl⟩ g1 rfl ?_
              refine ec_iconst cst_1 rfl ?_
              refine en_iadd rfl ?_
              refine ec_putI (ci := 10) (j := 53) ⟨rfl, rfl, rfl⟩ g1 rfl ?_
              refine en_aload rfl rfl ?_
              refine en_aload rfl rfl ?_
              refine ec_iconst cst_59 rfl ?_
              obtain ⟨⟨q402, C403⟩, e404, h⟩ := gb h
              dsimp only at h
              refine ec_callV1 (k' := 172) (n := 2) (rc := 10) (a := a0) (as := [.int (59 : Int32)]) ⟨rfl, rfl⟩ rfl rfl (Nat.le_of_ble_eq_true rfl) (Nat.le_of_ble_eq_true rfl) (Nat.le_of_ble_eq_true rfl) g1 rfl (t_172 e404) ?_
              rcases gi h with ⟨c405, h⟩ | ⟨c405, h⟩
              · refine en_if_eq_t c405 rfl ?_
                refine ec_iconst cst_1 rfl ?_
                refine en_goto rfl ?_
                refine ec_iconst cst_4 rfl ?_
                obtain ⟨⟨q406, C407⟩, e408, h⟩ := gb h
                dsimp only at h
                refine ec_callV1 (k' := 170) (n := 3) (rc := 10) (a := a0) (as := [.int (1 : Int32), .int (4 : Int32)]) ⟨rfl, rfl⟩ rfl rfl (Nat.le_of_ble_eq_true rfl) (Nat.le_of_ble_eq_true rfl) (Nat.le_of_ble_eq_true rfl) g1 rfl (t_170 e408) ?_
                refine en_pop rfl rfl ?_
                refine en_goto rfl ?_
                cases h
                exact en_vret rfl
              · refine en_if_eq_f c405 rfl ?_
                refine en_aload rfl rfl ?_
                refine en_aload rfl rfl ?_
                obtain ⟨r409, e410, h⟩ := gb h
                refine ec_getP (ci := 10) (j := 52) ⟨rfl, rfl, rfl⟩ g1 e410 rfl ?_
                refine ec_iconst cst_0 rfl ?_
                refine ec_iconst cst_30 rfl ?_
                refine en_aload rfl rfl ?_
                refine ec_getI (ci := 10) (j := 41) ⟨rfl, rfl, rfl⟩ g1 rfl ?_
                obtain ⟨⟨q411, C412⟩, e413, h⟩ := gb h
                dsimp only at h
                refine ec_callV1 (k' := 192) (n := 5) (rc := 10) (a := a0) (as := [.ref r409, .int (0 : Int32), .int (30 : Int32), .int (cI C403 a0 41)]) ⟨rfl, rfl⟩ rfl rfl (Nat.le_of_ble_eq_true rfl) (Nat.le_of_ble_eq_true rfl) (Nat.le_of_ble_eq_true rfl) g1 rfl (t_192 e413) ?_
                refine ec_iconst cst_m1 rfl ?_
                rcases gi h with ⟨c414, h⟩ | ⟨c414, h⟩
                · refine en_icmp_ne_t c414 rfl ?_
                  refine ec_iconst cst_0 rfl ?_
                  refine ec_iconst cst_4 rfl ?_
                  obtain ⟨⟨q415, C416⟩, e417, h⟩ := gb h
                  dsimp only at h
                  refine ec_callV1 (k' := 170) (n := 3) (rc := 10) (a := a0) (as := [.int (0 : Int32), .int (4 : Int32)]) ⟨rfl, rfl⟩ rfl rfl (Nat.le_of_ble_eq_true rfl) (Nat.le_of_ble_eq_true rfl) (Nat.le_of_ble_eq_true rfl) g1 rfl (t_170 e417) ?_
                  refine en_pop rfl rfl ?_
                  refine en_goto rfl ?_
                  cases h
                  exact en_vret rfl
                · refine en_icmp_ne_f c414 rfl ?_
                  refine ec_iconst cst_1 rfl ?_
                  refine en_goto rfl ?_
                  refine ec_iconst cst_4 rfl ?_
                  obtain ⟨⟨q418, C419⟩, e420, h⟩ := gb h
                  dsimp only at h
                  refine ec_callV1 (k' := 170) (n := 3) (rc := 10) (a := a0) (as := [.int (1 : Int32), .int (4 : Int32)]) ⟨rfl, rfl⟩ rfl rfl (Nat.le_of_ble_eq_true rfl) (Nat.le_of_ble_eq_true rfl) (Nat.le_of_ble_eq_true rfl) g1 rfl (t_170 e420) ?_
                  refine en_pop rfl rfl ?_
                  refine en_goto rfl ?_
                  cases h
                  exact en_vret rfl
            · refine en_if_eq_f c397 rfl ?_
              cases h
              exact en_vret rfl
          · refine en_if_ne_f c388 rfl ?_
            cases h
            exact en_vret rfl
      ·
        rcases gi h with ⟨c252, h⟩ | ⟨c252, h⟩
        · refine en_tab_i (t := 115) (by rw [c252]; decide) (by rw [c252]; rfl) rfl ?_
          refine en_aload rfl rfl ?_
          refine en_aload rfl rfl ?_
          obtain ⟨r421, e422, h⟩ := gb h
          refine ec_getP (ci := 10) (j := 24) ⟨rfl, rfl, rfl⟩ g1 e422 rfl ?_
          refine en_aload rfl rfl ?_
          refine ec_getI (ci := 10) (j := 41) ⟨rfl, rfl, rfl⟩ g1 rfl ?_
          obtain ⟨g423, h⟩ := gd h
          obtain ⟨g424, h⟩ := gd h
          refine ec_iaload g423 g424 rfl ?_
          refine ec_iconst cst_10 rfl ?_
          rcases gi h with ⟨c425, h⟩ | ⟨c425, h⟩
          · refine en_icmp_ge_t c425 rfl ?_
            refine ec_iconst cst_0 rfl ?_
            refine ec_iconst cst_2 rfl ?_
            obtain ⟨⟨q426, C427⟩, e428, h⟩ := gb h
            dsimp only at h
            refine ec_callV1 (k' := 170) (n := 3) (rc := 10) (a := a0) (as := [.int (0 : Int32), .int (2 : Int32)]) ⟨rfl, rfl⟩ rfl rfl (Nat.le_of_ble_eq_true rfl) (Nat.le_of_ble_eq_true rfl) (Nat.le_of_ble_eq_true rfl) g1 rfl (t_170 e428) ?_
            rcases gi h with ⟨c429, h⟩ | ⟨c429, h⟩
            · refine en_if_ne_t c429 rfl ?_
              refine en_aload rfl rfl ?_
              obtain ⟨⟨q430, C431⟩, e432, h⟩ := gb h
              dsimp only at h
              refine ec_callV0 (k' := 169) (n := 1) (rc := 10) (a := a0) (as := []) ⟨rfl, rfl⟩ rfl rfl (Nat.le_of_ble_eq_true rfl) (Nat.le_of_ble_eq_true rfl) (Nat.le_of_ble_eq_true rfl) g1 rfl (t_169 e432) ?_
              refine en_aload rfl rfl ?_
              refine en_aload rfl rfl ?_
              obtain ⟨r433, e434, h⟩ := gb h
              refine ec_getP (ci := 10) (j := 31) ⟨rfl, rfl, rfl⟩ g1 e434 rfl ?_
              refine ec_iconst cst_4 rfl ?_
              refine ec_iconst cst_10 rfl ?_
              refine en_aload rfl rfl ?_
              refine ec_getI (ci := 10) (j := 41) ⟨rfl, rfl, rfl⟩ g1 rfl ?_
              refine en_imul rfl ?_
              refine en_aload rfl rfl ?_
              obtain ⟨r435, e436, h⟩ := gb h
              refine ec_getP (ci := 10) (j := 24) ⟨rfl, rfl, rfl⟩ g1 e436 rfl ?_
              refine en_aload rfl rfl ?_
              refine ec_getI (ci := 10) (j := 41) ⟨rfl, rfl, rfl⟩ g1 rfl ?_
              obtain ⟨g437, h⟩ := gd h
              obtain ⟨g438, h⟩ := gd h
              refine ec_iaload g437 g438 rfl ?_
              refine en_iadd rfl ?_
              refine en_imul rfl ?_
              obtain ⟨⟨q439, C440⟩, e441, h⟩ := gb h
              dsimp only at h
              refine ec_callV0 (k' := 185) (n := 3) (rc := 10) (a := a0) (as := [.ref r433, .int ((4 : Int32) * (((10 : Int32) * (cI C431 a0 41)) + (cI C431 r435 (Int32.toNatClampNeg (cI C431 a0 41)))))]) ⟨rfl, rfl⟩ rfl rfl (Nat.le_of_ble_eq_true rfl) (Nat.le_of_ble_eq_true rfl) (Nat.le_of_ble_eq_true rfl) g1 rfl (t_185 e441) ?_
              refine en_aload rfl rfl ?_
              obtain ⟨r442, e443, h⟩ := gb h
              refine ec_getP (ci := 10) (j := 24) ⟨rfl, rfl, rfl⟩ g1 e443 rfl ?_
              refine en_aload rfl rfl ?_
              refine ec_getI (ci := 10) (j := 41) ⟨rfl, rfl, rfl⟩ g1 rfl ?_
              refine en_dup2 ⟨rfl, rfl⟩ rfl ?_
              obtain ⟨g444, h⟩ := gd h
              obtain ⟨g445, h⟩ := gd h
              refine ec_iaload g444 g445 rfl ?_
              refine ec_iconst cst_1 rfl ?_
              refine en_iadd rfl ?_
              obtain ⟨g446, h⟩ := gd h
              refine ec_iastore g444 g446 rfl ?_
              refine en_goto rfl ?_
              cases h
              exact en_vret rfl
            · refine en_if_ne_f c429 rfl ?_
              cases h
              exact en_vret rfl
          · refine en_icmp_ge_f c425 rfl ?_
            refine ec_iconst cst_1 rfl ?_
            refine en_goto rfl ?_
            refine ec_iconst cst_2 rfl ?_
            obtain ⟨⟨q447, C448⟩, e449, h⟩ := gb h
            dsimp only at h
            refine ec_callV1 (k' := 170) (n := 3) (rc := 10) (a := a0) (as := [.int (1 : Int32), .int (2 : Int32)]) ⟨rfl, rfl⟩ rfl rfl (Nat.le_of_ble_eq_true rfl) (Nat.le_of_ble_eq_true rfl) (Nat.le_of_ble_eq_true rfl) g1 rfl (t_170 e449) ?_
            rcases gi h with ⟨c450, h⟩ | ⟨c450, h⟩
            · refine en_if_ne_t c450 rfl ?_
              refine en_aload rfl rfl ?_
              obtain ⟨⟨q451, C452⟩, e453, h⟩ := gb h
              dsimp only at h
              refine ec_callV0 (k' := 169) (n := 1) (rc := 10) (a := a0) (as := []) ⟨rfl, rfl⟩ rfl rfl (Nat.le_of_ble_eq_true rfl) (Nat.le_of_ble_eq_true rfl) (Nat.le_of_ble_eq_true rfl) g1 rfl (t_169 e453) ?_
              refine en_aload rfl rfl ?_
              refine en_aload rfl rfl ?_
              obtain ⟨r454, e455, h⟩ := gb h
              refine ec_getP (ci := 10) (j := 31) ⟨rfl, rfl, rfl⟩ g1 e455 rfl ?_
              refine ec_iconst cst_4 rfl ?_
              refine ec_iconst cst_10 rfl ?_
              refine en_aload rfl rfl ?_
              refine ec_getI (ci := 10) (j := 41) ⟨rfl, rfl, rfl⟩ g1 rfl ?_
              refine en_imul rfl ?_
              refine en_aload rfl rfl ?_
              obtain ⟨r456, e457, h⟩ := gb h
              refine ec_getP (ci := 10) (j := 24) ⟨rfl, rfl, rfl⟩ g1 e457 rfl ?_
              refine en_aload rfl rfl ?_
              refine ec_getI (ci := 10) (j := 41) ⟨rfl, rfl, rfl⟩ g1 rfl ?_
              obtain ⟨g458, h⟩ := gd h
              obtain ⟨g459, h⟩ := gd h
              refine ec_iaload g458 g459 rfl ?_
              refine en_iadd rfl ?_
              refine en_imul rfl ?_
              obtain ⟨⟨q460, C461⟩, e462, h⟩ := gb h
              dsimp only at h
              refine ec_callV0 (k' := 185) (n := 3) (rc := 10) (a := a0) (as := [.ref r454, .int ((4 : Int32) * (((10 : Int32) * (cI C452 a0 41)) + (cI C452 r456 (Int32.toNatClampNeg (cI C452 a0 41)))))]) ⟨rfl, rfl⟩ rfl rfl (Nat.le_of_ble_eq_true rfl) (Nat.le_of_ble_eq_true rfl) (Nat.le_of_ble_eq_true rfl) g1 rfl (t_185 e462) ?_
              refine en_aload rfl rfl ?_
              obtain ⟨r463, e464, h⟩ := gb h
              refine ec_getP (ci := 10) (j := 24) ⟨rfl, rfl, rfl⟩ g1 e464 rfl ?_
              refine en_aload rfl rfl ?_
              refine ec_getI (ci := 10) (j := 41) ⟨rfl, rfl, rfl⟩ g1 rfl ?_
              refine en_dup2 ⟨rfl, rfl⟩ rfl ?_
              obtain ⟨g465, h⟩ := gd h
              obtain ⟨g466, h⟩ := gd h
              refine ec_iaload g465 g466 rfl ?_
              refine ec_iconst cst_1 rfl ?_
              refine en_iadd rfl ?_
              obtain ⟨g467, h⟩ := gd h
              refine ec_iastore g465 g467 rfl ?_
              refine en_goto rfl ?_
              cases h
              exact en_vret rfl
            · refine en_if_ne_f c450 rfl ?_
              cases h
              exact en_vret rfl
        ·
          rcases gi h with ⟨c253, h⟩ | ⟨c253, h⟩
          · refine en_tab_i (t := 158) (by rw [c253]; decide) (by rw [c253]; rfl) rfl ?_
            refine en_aload rfl rfl ?_
            refine en_aload rfl rfl ?_
            refine ec_getI (ci := 10) (j := 50) ⟨rfl, rfl, rfl⟩ g1 rfl ?_
            refine ec_iconst cst_3 rfl ?_
            rcases gi h with ⟨c468, h⟩ | ⟨c468, h⟩
            · refine en_icmp_ne_t c468 rfl ?_
              refine ec_iconst cst_0 rfl ?_
              obtain ⟨⟨q469, C470⟩, e471, h⟩ := gb h
              dsimp only at h
              refine ec_callV0 (k' := 186) (n := 2) (rc := 10) (a := a0) (as := [.int (0 : Int32)]) ⟨rfl, rfl⟩ rfl rfl (Nat.le_of_ble_eq_true rfl) (Nat.le_of_ble_eq_true rfl) (Nat.le_of_ble_eq_true rfl) g1 rfl (t_186 e471) ?_
              refine en_goto rfl ?_
              cases h
              exact en_vret rfl
            · refine en_icmp_ne_f c468 rfl ?_
              refine ec_iconst cst_1 rfl ?_
              refine en_goto rfl ?_
              obtain ⟨⟨q472, C473⟩, e474, h⟩ := gb h
              dsimp only at h
              refine ec_callV0 (k' := 186) (n := 2) (rc := 10) (a := a0) (as := [.int (1 : Int32)]) ⟨rfl, rfl⟩ rfl rfl (Nat.le_of_ble_eq_true rfl) (Nat.le_of_ble_eq_true rfl) (Nat.le_of_ble_eq_true rfl) g1 rfl (t_186 e474) ?_
              refine en_goto rfl ?_
              cases h
              exact en_vret rfl
          ·
            rcases gi h with ⟨c254, h⟩ | ⟨c254, h⟩
            · refine en_tab_i (t := 158) (by rw [c254]; decide) (by rw [c254]; rfl) rfl ?_
              refine en_aload rfl rfl ?_
              refine en_aload rfl rfl ?_
              refine ec_getI (ci := 10) (j := 50) ⟨rfl, rfl, rfl⟩ g1 rfl ?_
              refine ec_iconst cst_3 rfl ?_
              rcases gi h with ⟨c475, h⟩ | ⟨c475, h⟩
              · refine en_icmp_ne_t c475 rfl ?_
                refine ec_iconst cst_0 rfl ?_
                obtain ⟨⟨q476, C477⟩, e478, h⟩ := gb h
                dsimp only at h
                refine ec_callV0 (k' := 186) (n := 2) (rc := 10) (a := a0) (as := [.int (0 : Int32)]) ⟨rfl, rfl⟩ rfl rfl (Nat.le_of_ble_eq_true rfl) (Nat.le_of_ble_eq_true rfl) (Nat.le_of_ble_eq_true rfl) g1 rfl (t_186 e478) ?_
                refine en_goto rfl ?_
                cases h
                exact en_vret rfl
              · refine en_icmp_ne_f c475 rfl ?_
                refine ec_iconst cst_1 rfl ?_
                refine en_goto rfl ?_
                obtain ⟨⟨q479, C480⟩, e481, h⟩ := gb h
                dsimp only at h
                refine ec_callV0 (k' := 186) (n := 2) (rc := 10) (a := a0) (as := [.int (1 : Int32)]) ⟨rfl, rfl⟩ rfl rfl (Nat.le_of_ble_eq_true rfl) (Nat.le_of_ble_eq_true rfl) (Nat.le_of_ble_eq_true rfl) g1 rfl (t_186 e481) ?_
                refine en_goto rfl ?_
                cases h
                exact en_vret rfl
            ·
              rcases gi h with ⟨c255, h⟩ | ⟨c255, h⟩
              · refine en_tab_i (t := 168) (by rw [c255]; decide) (by rw [c255]; rfl) rfl ?_
                refine en_aload rfl rfl ?_
                obtain ⟨⟨q482, C483⟩, e484, h⟩ := gb h
                dsimp only at h
                refine ec_callV0 (k' := 183) (n := 1) (rc := 10) (a := a0) (as := []) ⟨rfl, rfl⟩ rfl rfl (Nat.le_of_ble_eq_true rfl) (Nat.le_of_ble_eq_true rfl) (Nat.le_of_ble_eq_true rfl) g1 rfl (t_183 e484) ?_
                refine en_goto rfl ?_
                cases h
                exact en_vret rfl
              ·
                rcases gi h with ⟨c256, h⟩ | ⟨c256, h⟩
                · refine en_tab_i (t := 168) (by rw [c256]; decide) (by rw [c256]; rfl) rfl ?_
                  refine en_aload rfl rfl ?_
                  obtain ⟨⟨q485, C486⟩, e487, h⟩ := gb h
                  dsimp only at h
                  refine ec_callV0 (k' := 183) (n := 1) (rc := 10) (a := a0) (as := []) ⟨rfl, rfl⟩ rfl rfl (Nat.le_of_ble_eq_true rfl) (Nat.le_of_ble_eq_true rfl) (Nat.le_of_ble_eq_true rfl) g1 rfl (t_183 e487) ?_
                  refine en_goto rfl ?_
                  cases h
                  exact en_vret rfl
                ·
                  rcases gi h with ⟨c257, h⟩ | ⟨c257, h⟩
                  · refine en_tab_i (t := 168) (by rw [c257]; decide) (by rw [c257]; rfl) rfl ?_
                    refine en_aload rfl rfl ?_
                    obtain ⟨⟨q488, C489⟩, e490, h⟩ := gb h
                    dsimp only at h
                    refine ec_callV0 (k' := 183) (n := 1) (rc := 10) (a := a0) (as := []) ⟨rfl, rfl⟩ rfl rfl (Nat.le_of_ble_eq_true rfl) (Nat.le_of_ble_eq_true rfl) (Nat.le_of_ble_eq_true rfl) g1 rfl (t_183 e490) ?_
                    refine en_goto rfl ?_
                    cases h
                    exact en_vret rfl
                  ·
                    rcases gi h with ⟨c258, h⟩ | ⟨c258, h⟩
                    · refine en_tab_i (t := 168) (by rw [c258]; decide) (by rw [c258]; rfl) rfl ?_
                      refine en_aload rfl rfl ?_
                      obtain ⟨⟨q491, C492⟩, e493, h⟩ := gb h
                      dsimp only at h
                      refine ec_callV0 (k' := 183) (n := 1) (rc := 10) (a := a0) (as := []) ⟨rfl, rfl⟩ rfl rfl (Nat.le_of_ble_eq_true rfl) (Nat.le_of_ble_eq_true rfl) (Nat.le_of_ble_eq_true rfl) g1 rfl (t_183 e493) ?_
                      refine en_goto rfl ?_
                      cases h
                      exact en_vret rfl
                    ·
                      refine en_tab_o (by have z0 := ne_toInt c250 (v := 0) (by decide); have z1 := ne_toInt c251 (v := 1) (by decide); have z2 := ne_toInt c252 (v := 2) (by decide); have z3 := ne_toInt c253 (v := 3) (by decide); have z4 := ne_toInt c254 (v := 4) (by decide); have z5 := ne_toInt c255 (v := 5) (by decide); have z6 := ne_toInt c256 (v := 6) (by decide); have z7 := ne_toInt c257 (v := 7) (by decide); have z8 := ne_toInt c258 (v := 8) (by decide); omega) rfl ?_
                      refine en_aload rfl rfl ?_
                      refine ec_iconst cst_0 rfl ?_
                      refine ec_iconst cst_1 rfl ?_
                      obtain ⟨⟨q494, C495⟩, e496, h⟩ := gb h
                      dsimp only at h
                      refine ec_callV1 (k' := 170) (n := 3) (rc := 10) (a := a0) (as := [.int (0 : Int32), .int (1 : Int32)]) ⟨rfl, rfl⟩ rfl rfl (Nat.le_of_ble_eq_true rfl) (Nat.le_of_ble_eq_true rfl) (Nat.le_of_ble_eq_true rfl) g1 rfl (t_170 e496) ?_
                      refine en_pop rfl rfl ?_
                      cases h
                      exact en_vret rfl
def lp_188_13 : Nat → Nat → Int32 → Int32 → Int32 → Int32 → Int32 → Int32 → AmC → Option (((Nat)) × AmC)
  | 0, _, _, _, _, _, _, _, _ => none
  | n + 1, p0, p1, p2, p3, p4, p5, p6, C => (if (20 : Int32) ≤ p6 then some (p0, C) else (if (4 : Int32) ≤ p6 then (if (8 : Int32) ≤ p6 then (if (12 : Int32) ≤ p6 then (if (16 : Int32) ≤ p6 then if isK p0 10 = true then (cP C p0 42).bind (fun r9 => if isK r9 12 = true then if amIn ((cI C p0 43) + p6) (aLen r9) = true then lp_188_13 n p0 p1 p2 p3 p4 p5 (p6 + (1 : Int32)) (uI C r9 (Int32.toNatClampNeg ((cI C p0 43) + p6)) ((p5 >>> (((24 : Int32) - ((8 : Int32) * (p6 - p6 / (4 : Int32) * (4 : Int32)))) &&& 31)) &&& (255 : Int32))) else none else none) else none else if isK p0 10 = true then (cP C p0 42).bind (fun r14 => if isK r14 12 = true then if amIn ((cI C p0 43) + p6) (aLen r14) = true then lp_188_13 n p0 p1 p2 p3 p4 p5 (p6 + (1 : Int32)) (uI C r14 (Int32.toNatClampNeg ((cI C p0 43) + p6)) ((p4 >>> (((24 : Int32) - ((8 : Int32) * (p6 - p6 / (4 : Int32) * (4 : Int32)))) &&& 31)) &&& (255 : Int32))) else none else none) else none) else if isK p0 10 = true then (cP C p0 42).bind (fun r19 => if isK r19 12 = true then if amIn ((cI C p0 43) + p6) (aLen r19) = true then lp_188_13 n p0 p1 p2 p3 p4 p5 (p6 + (1 : Int32)) (uI C r19 (Int32.toNatClampNeg ((cI C p0 43) + p6)) ((p3 >>> (((24 : Int32) - ((8 : Int32) * (p6 - p6 / (4 : Int32) * (4 : Int32)))) &&& 31)) &&& (255 : Int32))) else none else none) else none) else if isK p0 10 = true then (cP C p0 42).bind (fun r24 => if isK r24 12 = true then if amIn ((cI C p0 43) + p6) (aLen r24) = true then lp_188_13 n p0 p1 p2 p3 p4 p5 (p6 + (1 : Int32)) (uI C r24 (Int32.toNatClampNeg ((cI C p0 43) + p6)) ((p2 >>> (((24 : Int32) - ((8 : Int32) * (p6 - p6 / (4 : Int32) * (4 : Int32)))) &&& 31)) &&& (255 : Int32))) else none else none) else none) else if isK p0 10 = true then (cP C p0 42).bind (fun r29 => if isK r29 12 = true then if amIn ((cI C p0 43) + p6) (aLen r29) = true then lp_188_13 n p0 p1 p2 p3 p4 p5 (p6 + (1 : Int32)) (uI C r29 (Int32.toNatClampNeg ((cI C p0 43) + p6)) ((p1 >>> (((24 : Int32) - ((8 : Int32) * (p6 - p6 / (4 : Int32) * (4 : Int32)))) &&& 31)) &&& (255 : Int32))) else none else none) else none))
set_option maxRecDepth 20000 in
set_option maxHeartbeats 4000000 in
theorem lt_188_13 : ∀ (n : Nat) (p0 : Nat) (p1 : Int32) (p2 : Int32) (p3 : Int32) (p4 : Int32) (p5 : Int32) (p6 : Int32) (C : AmC) (r : ((Nat)) × AmC), lp_188_13 n p0 p1 p2 p3 p4 p5 p6 C = some r → ∀ (o : AmO) (M' : AmM), (match r with
        | (w0, C') => En false 188 58 [(0, .ref w0)] [] (mkM C') o M') → En false 188 13 [(0, .ref p0), (1, .int p1), (2, .int p2), (3, .int p3), (4, .int p4), (5, .int p5), (6, .int p6)] [] (mkM C) o M' := by
  intro n
  induction n with
  | zero => intro p0 p1 p2 p3 p4 p5 p6 C r h; cases h
  | succ n ih =>
    intro p0 p1 p2 p3 p4 p5 p6 C r h o M' hk
    unfold lp_188_13 at h
    refine en_iload rfl rfl ?_
    refine ec_iconst cst_20 rfl ?_
    rcases gi h with ⟨c3, h⟩ | ⟨c3, h⟩
    · refine en_icmp_ge_t c3 rfl ?_
      cases h
      exact en_sub [0] rfl rfl hk
    · refine en_icmp_ge_f c3 rfl ?_
      refine en_iload rfl rfl ?_
      refine ec_iconst cst_4 rfl ?_
      rcases gi h with ⟨c4, h⟩ | ⟨c4, h⟩
      · refine en_icmp_ge_t c4 rfl ?_
        refine en_iload rfl rfl ?_
        refine ec_iconst cst_8 rfl ?_
        rcases gi h with ⟨c5, h⟩ | ⟨c5, h⟩
        · refine en_icmp_ge_t c5 rfl ?_
          refine en_iload rfl rfl ?_
          refine ec_iconst cst_12 rfl ?_
          rcases gi h with ⟨c6, h⟩ | ⟨c6, h⟩
          · refine en_icmp_ge_t c6 rfl ?_
            refine en_iload rfl rfl ?_
            refine ec_iconst cst_16 rfl ?_
            rcases gi h with ⟨c7, h⟩ | ⟨c7, h⟩
            · refine en_icmp_ge_t c7 rfl ?_
              refine en_iload rfl rfl ?_
              refine en_istore (l' := [(7, .int p5), (0, .ref p0), (1, .int p1), (2, .int p2), (3, .int p3), (4, .int p4), (5, .int p5), (6, .int p6)]) rfl rfl ?_
              refine en_aload rfl rfl ?_
              obtain ⟨g8, h⟩ := gd h
              obtain ⟨r9, e10, h⟩ := gb h
              refine ec_getP (ci := 10) (j := 42) ⟨rfl, rfl, rfl⟩ g8 e10 rfl ?_
              refine en_aload rfl rfl ?_
              refine ec_getI (ci := 10) (j := 43) ⟨rfl, rfl, rfl⟩ g8 rfl ?_
              refine en_iload rfl rfl ?_
              refine en_iadd rfl ?_
              refine en_iload rfl rfl ?_
              refine ec_iconst cst_24 rfl ?_
              refine ec_iconst cst_8 rfl ?_
              refine en_iload rfl rfl ?_
              refine ec_iconst cst_4 rfl ?_
              refine en_irem (by decide) rfl ?_
              refine en_imul rfl ?_
              refine en_isub rfl ?_
              refine en_ishr rfl ?_
              refine ec_iconst cst_255 rfl ?_
              refine en_iand rfl ?_
              obtain ⟨g11, h⟩ := gd h
              obtain ⟨g12, h⟩ := gd h
              refine ec_iastore g11 g12 rfl ?_
              refine ec_iinc (l' := [(6, .int (p6 + (1 : Int32))), (7, .int p5), (0, .ref p0), (1, .int p1), (2, .int p2), (3, .int p3), (4, .int p4), (5, .int p5)]) rfl cst_1 rfl rfl ?_
              refine en_goto rfl ?_
              refine en_sub [2, 3, 4, 5, 6, 7, 0] rfl rfl ?_
              exact ih _ _ _ _ _ _ _ _ _ h o M' hk
            · refine en_icmp_ge_f c7 rfl ?_
              refine en_iload rfl rfl ?_
              refine en_goto rfl ?_
              refine en_istore (l' := [(7, .int p4), (0, .ref p0), (1, .int p1), (2, .int p2), (3, .int p3), (4, .int p4), (5, .int p5), (6, .int p6)]) rfl rfl ?_
              refine en_aload rfl rfl ?_
              obtain ⟨g13, h⟩ := gd h
              obtain ⟨r14, e15, h⟩ := gb h
              refine ec_getP (ci := 10) (j := 42) ⟨rfl, rfl, rfl⟩ g13 e15 rfl ?_
              refine en_aload rfl rfl ?_
              refine ec_getI (ci := 10) (j := 43) ⟨rfl, rfl, rfl⟩ g13 rfl ?_
              refine en_iload rfl rfl ?_
              refine en_iadd rfl ?_
              refine en_iload rfl rfl ?_
              refine ec_iconst cst_24 rfl ?_
              refine ec_iconst cst_8 rfl ?_
              refine en_iload rfl rfl ?_
              refine ec_iconst cst_4 rfl ?_
              refine en_irem (by decide) rfl ?_
              refine en_imul rfl ?_
              refine en_isub rfl ?_
              refine en_ishr rfl ?_
              refine ec_iconst cst_255 rfl ?_
              refine en_iand rfl ?_
              obtain ⟨g16, h⟩ := gd h
              obtain ⟨g17, h⟩ := gd h
              refine ec_iastore g16 g17 rfl ?_
              refine ec_iinc (l' := [(6, .int (p6 + (1 : Int32))), (7, .int p4), (0, .ref p0), (1, .int p1), (2, .int p2), (3, .int p3), (4, .int p4), (5, .int p5)]) rfl cst_1 rfl rfl ?_
              refine en_goto rfl ?_
              refine en_sub [2, 3, 4, 5, 6, 7, 0] rfl rfl ?_
              exact ih _ _ _ _ _ _ _ _ _ h o M' hk
          · refine en_icmp_ge_f c6 rfl ?_
            refine en_iload rfl rfl ?_
            refine en_goto rfl ?_
            refine en_istore (l' := [(7, .int p3), (0, .ref p0), (1, .int p1), (2, .int p2), (3, .int p3), (4, .int p4), (5, .int p5), (6, .int p6)]) rfl rfl ?_
            refine en_aload rfl rfl ?_
            obtain ⟨g18, h⟩ := gd h
            obtain ⟨r19, e20, h⟩ := gb h
            refine ec_getP (ci := 10) (j := 42) ⟨rfl, rfl, rfl⟩ g18 e20 rfl ?_
            refine en_aload rfl rfl ?_
            refine ec_getI (ci := 10) (j := 43) ⟨rfl, rfl, rfl⟩ g18 rfl ?_
            refine en_iload rfl rfl ?_
            refine en_iadd rfl ?_
            refine en_iload rfl rfl ?_
            refine ec_iconst cst_24 rfl ?_
            refine ec_iconst cst_8 rfl ?_
            refine en_iload rfl rfl ?_
            refine ec_iconst cst_4 rfl ?_
            refine en_irem (by decide) rfl ?_
            refine en_imul rfl ?_
            refine en_isub rfl ?_
            refine en_ishr rfl ?_
            refine ec_iconst cst_255 rfl ?_
            refine en_iand rfl ?_
            obtain ⟨g21, h⟩ := gd h
            obtain ⟨g22, h⟩ := gd h
            refine ec_iastore g21 g22 rfl ?_
            refine ec_iinc (l' := [(6, .int (p6 + (1 : Int32))), (7, .int p3), (0, .ref p0), (1, .int p1), (2, .int p2), (3, .int p3), (4, .int p4), (5, .int p5)]) rfl cst_1 rfl rfl ?_
            refine en_goto rfl ?_
            refine en_sub [2, 3, 4, 5, 6, 7, 0] rfl rfl ?_
            exact ih _ _ _ _ _ _ _ _ _ h o M' hk
        · refine en_icmp_ge_f c5 rfl ?_
          refine en_iload rfl rfl ?_
          refine en_goto rfl ?_
          refine en_istore (l' := [(7, .int p2), (0, .ref p0), (1, .int p1), (2, .int p2), (3, .int p3), (4, .int p4), (5, .int p5), (6, .int p6)]) rfl rfl ?_
          refine en_aload rfl rfl ?_
          obtain ⟨g23, h⟩ := gd h
          obtain ⟨r24, e25, h⟩ := gb h
          refine ec_getP (ci := 10) (j := 42) ⟨rfl, rfl, rfl⟩ g23 e25 rfl ?_
          refine en_aload rfl rfl ?_
          refine ec_getI (ci := 10) (j := 43) ⟨rfl, rfl, rfl⟩ g23 rfl ?_
          refine en_iload rfl rfl ?_
          refine en_iadd rfl ?_
          refine en_iload rfl rfl ?_
          refine ec_iconst cst_24 rfl ?_
          refine ec_iconst cst_8 rfl ?_
          refine en_iload rfl rfl ?_
          refine ec_iconst cst_4 rfl ?_
          refine en_irem (by decide) rfl ?_
          refine en_imul rfl ?_
          refine en_isub rfl ?_
          refine en_ishr rfl ?_
          refine ec_iconst cst_255 rfl ?_
          refine en_iand rfl ?_
          obtain ⟨g26, h⟩ := gd h
          obtain ⟨g27, h⟩ := gd h
          refine ec_iastore g26 g27 rfl ?_
          refine ec_iinc (l' := [(6, .int (p6 + (1 : Int32))), (7, .int p2), (0, .ref p0), (1, .int p1), (2, .int p2), (3, .int p3), (4, .int p4), (5, .int p5)]) rfl cst_1 rfl rfl ?_
          refine en_goto rfl ?_
          refine en_sub [2, 3, 4, 5, 6, 7, 0] rfl rfl ?_
          exact ih _ _ _ _ _ _ _ _ _ h o M' hk
      · refine en_icmp_ge_f c4 rfl ?_
        refine en_iload rfl rfl ?_
        refine en_goto rfl ?_
        refine en_istore (l' := [(7, .int p1), (0, .ref p0), (1, .int p1), (2, .int p2), (3, .int p3), (4, .int p4), (5, .int p5), (6, .int p6)]) rfl rfl ?_
        refine en_aload rfl rfl ?_
        obtain ⟨g28, h⟩ := gd h
        obtain ⟨r29, e30, h⟩ := gb h
        refine ec_getP (ci := 10) (j := 42) ⟨rfl, rfl, rfl⟩ g28 e30 rfl ?_
        refine en_aload rfl rfl ?_
        refine ec_getI (ci := 10) (j := 43) ⟨rfl, rfl, rfl⟩ g28 rfl ?_
        refine en_iload rfl rfl ?_
        refine en_iadd rfl ?_
        refine en_iload rfl rfl ?_
        refine ec_iconst cst_24 rfl ?_
        refine ec_iconst cst_8 rfl ?_
        refine en_iload rfl rfl ?_
        refine ec_iconst cst_4 rfl ?_
        refine en_irem (by decide) rfl ?_
        refine en_imul rfl ?_
        refine en_isub rfl ?_
        refine en_ishr rfl ?_
        refine ec_iconst cst_255 rfl ?_
        refine en_iand rfl ?_
        obtain ⟨g31, h⟩ := gd h
        obtain ⟨g32, h⟩ := gd h
        refine ec_iastore g31 g32 rfl ?_
        refine ec_iinc (l' := [(6, .int (p6 + (1 : Int32))), (7, .int p1), (0, .ref p0), (1, .int p1), (2, .int p2), (3, .int p3), (4, .int p4), (5, .int p5)]) rfl cst_1 rfl rfl ?_
        refine en_goto rfl ?_
        refine en_sub [2, 3, 4, 5, 6, 7, 0] rfl rfl ?_
        exact ih _ _ _ _ _ _ _ _ _ h o M' hk
/-- BulkWriterModel.feed(IIIII)I -/
def f_188 (n : Nat) (a0 : Nat) (a1 : Int32) (a2 : Int32) (a3 : Int32) (a4 : Int32) (a5 : Int32) (C : AmC) : Option (Int32 × AmC) := if isK a0 10 = true then (if ((cI (uI C a0 5 (0 : Int32)) a0 43) + (20 : Int32)) ≤ (900 : Int32) then (lp_188_13 n a0 a1 a2 a3 a4 a5 (0 : Int32) (uI C a0 5 (0 : Int32))).bind (fun q => match q with | (u36, C35) => if isK u36 10 = true then some ((cI (uI C35 u36 43 ((cI C35 u36 43) + (20 : Int32))) u36 43), uI C35 u36 43 ((cI C35 u36 43) + (20 : Int32))) else none) else some ((-1 : Int32), uI C a0 5 (0 : Int32))) else none
set_option maxRecDepth 20000 in
set_option maxHeartbeats 4000000 in
theorem t_188 {n : Nat} {a0 : Nat} {a1 : Int32} {a2 : Int32} {a3 : Int32} {a4 : Int32} {a5 : Int32} {C : AmC} {r : Int32} {C' : AmC} (h : f_188 n a0 a1 a2 a3 a4 a5 C = some (r, C')) : En false 188 0 [(0, .ref a0), (1, .int a1), (2, .int a2), (3, .int a3), (4, .int a4), (5, .int a5)] [] (mkM C) (.inl (some (.int r))) (mkM C') := by
  unfold f_188 at h
  refine en_aload rfl rfl ?_
  refine ec_iconst cst_0 rfl ?_
  obtain ⟨g1, h⟩ := gd h
  refine ec_putI (ci := 10) (j := 5) ⟨rfl, rfl, rfl⟩ g1 rfl ?_
  refine en_aload rfl rfl ?_
  refine ec_getI (ci := 10) (j := 43) ⟨rfl, rfl, rfl⟩ g1 rfl ?_
  refine ec_iconst cst_20 rfl ?_
  refine en_iadd rfl ?_
  refine ec_iconst cst_900 rfl ?_
  rcases gi h with ⟨c2, h⟩ | ⟨c2, h⟩
  · refine en_icmp_le_t c2 rfl ?_
    refine ec_iconst cst_0 rfl ?_
    refine en_istore (l' := [(6, .int (0 : Int32)), (0, .ref a0), (1, .int a1), (2, .int a2), (3, .int a3), (4, .int a4), (5, .int a5)]) rfl rfl ?_
    obtain ⟨⟨q33, C35⟩, e34, h⟩ := gb h
    refine en_sub [1, 2, 3, 4, 5, 6, 0] rfl rfl (lt_188_13 n _ _ _ _ _ _ _ _ _ e34 _ _ ?_)
    revert h e34; revert q33; intro u36 e34 h
    dsimp only at h ⊢
    refine en_aload rfl rfl ?_
    refine en_dup rfl rfl ?_
    obtain ⟨g37, h⟩ := gd h
    refine ec_getI (ci := 10) (j := 43) ⟨rfl, rfl, rfl⟩ g37 rfl ?_
    refine ec_iconst cst_20 rfl ?_
    refine en_iadd rfl ?_
    refine ec_putI (ci := 10) (j := 43) ⟨rfl, rfl, rfl⟩ g37 rfl ?_
    refine en_aload rfl rfl ?_
    refine ec_getI (ci := 10) (j := 43) ⟨rfl, rfl, rfl⟩ g37 rfl ?_
    cases h
    exact en_iret rfl
  · refine en_icmp_le_f c2 rfl ?_
    refine ec_iconst cst_m1 rfl ?_
    cases h
    exact en_iret rfl
def lp_189_45 : Nat → Nat → Int32 → AmC → Option (((Nat)) × AmC)
  | 0, _, _, _ => none
  | n + 1, p0, p2, C => (if (150 : Int32) ≤ p2 then some (p0, C) else if isK p0 10 = true then (cP C p0 52).bind (fun r12 => if isK r12 12 = true then if amIn p2 (aLen r12) = true then lp_189_45 n p0 (p2 + (1 : Int32)) (uI C r12 (Int32.toNatClampNeg p2) (0 : Int32)) else none else none) else none)
set_option maxRecDepth 20000 in
set_option maxHeartbeats 4000000 in
theorem lt_189_45 : ∀ (n : Nat) (p0 : Nat) (p2 : Int32) (C : AmC) (r : ((Nat)) × AmC), lp_189_45 n p0 p2 C = some r → ∀ (o : AmO) (M' : AmM), (match r with
        | (w0, C') => En false 189 55 [(0, .ref w0)] [] (mkM C') o M') → En false 189 45 [(0, .ref p0), (2, .int p2)] [] (mkM C) o M' := by
  intro n
  induction n with
  | zero => intro p0 p2 C r h; cases h
  | succ n ih =>
    intro p0 p2 C r h o M' hk
    unfold lp_189_45 at h
    refine en_iload rfl rfl ?_
    refine ec_iconst cst_150 rfl ?_
    rcases gi h with ⟨c10, h⟩ | ⟨c10, h⟩
    · refine en_icmp_ge_t c10 rfl ?_
      cases h
      exact en_sub [0] rfl rfl hk
    · refine en_icmp_ge_f c10 rfl ?_
      refine en_aload rfl rfl ?_
      obtain ⟨g11, h⟩ := gd h
      obtain ⟨r12, e13, h⟩ := gb h
      refine ec_getP (ci := 10) (j := 52) ⟨rfl, rfl, rfl⟩ g11 e13 rfl ?_
      refine en_iload rfl rfl ?_
      refine ec_iconst cst_0 rfl ?_
      obtain ⟨g14, h⟩ := gd h
      obtain ⟨g15, h⟩ := gd h
      refine ec_iastore g14 g15 rfl ?_
      refine ec_iinc (l' := [(2, .int (p2 + (1 : Int32))), (0, .ref p0)]) rfl cst_1 rfl rfl ?_
      refine en_goto rfl ?_
      refine en_sub [1, 0] rfl rfl ?_
      exact ih _ _ _ _ h o M' hk
def lp_189_63 : Nat → Nat → AmC → Option (((Nat)) × AmC)
  | 0, _, _ => none
  | n + 1, p0, C => if isK p0 10 = true then (if ¬ (cI C p0 51) = 0 then some (p0, C) else (if (cI C p0 48) = 0 then some (p0, C) else (f_187 n p0 C).bind (fun z => match z with | (_, C28) => (if ¬ (cI (uI C28 p0 54 ((cI C28 p0 54) + (1 : Int32))) p0 51) = 0 then lp_189_63 n p0 (uI C28 p0 54 ((cI C28 p0 54) + (1 : Int32))) else (f_173 n p0 (59 : Int32) (uI C28 p0 54 ((cI C28 p0 54) + (1 : Int32)))).bind (fun z => match z with | (_, C32) => lp_189_63 n p0 C32))))) else none
set_option maxRecDepth 20000 in
set_option maxHeartbeats 4000000 in
theorem lt_189_63 : ∀ (n : Nat) (p0 : Nat) (C : AmC) (r : ((Nat)) × AmC), lp_189_63 n p0 C = some r → ∀ (o : AmO) (M' : AmM), (match r with
        | (w0, C') => En false 189 84 [(0, .ref w0)] [] (mkM C') o M') → En false 189 63 [(0, .ref p0)] [] (mkM C) o M' := by
  intro n
  induction n with
  | zero => intro p0 C r h; cases h
  | succ n ih =>
    intro p0 C r h o M' hk
    unfold lp_189_63 at h
    refine en_aload rfl rfl ?_
    obtain ⟨g24, h⟩ := gd h
    refine ec_getI (ci := 10) (j := 51) ⟨rfl, rfl, rfl⟩ g24 rfl ?_
    rcases gi h with ⟨c25, h⟩ | ⟨c25, h⟩
    · refine en_if_ne_t c25 rfl ?_
      cases h
      exact en_sub [0] rfl rfl hk
    · refine en_if_ne_f c25 rfl ?_
      refine en_aload rfl rfl ?_
      refine ec_getI (ci := 10) (j := 48) ⟨rfl, rfl, rfl⟩ g24 rfl ?_
      rcases gi h with ⟨c26, h⟩ | ⟨c26, h⟩
      · refine en_if_eq_t c26 rfl ?_
        cases h
        exact en_sub [0] rfl rfl hk
      · refine en_if_eq_f c26 rfl ?_
        refine en_aload rfl rfl ?_
        obtain ⟨⟨q27, C28⟩, e29, h⟩ := gb h
        dsimp only at h
        refine ec_callV0 (k' := 187) (n := 1) (rc := 10) (a := p0) (as := []) ⟨rfl, rfl⟩ rfl rfl (Nat.le_of_ble_eq_true rfl) (Nat.le_of_ble_eq_true rfl) (Nat.le_of_ble_eq_true rfl) g24 rfl (t_187 e29) ?_
        refine en_aload rfl rfl ?_
        refine en_dup rfl rfl ?_
        refine ec_getI (ci := 10) (j := 54) ⟨rfl, rfl, rfl⟩ g24 rfl ?_
        refine ec_iconst cst_1 rfl ?_
        refine en_iadd rfl ?_
        refine ec_putI (ci := 10) (j := 54) ⟨rfl, rfl, rfl⟩ g24 rfl ?_
        refine en_aload rfl rfl ?_
        refine ec_getI (ci := 10) (j := 51) ⟨rfl, rfl, rfl⟩ g24 rfl ?_
        rcases gi h with ⟨c30, h⟩ | ⟨c30, h⟩
        · refine en_if_ne_t c30 rfl ?_
          refine en_sub [0] rfl rfl ?_
          exact ih _ _ _ h o M' hk
        · refine en_if_ne_f c30 rfl ?_
          refine en_aload rfl rfl ?_
          refine ec_iconst cst_59 rfl ?_
          obtain ⟨⟨q31, C32⟩, e33, h⟩ := gb h
          dsimp only at h
          refine ec_callV0 (k' := 173) (n := 2) (rc := 10) (a := p0) (as := [.int (59 : Int32)]) ⟨rfl, rfl⟩ rfl rfl (Nat.le_of_ble_eq_true rfl) (Nat.le_of_ble_eq_true rfl) (Nat.le_of_ble_eq_true rfl) g24 rfl (t_173 e33) ?_
          refine en_goto rfl ?_
          refine en_sub [0] rfl rfl ?_
          exact ih _ _ _ h o M' hk
def lp_189_104 : Nat → Nat → Int32 → AmC → Option (((Nat)) × AmC)
  | 0, _, _, _ => none
  | n + 1, p0, p2, C => (if (150 : Int32) ≤ p2 then some (p0, C) else if isK p0 10 = true then (cP C p0 0).bind (fun r42 => (cP C p0 52).bind (fun r44 => if isK r44 12 = true then if amIn p2 (aLen r44) = true then if isK r42 12 = true then if amIn p2 (aLen r42) = true then lp_189_104 n p0 (p2 + (1 : Int32)) (uI C r42 (Int32.toNatClampNeg p2) (cI C r44 (Int32.toNatClampNeg p2))) else none else none else none else none)) else none)
set_option maxRecDepth 20000 in
set_option maxHeartbeats 4000000 in
theorem lt_189_104 : ∀ (n : Nat) (p0 : Nat) (p2 : Int32) (C : AmC) (r : ((Nat)) × AmC), lp_189_104 n p0 p2 C = some r → ∀ (o : AmO) (M' : AmM), (match r with
        | (w0, C') => En false 189 117 [(0, .ref w0)] [] (mkM C') o M') → En false 189 104 [(0, .ref p0), (2, .int p2)] [] (mkM C) o M' := by
  intro n
  induction n with
  | zero => intro p0 p2 C r h; cases h
  | succ n ih =>
    intro p0 p2 C r h o M' hk
    unfold lp_189_104 at h
    refine en_iload rfl rfl ?_
    refine ec_iconst cst_150 rfl ?_
    rcases gi h with ⟨c40, h⟩ | ⟨c40, h⟩
    · refine en_icmp_ge_t c40 rfl ?_
      cases h
      exact en_sub [0] rfl rfl hk
    · refine en_icmp_ge_f c40 rfl ?_
      refine en_aload rfl rfl ?_
      obtain ⟨g41, h⟩ := gd h
      obtain ⟨r42, e43, h⟩ := gb h
      refine ec_getP (ci := 10) (j := 0) ⟨rfl, rfl, rfl⟩ g41 e43 rfl ?_
      refine en_iload rfl rfl ?_
      refine en_aload rfl rfl ?_
      obtain ⟨r44, e45, h⟩ := gb h
      refine ec_getP (ci := 10) (j := 52) ⟨rfl, rfl, rfl⟩ g41 e45 rfl ?_
      refine en_iload rfl rfl ?_
      obtain ⟨g46, h⟩ := gd h
      obtain ⟨g47, h⟩ := gd h
      refine ec_iaload g46 g47 rfl ?_
      obtain ⟨g48, h⟩ := gd h
      obtain ⟨g49, h⟩ := gd h
      refine ec_iastore g48 g49 rfl ?_
      refine ec_iinc (l' := [(2, .int (p2 + (1 : Int32))), (0, .ref p0)]) rfl cst_1 rfl rfl ?_
      refine en_goto rfl ?_
      refine en_sub [1, 0] rfl rfl ?_
      exact ih _ _ _ _ h o M' hk
/-- BulkWriterModel.table(I)I -/
def f_189 (n : Nat) (a0 : Nat) (a1 : Int32) (C : AmC) : Option (Int32 × AmC) := if isK a0 10 = true then (if a1 < 0 then (f_162 n a0 (0 : Int32) (1 : Int32) (uI C a0 5 (0 : Int32))).bind (fun z => match z with | (q3, C4) => (if ¬ q3 = 0 then (f_160 n a0 (cI (uI (uI (uI (uI (uI (uI C4 a0 43 (0 : Int32)) a0 47 a1) a0 45 (0 : Int32)) a0 51 (0 : Int32)) a0 44 (-1 : Int32)) a0 41 ((1 : Int32) - (cI (uI (uI (uI (uI (uI C4 a0 43 (0 : Int32)) a0 47 a1) a0 45 (0 : Int32)) a0 51 (0 : Int32)) a0 44 (-1 : Int32)) a0 40))) a0 41) (uI (uI (uI (uI (uI (uI C4 a0 43 (0 : Int32)) a0 47 a1) a0 45 (0 : Int32)) a0 51 (0 : Int32)) a0 44 (-1 : Int32)) a0 41 ((1 : Int32) - (cI (uI (uI (uI (uI (uI C4 a0 43 (0 : Int32)) a0 47 a1) a0 45 (0 : Int32)) a0 51 (0 : Int32)) a0 44 (-1 : Int32)) a0 40)))).bind (fun z => match z with | (_, C8) => (lp_189_45 n a0 (0 : Int32) C8).bind (fun q => match q with | (u19, C18) => if isK u19 10 = true then (f_169 n u19 (uI (uI C18 u19 54 (0 : Int32)) u19 53 (0 : Int32))).bind (fun z => match z with | (_, C22) => (lp_189_63 n u19 C22).bind (fun q => match q with | (u37, C36) => if isK u37 10 = true then (if (cI C36 u37 51) = 0 then (lp_189_104 n u37 (0 : Int32) (uI C36 u37 40 (cI C36 u37 41))).bind (fun q => match q with | (u53, C52) => if isK u53 10 = true then some ((0 : Int32), uI (uI (uI (uI C52 u53 12 (0 : Int32)) u53 8 (0 : Int32)) u53 7 (0 : Int32)) u53 6 (0 : Int32)) else none) else (cP C36 u37 4).bind (fun r55 => if isK r55 12 = true then if amIn (0 : Int32) (aLen r55) = true then if amIn (0 : Int32) (aLen r55) = true then some ((cI (uI C36 r55 (Int32.toNatClampNeg (0 : Int32)) ((cI C36 r55 (Int32.toNatClampNeg (0 : Int32))) + (1 : Int32))) u37 51), uI C36 r55 (Int32.toNatClampNeg (0 : Int32)) ((cI C36 r55 (Int32.toNatClampNeg (0 : Int32))) + (1 : Int32))) else none else none else none)) else none)) else none)) else some ((0 : Int32), C4))) else (if (cI (uI C a0 5 (0 : Int32)) a0 43) < a1 then (f_162 n a0 (0 : Int32) (1 : Int32) (uI C a0 5 (0 : Int32))).bind (fun z => match z with | (q61, C62) => (if ¬ q61 = 0 then (f_160 n a0 (cI (uI (uI (uI (uI (uI (uI C62 a0 43 (0 : Int32)) a0 47 a1) a0 45 (0 : Int32)) a0 51 (0 : Int32)) a0 44 (-1 : Int32)) a0 41 ((1 : Int32) - (cI (uI (uI (uI (uI (uI C62 a0 43 (0 : Int32)) a0 47 a1) a0 45 (0 : Int32)) a0 51 (0 : Int32)) a0 44 (-1 : Int32)) a0 40))) a0 41) (uI (uI (uI (uI (uI (uI C62 a0 43 (0 : Int32)) a0 47 a1) a0 45 (0 : Int32)) a0 51 (0 : Int32)) a0 44 (-1 : Int32)) a0 41 ((1 : Int32) - (cI (uI (uI (uI (uI (uI C62 a0 43 (0 : Int32)) a0 47 a1) a0 45 (0 : Int32)) a0 51 (0 : Int32)) a0 44 (-1 : Int32)) a0 40)))).bind (fun z => match z with | (_, C66) => (lp_189_45 n a0 (0 : Int32) C66).bind (fun q => match q with | (u71, C70) => if isK u71 10 = true then (f_169 n u71 (uI (uI C70 u71 54 (0 : Int32)) u71 53 (0 : Int32))).bind (fun z => match z with | (_, C74) => (lp_189_63 n u71 C74).bind (fun q => match q with | (u79, C78) => if isK u79 10 = true then (if (cI C78 u79 51) = 0 then (lp_189_104 n u79 (0 : Int32) (uI C78 u79 40 (cI C78 u79 41))).bind (fun q => match q with | (u85, C84) => if isK u85 10 = true then some ((0 : Int32), uI (uI (uI (uI C84 u85 12 (0 : Int32)) u85 8 (0 : Int32)) u85 7 (0 : Int32)) u85 6 (0 : Int32)) else none) else (cP C78 u79 4).bind (fun r87 => if isK r87 12 = true then if amIn (0 : Int32) (aLen r87) = true then if amIn (0 : Int32) (aLen r87) = true then some ((cI (uI C78 r87 (Int32.toNatClampNeg (0 : Int32)) ((cI C78 r87 (Int32.toNatClampNeg (0 : Int32))) + (1 : Int32))) u79 51), uI C78 r87 (Int32.toNatClampNeg (0 : Int32)) ((cI C78 r87 (Int32.toNatClampNeg (0 : Int32))) + (1 : Int32))) else none else none else none)) else none)) else none)) else some ((0 : Int32), C62))) else (f_162 n a0 (1 : Int32) (1 : Int32) (uI C a0 5 (0 : Int32))).bind (fun z => match z with | (q92, C93) => (if ¬ q92 = 0 then (f_160 n a0 (cI (uI (uI (uI (uI (uI (uI C93 a0 43 (0 : Int32)) a0 47 a1) a0 45 (0 : Int32)) a0 51 (0 : Int32)) a0 44 (-1 : Int32)) a0 41 ((1 : Int32) - (cI (uI (uI (uI (uI (uI C93 a0 43 (0 : Int32)) a0 47 a1) a0 45 (0 : Int32)) a0 51 (0 : Int32)) a0 44 (-1 : Int32)) a0 40))) a0 41) (uI (uI (uI (uI (uI (uI C93 a0 43 (0 : Int32)) a0 47 a1) a0 45 (0 : Int32)) a0 51 (0 : Int32)) a0 44 (-1 : Int32)) a0 41 ((1 : Int32) - (cI (uI (uI (uI (uI (uI C93 a0 43 (0 : Int32)) a0 47 a1) a0 45 (0 : Int32)) a0 51 (0 : Int32)) a0 44 (-1 : Int32)) a0 40)))).bind (fun z => match z with | (_, C97) => (lp_189_45 n a0 (0 : Int32) C97).bind (fun q => match q with | (u102, C101) => if isK u102 10 = true then (f_169 n u102 (uI (uI C101 u102 54 (0 : Int32)) u102 53 (0 : Int32))).bind (fun z => match z with | (_, C105) => (lp_189_63 n u102 C105).bind (fun q => match q with | (u110, C109) => if isK u110 10 = true then (if (cI C109 u110 51) = 0 then (lp_189_104 n u110 (0 : Int32) (uI C109 u110 40 (cI C109 u110 41))).bind (fun q => match q with | (u116, C115) => if isK u116 10 = true then some ((0 : Int32), uI (uI (uI (uI C115 u116 12 (0 : Int32)) u116 8 (0 : Int32)) u116 7 (0 : Int32)) u116 6 (0 : Int32)) else none) else (cP C109 u110 4).bind (fun r118 => if isK r118 12 = true then if amIn (0 : Int32) (aLen r118) = true then if amIn (0 : Int32) (aLen r118) = true then some ((cI (uI C109 r118 (Int32.toNatClampNeg (0 : Int32)) ((cI C109 r118 (Int32.toNatClampNeg (0 : Int32))) + (1 : Int32))) u110 51), uI C109 r118 (Int32.toNatClampNeg (0 : Int32)) ((cI C109 r118 (Int32.toNatClampNeg (0 : Int32))) + (1 : Int32))) else none else none else none)) else none)) else none)) else some ((0 : Int32), C93))))) else none
set_option maxRecDepth 20000 in
set_option maxHeartbeats 4000000 in
theorem t_189 {n : Nat} {a0 : Nat} {a1 : Int32} {C : AmC} {r : Int32} {C' : AmC} (h : f_189 n a0 a1 C = some (r, C')) : En false 189 0 [(0, .ref a0), (1, .int a1)] [] (mkM C) (.inl (some (.int r))) (mkM C') := by
  unfold f_189 at h
  refine en_aload rfl rfl ?_
  refine ec_iconst cst_0 rfl ?_
  obtain ⟨g1, h⟩ := gd h
  refine ec_putI (ci := 10) (j := 5) ⟨rfl, rfl, rfl⟩ g1 rfl ?_
  refine en_aload rfl rfl ?_
  refine en_iload rfl rfl ?_
  rcases gi h with ⟨c2, h⟩ | ⟨c2, h⟩
  · refine en_if_lt_t c2 rfl ?_
    refine ec_iconst cst_0 rfl ?_
    refine ec_iconst cst_1 rfl ?_
    obtain ⟨⟨q3, C4⟩, e5, h⟩ := gb h
    dsimp only at h
    refine ec_callV1 (k' := 162) (n := 3) (rc := 10) (a := a0) (as := [.int (0 : Int32), .int (1 : Int32)]) ⟨rfl, rfl⟩ rfl rfl (Nat.le_of_ble_eq_true rfl) (Nat.le_of_ble_eq_true rfl) (Nat.le_of_ble_eq_true rfl) g1 rfl (t_162 e5) ?_
    rcases gi h with ⟨c6, h⟩ | ⟨c6, h⟩
    · refine en_if_ne_t c6 rfl ?_
      refine en_aload rfl rfl ?_
      refine ec_iconst cst_0 rfl ?_
      refine ec_putI (ci := 10) (j := 43) ⟨rfl, rfl, rfl⟩ g1 rfl ?_
      refine en_aload rfl rfl ?_
      refine en_iload rfl rfl ?_
      refine ec_putI (ci := 10) (j := 47) ⟨rfl, rfl, rfl⟩ g1 rfl ?_
      refine en_aload rfl rfl ?_
      refine ec_iconst cst_0 rfl ?_
      refine ec_putI (ci := 10) (j := 45) ⟨rfl, rfl, rfl⟩ g1 rfl ?_
      refine en_aload rfl rfl ?_
      refine ec_iconst cst_0 rfl ?_
      refine ec_putI (ci := 10) (j := 51) ⟨rfl, rfl, rfl⟩ g1 rfl ?_
      refine en_aload rfl rfl ?_
      refine ec_iconst cst_m1 rfl ?_
      refine ec_putI (ci := 10) (j := 44) ⟨rfl, rfl, rfl⟩ g1 rfl ?_
      refine en_aload rfl rfl ?_
      refine ec_iconst cst_1 rfl ?_
      refine en_aload rfl rfl ?_
      refine ec_getI (ci := 10) (j := 40) ⟨rfl, rfl, rfl⟩ g1 rfl ?_
      refine en_isub rfl ?_
      refine ec_putI (ci := 10) (j := 41) ⟨rfl, rfl, rfl⟩ g1 rfl ?_
      refine en_aload rfl rfl ?_
      refine en_aload rfl rfl ?_
      refine ec_getI (ci := 10) (j := 41) ⟨rfl, rfl, rfl⟩ g1 rfl ?_
      obtain ⟨⟨q7, C8⟩, e9, h⟩ := gb h
      dsimp only at h
      refine ec_callV0 (k' := 160) (n := 2) (rc := 10) (a := a0) (as := [.int (cI (uI (uI (uI (uI (uI (uI C4 a0 43 (0 : Int32)) a0 47 a1) a0 45 (0 : Int32)) a0 51 (0 : Int32)) a0 44 (-1 : Int32)) a0 41 ((1 : Int32) - (cI (uI (uI (uI (uI (uI C4 a0 43 (0 : Int32)) a0 47 a1) a0 45 (0 : Int32)) a0 51 (0 : Int32)) a0 44 (-1 : Int32)) a0 40))) a0 41)]) ⟨rfl, rfl⟩ rfl rfl (Nat.le_of_ble_eq_true rfl) (Nat.le_of_ble_eq_true rfl) (Nat.le_of_ble_eq_true rfl) g1 rfl (t_160 e9) ?_
      refine ec_iconst cst_0 rfl ?_
      refine en_istore (l' := [(2, .int (0 : Int32)), (0, .ref a0), (1, .int a1)]) rfl rfl ?_
      obtain ⟨⟨q16, C18⟩, e17, h⟩ := gb h
      refine en_sub [1, 0] rfl rfl (lt_189_45 n _ _ _ _ e17 _ _ ?_)
      revert h e17; revert q16; intro u19 e17 h
      dsimp only at h ⊢
      refine en_aload rfl rfl ?_
      refine en_aload rfl rfl ?_
      refine ec_iconst cst_0 rfl ?_
      refine en_dup_x1 ⟨rfl, rfl⟩ rfl ?_
      obtain ⟨g20, h⟩ := gd h
      refine ec_putI (ci := 10) (j := 54) ⟨rfl, rfl, rfl⟩ g20 rfl ?_
      refine ec_putI (ci := 10) (j := 53) ⟨rfl, rfl, rfl⟩ g20 rfl ?_
      refine en_aload rfl rfl ?_
      obtain ⟨⟨q21, C22⟩, e23, h⟩ := gb h
      dsimp only at h
      refine ec_callV0 (k' := 169) (n := 1) (rc := 10) (a := u19) (as := []) ⟨rfl, rfl⟩ rfl rfl (Nat.le_of_ble_eq_true rfl) (Nat.le_of_ble_eq_true rfl) (Nat.le_of_ble_eq_true rfl) g20 rfl (t_169 e23) ?_
      obtain ⟨⟨q34, C36⟩, e35, h⟩ := gb h
      refine en_sub [0] rfl rfl (lt_189_63 n _ _ _ e35 _ _ ?_)
      revert h e35; revert q34; intro u37 e35 h
      dsimp only at h ⊢
      refine en_aload rfl rfl ?_
      obtain ⟨g38, h⟩ := gd h
      refine ec_getI (ci := 10) (j := 51) ⟨rfl, rfl, rfl⟩ g38 rfl ?_
      rcases gi h with ⟨c39, h⟩ | ⟨c39, h⟩
      · refine en_if_eq_t c39 rfl ?_
        refine en_aload rfl rfl ?_
        refine en_aload rfl rfl ?_
        refine ec_getI (ci := 10) (j := 41) ⟨rfl, rfl, rfl⟩ g38 rfl ?_
        refine ec_putI (ci := 10) (j := 40) ⟨rfl, rfl, rfl⟩ g38 rfl ?_
        refine ec_iconst cst_0 rfl ?_
        refine en_istore (l' := [(2, .int (0 : Int32)), (0, .ref u37)]) rfl rfl ?_
        obtain ⟨⟨q50, C52⟩, e51, h⟩ := gb h
        refine en_sub [1, 0] rfl rfl (lt_189_104 n _ _ _ _ e51 _ _ ?_)
        revert h e51; revert q50; intro u53 e51 h
        dsimp only at h ⊢
        refine en_aload rfl rfl ?_
        refine en_aload rfl rfl ?_
        refine en_aload rfl rfl ?_
        refine en_aload rfl rfl ?_
        refine ec_iconst cst_0 rfl ?_
        refine en_dup_x1 ⟨rfl, rfl⟩ rfl ?_
        obtain ⟨g54, h⟩ := gd h
        refine ec_putI (ci := 10) (j := 12) ⟨rfl, rfl, rfl⟩ g54 rfl ?_
        refine en_dup_x1 ⟨rfl, rfl⟩ rfl ?_
        refine ec_putI (ci := 10) (j := 8) ⟨rfl, rfl, rfl⟩ g54 rfl ?_
        refine en_dup_x1 ⟨rfl, rfl⟩ rfl ?_
        refine ec_putI (ci := 10) (j := 7) ⟨rfl, rfl, rfl⟩ g54 rfl ?_
        refine ec_putI (ci := 10) (j := 6) ⟨rfl, rfl, rfl⟩ g54 rfl ?_
        refine ec_iconst cst_0 rfl ?_
        cases h
        exact en_iret rfl
      · refine en_if_eq_f c39 rfl ?_
        refine en_aload rfl rfl ?_
        obtain ⟨r55, e56, h⟩ := gb h
        refine ec_getP (ci := 10) (j := 4) ⟨rfl, rfl, rfl⟩ g38 e56 rfl ?_
        refine ec_iconst cst_0 rfl ?_
        refine en_dup2 ⟨rfl, rfl⟩ rfl ?_
        obtain ⟨g57, h⟩ := gd h
        obtain ⟨g58, h⟩ := gd h
        refine ec_iaload g57 g58 rfl ?_
        refine ec_iconst cst_1 rfl ?_
        refine en_iadd rfl ?_
        obtain ⟨g59, h⟩ := gd h
        refine ec_iastore g57 g59 rfl ?_
        refine en_aload rfl rfl ?_
        refine ec_getI (ci := 10) (j := 51) ⟨rfl, rfl, rfl⟩ g38 rfl ?_
        cases h
        exact en_iret rfl
    · refine en_if_ne_f c6 rfl ?_
      refine ec_iconst cst_0 rfl ?_
      cases h
      exact en_iret rfl
  · refine en_if_lt_f c2 rfl ?_
    refine en_iload rfl rfl ?_
    refine en_aload rfl rfl ?_
    refine ec_getI (ci := 10) (j := 43) ⟨rfl, rfl, rfl⟩ g1 rfl ?_
    rcases gi h with ⟨c60, h⟩ | ⟨c60, h⟩
    · refine en_icmp_gt_t c60 rfl ?_
      refine ec_iconst cst_0 rfl ?_
      refine ec_iconst cst_1 rfl ?_
      obtain ⟨⟨q61, C62⟩, e63, h⟩ := gb h
      dsimp only at h
      refine ec_callV1 (k' := 162) (n := 3) (rc := 10) (a := a0) (as := [.int (0 : Int32), .int (1 : Int32)]) ⟨rfl, rfl⟩ rfl rfl (Nat.le_of_ble_eq_true rfl) (Nat.le_of_ble_eq_true rfl) (Nat.le_of_ble_eq_true rfl) g1 rfl (t_162 e63) ?_
      rcases gi h with ⟨c64, h⟩ | ⟨c64, h⟩
      · refine en_if_ne_t c64 rfl ?_
        refine en_aload rfl rfl ?_
        refine ec_iconst cst_0 rfl ?_
        refine ec_putI (ci := 10) (j := 43) ⟨rfl, rfl, rfl⟩ g1 rfl ?_
        refine en_aload rfl rfl ?_
        refine en_iload rfl rfl ?_
        refine ec_putI (ci := 10) (j := 47) ⟨rfl, rfl, rfl⟩ g1 rfl ?_
        refine en_aload rfl rfl ?_
        refine ec_iconst cst_0 rfl ?_
        refine ec_putI (ci := 10) (j := 45) ⟨rfl, rfl, rfl⟩ g1 rfl ?_
        refine en_aload rfl rfl ?_
        refine ec_iconst cst_0 rfl ?_
        refine ec_putI (ci := 10) (j := 51) ⟨rfl, rfl, rfl⟩ g1 rfl ?_
        refine en_aload rfl rfl ?_
        refine ec_iconst cst_m1 rfl ?_
        refine ec_putI (ci := 10) (j := 44) ⟨rfl, rfl, rfl⟩ g1 rfl ?_
        refine en_aload rfl rfl ?_
        refine ec_iconst cst_1 rfl ?_
        refine en_aload rfl rfl ?_
        refine ec_getI (ci := 10) (j := 40) ⟨rfl, rfl, rfl⟩ g1 rfl ?_
        refine en_isub rfl ?_
        refine ec_putI (ci := 10) (j := 41) ⟨rfl, rfl, rfl⟩ g1 rfl ?_
        refine en_aload rfl rfl ?_
        refine en_aload rfl rfl ?_
        refine ec_getI (ci := 10) (j := 41) ⟨rfl, rfl, rfl⟩ g1 rfl ?_
        obtain ⟨⟨q65, C66⟩, e67, h⟩ := gb h
        dsimp only at h
        refine ec_callV0 (k' := 160) (n := 2) (rc := 10) (a := a0) (as := [.int (cI (uI (uI (uI (uI (uI (uI C62 a0 43 (0 : Int32)) a0 47 a1) a0 45 (0 : Int32)) a0 51 (0 : Int32)) a0 44 (-1 : Int32)) a0 41 ((1 : Int32) - (cI (uI (uI (uI (uI (uI C62 a0 43 (0 : Int32)) a0 47 a1) a0 45 (0 : Int32)) a0 51 (0 : Int32)) a0 44 (-1 : Int32)) a0 40))) a0 41)]) ⟨rfl, rfl⟩ rfl rfl (Nat.le_of_ble_eq_true rfl) (Nat.le_of_ble_eq_true rfl) (Nat.le_of_ble_eq_true rfl) g1 rfl (t_160 e67) ?_
        refine ec_iconst cst_0 rfl ?_
        refine en_istore (l' := [(2, .int (0 : Int32)), (0, .ref a0), (1, .int a1)]) rfl rfl ?_
        obtain ⟨⟨q68, C70⟩, e69, h⟩ := gb h
        refine en_sub [1, 0] rfl rfl (lt_189_45 n _ _ _ _ e69 _ _ ?_)
        revert h e69; revert q68; intro u71 e69 h
        dsimp only at h ⊢
        refine en_aload rfl rfl ?_
        refine en_aload rfl rfl ?_
        refine ec_iconst cst_0 rfl ?_
        refine en_dup_x1 ⟨rfl, rfl⟩ rfl ?_
        obtain ⟨g72, h⟩ := gd h
        refine ec_putI (ci := 10) (j := 54) ⟨rfl, rfl, rfl⟩ g72 rfl ?_
        refine ec_putI (ci := 10) (j := 53) ⟨rfl, rfl, rfl⟩ g72 rfl ?_
        refine en_aload rfl rfl ?_
        obtain ⟨⟨q73, C74⟩, e75, h⟩ := gb h
        dsimp only at h
        refine ec_callV0 (k' := 169) (n := 1) (rc := 10) (a := u71) (as := []) ⟨rfl, rfl⟩ rfl rfl (Nat.le_of_ble_eq_true rfl) (Nat.le_of_ble_eq_true rfl) (Nat.le_of_ble_eq_true rfl) g72 rfl (t_169 e75) ?_
        obtain ⟨⟨q76, C78⟩, e77, h⟩ := gb h
        refine en_sub [0] rfl rfl (lt_189_63 n _ _ _ e77 _ _ ?_)
        revert h e77; revert q76; intro u79 e77 h
        dsimp only at h ⊢
        refine en_aload rfl rfl ?_
        obtain ⟨g80, h⟩ := gd h
        refine ec_getI (ci := 10) (j := 51) ⟨rfl, rfl, rfl⟩ g80 rfl ?_
        rcases gi h with ⟨c81, h⟩ | ⟨c81, h⟩
        · refine en_if_eq_t c81 rfl ?_
          refine en_aload rfl rfl ?_
          refine en_aload rfl rfl ?_
          refine ec_getI (ci := 10) (j := 41) ⟨rfl, rfl, rfl⟩ g80 rfl ?_
          refine ec_putI (ci := 10) (j := 40) ⟨rfl, rfl, rfl⟩ g80 rfl ?_
          refine ec_iconst cst_0 rfl ?_
          refine en_istore (l' := [(2, .int (0 : Int32)), (0, .ref u79)]) rfl rfl ?_
          obtain ⟨⟨q82, C84⟩, e83, h⟩ := gb h
          refine en_sub [1, 0] rfl rfl (lt_189_104 n _ _ _ _ e83 _ _ ?_)
          revert h e83; revert q82; intro u85 e83 h
          dsimp only at h ⊢
          refine en_aload rfl rfl ?_
          refine en_aload rfl rfl ?_
          refine en_aload rfl rfl ?_
          refine en_aload rfl rfl ?_
          refine ec_iconst cst_0 rfl ?_
          refine en_dup_x1 ⟨rfl, rfl⟩ rfl ?_
          obtain ⟨g86, h⟩ := gd h
          refine ec_putI (ci := 10) (j := 12) ⟨rfl, rfl, rfl⟩ g86 rfl ?_
          refine en_dup_x1 ⟨rfl, rfl⟩ rfl ?_
          refine ec_putI (ci := 10) (j := 8) ⟨rfl, rfl, rfl⟩ g86 rfl ?_
          refine en_dup_x1 ⟨rfl, rfl⟩ rfl ?_
          refine ec_putI (ci := 10) (j := 7) ⟨rfl, rfl, rfl⟩ g86 rfl ?_
          refine ec_putI (ci := 10) (j := 6) ⟨rfl, rfl, rfl⟩ g86 rfl ?_
          refine ec_iconst cst_0 rfl ?_
          cases h
          exact en_iret rfl
        · refine en_if_eq_f c81 rfl ?_
          refine en_aload rfl rfl ?_
          obtain ⟨r87, e88, h⟩ := gb h
          refine ec_getP (ci := 10) (j := 4) ⟨rfl, rfl, rfl⟩ g80 e88 rfl ?_
          refine ec_iconst cst_0 rfl ?_
          refine en_dup2 ⟨rfl, rfl⟩ rfl ?_
          obtain ⟨g89, h⟩ := gd h
          obtain ⟨g90, h⟩ := gd h
          refine ec_iaload g89 g90 rfl ?_
          refine ec_iconst cst_1 rfl ?_
          refine en_iadd rfl ?_
          obtain ⟨g91, h⟩ := gd h
          refine ec_iastore g89 g91 rfl ?_
          refine en_aload rfl rfl ?_
          refine ec_getI (ci := 10) (j := 51) ⟨rfl, rfl, rfl⟩ g80 rfl ?_
          cases h
          exact en_iret rfl
      · refine en_if_ne_f c64 rfl ?_
        refine ec_iconst cst_0 rfl ?_
        cases h
        exact en_iret rfl
    · refine en_icmp_gt_f c60 rfl ?_
      refine ec_iconst cst_1 rfl ?_
      refine en_goto rfl ?_
      refine ec_iconst cst_1 rfl ?_
      obtain ⟨⟨q92, C93⟩, e94, h⟩ := gb h
      dsimp only at h
      refine ec_callV1 (k' := 162) (n := 3) (rc := 10) (a := a0) (as := [.int (1 : Int32), .int (1 : Int32)]) ⟨rfl, rfl⟩ rfl rfl (Nat.le_of_ble_eq_true rfl) (Nat.le_of_ble_eq_true rfl) (Nat.le_of_ble_eq_true rfl) g1 rfl (t_162 e94) ?_
      rcases gi h with ⟨c95, h⟩ | ⟨c95, h⟩
      · refine en_if_ne_t c95 rfl ?_
        refine en_aload rfl rfl ?_
        refine ec_iconst cst_0 rfl ?_
        refine ec_putI (ci := 10) (j := 43) ⟨rfl, rfl, rfl⟩ g1 rfl ?_
        refine en_aload rfl rfl ?_
        refine en_iload rfl rfl ?_
        refine ec_putI (ci := 10) (j := 47) ⟨rfl, rfl, rfl⟩ g1 rfl ?_
        refine en_aload rfl rfl ?_
        refine ec_iconst cst_0 rfl ?_
        refine ec_putI (ci := 10) (j := 45) ⟨rfl, rfl, rfl⟩ g1 rfl ?_
        refine en_aload rfl rfl ?_
        refine ec_iconst cst_0 rfl ?_
        refine ec_putI (ci := 10) (j := 51) ⟨rfl, rfl, rfl⟩ g1 rfl ?_
        refine en_aload rfl rfl ?_
        refine ec_iconst cst_m1 rfl ?_
        refine ec_putI (ci := 10) (j := 44) ⟨rfl, rfl, rfl⟩ g1 rfl ?_
        refine en_aload rfl rfl ?_
        refine ec_iconst cst_1 rfl ?_
        refine en_aload rfl rfl ?_
        refine ec_getI (ci := 10) (j := 40) ⟨rfl, rfl, rfl⟩ g1 rfl ?_
        refine en_isub rfl ?_
        refine ec_putI (ci := 10) (j := 41) ⟨rfl, rfl, rfl⟩ g1 rfl ?_
        refine en_aload rfl rfl ?_
        refine en_aload rfl rfl ?_
        refine ec_getI (ci := 10) (j := 41) ⟨rfl, rfl, rfl⟩ g1 rfl ?_
        obtain ⟨⟨q96, C97⟩, e98, h⟩ := gb h
        dsimp only at h
        refine ec_callV0 (k' := 160) (n := 2) (rc := 10) (a := a0) (as := [.int (cI (uI (uI (uI (uI (uI (uI C93 a0 43 (0 : Int32)) a0 47 a1) a0 45 (0 : Int32)) a0 51 (0 : Int32)) a0 44 (-1 : Int32)) a0 41 ((1 : Int32) - (cI (uI (uI (uI (uI (uI C93 a0 43 (0 : Int32)) a0 47 a1) a0 45 (0 : Int32)) a0 51 (0 : Int32)) a0 44 (-1 : Int32)) a0 40))) a0 41)]) ⟨rfl, rfl⟩ rfl rfl (Nat.le_of_ble_eq_true rfl) (Nat.le_of_ble_eq_true rfl) (Nat.le_of_ble_eq_true rfl) g1 rfl (t_160 e98) ?_
        refine ec_iconst cst_0 rfl ?_
        refine en_istore (l' := [(2, .int (0 : Int32)), (0, .ref a0), (1, .int a1)]) rfl rfl ?_
        obtain ⟨⟨q99, C101⟩, e100, h⟩ := gb h
        refine en_sub [1, 0] rfl rfl (lt_189_45 n _ _ _ _ e100 _ _ ?_)
        revert h e100; revert q99; intro u102 e100 h
        dsimp only at h ⊢
        refine en_aload rfl rfl ?_
        refine en_aload rfl rfl ?_
        refine ec_iconst cst_0 rfl ?_
        refine en_dup_x1 ⟨rfl, rfl⟩ rfl ?_
        obtain ⟨g103, h⟩ := gd h
        refine ec_putI (ci := 10) (j := 54) ⟨rfl, rfl, rfl⟩ g103 rfl ?_
        refine ec_putI (ci := 10) (j := 53) ⟨rfl, rfl, rfl⟩ g103 rfl ?_
        refine en_aload rfl rfl ?_
        obtain ⟨⟨q104, C105⟩, e106, h⟩ := gb h
        dsimp only at h
        refine ec_callV0 (k' := 169) (n := 1) (rc := 10) (a := u102) (as := []) ⟨rfl, rfl⟩ rfl rfl (Nat.le_of_ble_eq_true rfl) (Nat.le_of_ble_eq_true rfl) (Nat.le_of_ble_eq_true rfl) g103 rfl (t_169 e106) ?_
        obtain ⟨⟨q107, C109⟩, e108, h⟩ := gb h
        refine en_sub [0] rfl rfl (lt_189_63 n _ _ _ e108 _ _ ?_)
        revert h e108; revert q107; intro u110 e108 h
        dsimp only at h ⊢
        refine en_aload rfl rfl ?_
        obtain ⟨g111, h⟩ := gd h
        refine ec_getI (ci := 10) (j := 51) ⟨rfl, rfl, rfl⟩ g111 rfl ?_
        rcases gi h with ⟨c112, h⟩ | ⟨c112, h⟩
        · refine en_if_eq_t c112 rfl ?_
          refine en_aload rfl rfl ?_
          refine en_aload rfl rfl ?_
          refine ec_getI (ci := 10) (j := 41) ⟨rfl, rfl, rfl⟩ g111 rfl ?_
          refine ec_putI (ci := 10) (j := 40) ⟨rfl, rfl, rfl⟩ g111 rfl ?_
          refine ec_iconst cst_0 rfl ?_
          refine en_istore (l' := [(2, .int (0 : Int32)), (0, .ref u110)]) rfl rfl ?_
          obtain ⟨⟨q113, C115⟩, e114, h⟩ := gb h
          refine en_sub [1, 0] rfl rfl (lt_189_104 n _ _ _ _ e114 _ _ ?_)
          revert h e114; revert q113; intro u116 e114 h
          dsimp only at h ⊢
          refine en_aload rfl rfl ?_
          refine en_aload rfl rfl ?_
          refine en_aload rfl rfl ?_
          refine en_aload rfl rfl ?_
          refine ec_iconst cst_0 rfl ?_
          refine en_dup_x1 ⟨rfl, rfl⟩ rfl ?_
          obtain ⟨g117, h⟩ := gd h
          refine ec_putI (ci := 10) (j := 12) ⟨rfl, rfl, rfl⟩ g117 rfl ?_
          refine en_dup_x1 ⟨rfl, rfl⟩ rfl ?_
          refine ec_putI (ci := 10) (j := 8) ⟨rfl, rfl, rfl⟩ g117 rfl ?_
          refine en_dup_x1 ⟨rfl, rfl⟩ rfl ?_
          refine ec_putI (ci := 10) (j := 7) ⟨rfl, rfl, rfl⟩ g117 rfl ?_
          refine ec_putI (ci := 10) (j := 6) ⟨rfl, rfl, rfl⟩ g117 rfl ?_
          refine ec_iconst cst_0 rfl ?_
          cases h
          exact en_iret rfl
        · refine en_if_eq_f c112 rfl ?_
          refine en_aload rfl rfl ?_
          obtain ⟨r118, e119, h⟩ := gb h
          refine ec_getP (ci := 10) (j := 4) ⟨rfl, rfl, rfl⟩ g111 e119 rfl ?_
          refine ec_iconst cst_0 rfl ?_
          refine en_dup2 ⟨rfl, rfl⟩ rfl ?_
          obtain ⟨g120, h⟩ := gd h
          obtain ⟨g121, h⟩ := gd h
          refine ec_iaload g120 g121 rfl ?_
          refine ec_iconst cst_1 rfl ?_
          refine en_iadd rfl ?_
          obtain ⟨g122, h⟩ := gd h
          refine ec_iastore g120 g122 rfl ?_
          refine en_aload rfl rfl ?_
          refine ec_getI (ci := 10) (j := 51) ⟨rfl, rfl, rfl⟩ g111 rfl ?_
          cases h
          exact en_iret rfl
      · refine en_if_ne_f c95 rfl ?_
        refine ec_iconst cst_0 rfl ?_
        cases h
        exact en_iret rfl
/-- BulkWriterModel.fault()I -/
def f_190 (n : Nat) (a0 : Nat) (C : AmC) : Option (Int32 × AmC) := if isK a0 10 = true then some ((cI (uI C a0 5 (0 : Int32)) a0 44), uI C a0 5 (0 : Int32)) else none
set_option maxRecDepth 20000 in
set_option maxHeartbeats 4000000 in
theorem t_190 {n : Nat} {a0 : Nat} {C : AmC} {r : Int32} {C' : AmC} (h : f_190 n a0 C = some (r, C')) : En false 190 0 [(0, .ref a0)] [] (mkM C) (.inl (some (.int r))) (mkM C') := by
  unfold f_190 at h
  refine en_aload rfl rfl ?_
  refine ec_iconst cst_0 rfl ?_
  obtain ⟨g1, h⟩ := gd h
  refine ec_putI (ci := 10) (j := 5) ⟨rfl, rfl, rfl⟩ g1 rfl ?_
  refine en_aload rfl rfl ?_
  refine ec_getI (ci := 10) (j := 44) ⟨rfl, rfl, rfl⟩ g1 rfl ?_
  cases h
  exact en_iret rfl
/-- BulkWriterModel.at(II)I -/
def f_193 (n : Nat) (a0 : Nat) (a1 : Int32) (a2 : Int32) (C : AmC) : Option (Int32 × AmC) := if isK a0 10 = true then (cP C a0 57).bind (fun r2 => if isK r2 12 = true then if amIn (((30 : Int32) + ((4 : Int32) * a1)) + a2) (aLen r2) = true then some ((cI C r2 (Int32.toNatClampNeg (((30 : Int32) + ((4 : Int32) * a1)) + a2))), C) else none else none) else none
set_option maxRecDepth 20000 in
set_option maxHeartbeats 4000000 in
theorem t_193 {n : Nat} {a0 : Nat} {a1 : Int32} {a2 : Int32} {C : AmC} {r : Int32} {C' : AmC} (h : f_193 n a0 a1 a2 C = some (r, C')) : En false 193 0 [(0, .ref a0), (1, .int a1), (2, .int a2)] [] (mkM C) (.inl (some (.int r))) (mkM C') := by
  unfold f_193 at h
  refine en_aload rfl rfl ?_
  obtain ⟨g1, h⟩ := gd h
  obtain ⟨r2, e3, h⟩ := gb h
  refine ec_getP (ci := 10) (j := 57) ⟨rfl, rfl, rfl⟩ g1 e3 rfl ?_
  refine ec_iconst cst_30 rfl ?_
  refine ec_iconst cst_4 rfl ?_
  refine en_iload rfl rfl ?_
  refine en_imul rfl ?_
  refine en_iadd rfl ?_
  refine en_iload rfl rfl ?_
  refine en_iadd rfl ?_
  obtain ⟨g4, h⟩ := gd h
  obtain ⟨g5, h⟩ := gd h
  refine ec_iaload g4 g5 rfl ?_
  cases h
  exact en_iret rfl
/-- BulkWriterModel.indexOf(I)I -/
def f_194 (n : Nat) (a0 : Nat) (a1 : Int32) (C : AmC) : Option (Int32 × AmC) := (if ¬ a1 = 0 then if isK a0 10 = true then some ((((3 : Int32) * (cI C a0 40)) + ((a1 - (1 : Int32)) / (2 : Int32))), C) else none else some ((-1 : Int32), C))
set_option maxRecDepth 20000 in
set_option maxHeartbeats 4000000 in
theorem t_194 {n : Nat} {a0 : Nat} {a1 : Int32} {C : AmC} {r : Int32} {C' : AmC} (h : f_194 n a0 a1 C = some (r, C')) : En false 194 0 [(0, .ref a0), (1, .int a1)] [] (mkM C) (.inl (some (.int r))) (mkM C') := by
  unfold f_194 at h
  refine en_iload rfl rfl ?_
  rcases gi h with ⟨c1, h⟩ | ⟨c1, h⟩
  · refine en_if_ne_t c1 rfl ?_
    refine ec_iconst cst_3 rfl ?_
    refine en_aload rfl rfl ?_
    obtain ⟨g2, h⟩ := gd h
    refine ec_getI (ci := 10) (j := 40) ⟨rfl, rfl, rfl⟩ g2 rfl ?_
    refine en_imul rfl ?_
    refine en_iload rfl rfl ?_
    refine ec_iconst cst_1 rfl ?_
    refine en_isub rfl ?_
    refine ec_iconst cst_2 rfl ?_
    refine en_idiv (by decide) rfl ?_
    refine en_iadd rfl ?_
    cases h
    exact en_iret rfl
  · refine en_if_ne_f c1 rfl ?_
    refine ec_iconst cst_m1 rfl ?_
    refine en_goto rfl ?_
    cases h
    exact en_iret rfl
/-- BulkWriterModel.isDown(I)Z -/
def f_195 (n : Nat) (a0 : Int32) (C : AmC) : Option (Int32 × AmC) := (if a0 ≤ 0 then some ((0 : Int32), C) else (if ¬ (a0 - a0 / (2 : Int32) * (2 : Int32)) = 0 then some ((0 : Int32), C) else some ((1 : Int32), C)))
set_option maxRecDepth 20000 in
set_option maxHeartbeats 4000000 in
theorem t_195 {n : Nat} {a0 : Int32} {C : AmC} {r : Int32} {C' : AmC} (h : f_195 n a0 C = some (r, C')) : En false 195 0 [(0, .int a0)] [] (mkM C) (.inl (some (.int r))) (mkM C') := by
  unfold f_195 at h
  refine en_iload rfl rfl ?_
  rcases gi h with ⟨c1, h⟩ | ⟨c1, h⟩
  · refine en_if_le_t c1 rfl ?_
    refine ec_iconst cst_0 rfl ?_
    cases h
    exact en_zret (Or.inl rfl) rfl
  · refine en_if_le_f c1 rfl ?_
    refine en_iload rfl rfl ?_
    refine ec_iconst cst_2 rfl ?_
    refine en_irem (by decide) rfl ?_
    rcases gi h with ⟨c2, h⟩ | ⟨c2, h⟩
    · refine en_if_ne_t c2 rfl ?_
      refine ec_iconst cst_0 rfl ?_
      cases h
      exact en_zret (Or.inl rfl) rfl
    · refine en_if_ne_f c2 rfl ?_
      refine ec_iconst cst_1 rfl ?_
      refine en_goto rfl ?_
      cases h
      exact en_zret (Or.inr rfl) rfl
/-- BulkWriterModel.oneOf(II)I -/
def f_196 (n : Nat) (a0 : Nat) (a1 : Int32) (a2 : Int32) (C : AmC) : Option (Int32 × AmC) := (if ¬ a1 = 0 then if isK a0 10 = true then (cP C a0 29).bind (fun r3 => (f_194 n a0 a1 C).bind (fun z => match z with | (q5, C6) => if isK r3 12 = true then if amIn q5 (aLen r3) = true then (f_193 n a0 a2 (cI C6 r3 (Int32.toNatClampNeg q5)) C6).bind (fun z => match z with | (q10, C11) => some (q10, C11)) else none else none)) else none else some ((0 : Int32), C))
set_option maxRecDepth 20000 in
set_option maxHeartbeats 4000000 in
theorem t_196 {n : Nat} {a0 : Nat} {a1 : Int32} {a2 : Int32} {C : AmC} {r : Int32} {C' : AmC} (h : f_196 n a0 a1 a2 C = some (r, C')) : En false 196 0 [(0, .ref a0), (1, .int a1), (2, .int a2)] [] (mkM C) (.inl (some (.int r))) (mkM C') := by
  unfold f_196 at h
  refine en_iload rfl rfl ?_
  rcases gi h with ⟨c1, h⟩ | ⟨c1, h⟩
  · refine en_if_ne_t c1 rfl ?_
    refine en_aload rfl rfl ?_
    refine en_iload rfl rfl ?_
    refine en_aload rfl rfl ?_
    obtain ⟨g2, h⟩ := gd h
    obtain ⟨r3, e4, h⟩ := gb h
    refine ec_getP (ci := 10) (j := 29) ⟨rfl, rfl, rfl⟩ g2 e4 rfl ?_
    refine en_aload rfl rfl ?_
    refine en_iload rfl rfl ?_
    obtain ⟨⟨q5, C6⟩, e7, h⟩ := gb h
    dsimp only at h
    refine ec_callV1 (k' := 194) (n := 2) (rc := 10) (a := a0) (as := [.int a1]) ⟨rfl, rfl⟩ rfl rfl (Nat.le_of_ble_eq_true rfl) (Nat.le_of_ble_eq_true rfl) (Nat.le_of_ble_eq_true rfl) g2 rfl (t_194 e7) ?_
    obtain ⟨g8, h⟩ := gd h
    obtain ⟨g9, h⟩ := gd h
    refine ec_iaload g8 g9 rfl ?_
    obtain ⟨⟨q10, C11⟩, e12, h⟩ := gb h
    dsimp only at h
    refine ec_callV1 (k' := 193) (n := 3) (rc := 10) (a := a0) (as := [.int a2, .int (cI C6 r3 (Int32.toNatClampNeg q5))]) ⟨rfl, rfl⟩ rfl rfl (Nat.le_of_ble_eq_true rfl) (Nat.le_of_ble_eq_true rfl) (Nat.le_of_ble_eq_true rfl) g2 rfl (t_193 e12) ?_
    cases h
    exact en_iret rfl
  · refine en_if_ne_f c1 rfl ?_
    refine ec_iconst cst_0 rfl ?_
    refine en_goto rfl ?_
    cases h
    exact en_iret rfl
/-- BulkWriterModel.twoOf(II)I -/
def f_197 (n : Nat) (a0 : Nat) (a1 : Int32) (a2 : Int32) (C : AmC) : Option (Int32 × AmC) := (if a1 = 0 then some ((0 : Int32), C) else if isK a0 10 = true then (cP C a0 30).bind (fun r3 => (f_194 n a0 a1 C).bind (fun z => match z with | (q5, C6) => if isK r3 12 = true then if amIn q5 (aLen r3) = true then (if ¬ (cI C6 r3 (Int32.toNatClampNeg q5)) = (-1 : Int32) then (cP C6 a0 30).bind (fun r11 => (f_194 n a0 a1 C6).bind (fun z => match z with | (q13, C14) => if isK r11 12 = true then if amIn q13 (aLen r11) = true then (f_193 n a0 a2 (cI C14 r11 (Int32.toNatClampNeg q13)) C14).bind (fun z => match z with | (q18, C19) => some (q18, C19)) else none else none)) else some ((0 : Int32), C6)) else none else none)) else none)
set_option maxRecDepth 20000 in
set_option maxHeartbeats 4000000 in
theorem t_197 {n : Nat} {a0 : Nat} {a1 : Int32} {a2 : Int32} {C : AmC} {r : Int32} {C' : AmC} (h : f_197 n a0 a1 a2 C = some (r, C')) : En false 197 0 [(0, .ref a0), (1, .int a1), (2, .int a2)] [] (mkM C) (.inl (some (.int r))) (mkM C') := by
  unfold f_197 at h
  refine en_iload rfl rfl ?_
  rcases gi h with ⟨c1, h⟩ | ⟨c1, h⟩
  · refine en_if_eq_t c1 rfl ?_
    refine ec_iconst cst_0 rfl ?_
    refine en_goto rfl ?_
    cases h
    exact en_iret rfl
  · refine en_if_eq_f c1 rfl ?_
    refine en_aload rfl rfl ?_
    obtain ⟨g2, h⟩ := gd h
    obtain ⟨r3, e4, h⟩ := gb h
    refine ec_getP (ci := 10) (j := 30) ⟨rfl, rfl, rfl⟩ g2 e4 rfl ?_
    refine en_aload rfl rfl ?_
    refine en_iload rfl rfl ?_
    obtain ⟨⟨q5, C6⟩, e7, h⟩ := gb h
    dsimp only at h
    refine ec_callV1 (k' := 194) (n := 2) (rc := 10) (a := a0) (as := [.int a1]) ⟨rfl, rfl⟩ rfl rfl (Nat.le_of_ble_eq_true rfl) (Nat.le_of_ble_eq_true rfl) (Nat.le_of_ble_eq_true rfl) g2 rfl (t_194 e7) ?_
    obtain ⟨g8, h⟩ := gd h
    obtain ⟨g9, h⟩ := gd h
    refine ec_iaload g8 g9 rfl ?_
    refine ec_iconst cst_m1 rfl ?_
    rcases gi h with ⟨c10, h⟩ | ⟨c10, h⟩
    · refine en_icmp_ne_t c10 rfl ?_
      refine en_aload rfl rfl ?_
      refine en_iload rfl rfl ?_
      refine en_aload rfl rfl ?_
      obtain ⟨r11, e12, h⟩ := gb h
      refine ec_getP (ci := 10) (j := 30) ⟨rfl, rfl, rfl⟩ g2 e12 rfl ?_
      refine en_aload rfl rfl ?_
      refine en_iload rfl rfl ?_
      obtain ⟨⟨q13, C14⟩, e15, h⟩ := gb h
      dsimp only at h
      refine ec_callV1 (k' := 194) (n := 2) (rc := 10) (a := a0) (as := [.int a1]) ⟨rfl, rfl⟩ rfl rfl (Nat.le_of_ble_eq_true rfl) (Nat.le_of_ble_eq_true rfl) (Nat.le_of_ble_eq_true rfl) g2 rfl (t_194 e15) ?_
      obtain ⟨g16, h⟩ := gd h
      obtain ⟨g17, h⟩ := gd h
      refine ec_iaload g16 g17 rfl ?_
      obtain ⟨⟨q18, C19⟩, e20, h⟩ := gb h
      dsimp only at h
      refine ec_callV1 (k' := 193) (n := 3) (rc := 10) (a := a0) (as := [.int a2, .int (cI C14 r11 (Int32.toNatClampNeg q13))]) ⟨rfl, rfl⟩ rfl rfl (Nat.le_of_ble_eq_true rfl) (Nat.le_of_ble_eq_true rfl) (Nat.le_of_ble_eq_true rfl) g2 rfl (t_193 e20) ?_
      cases h
      exact en_iret rfl
    · refine en_icmp_ne_f c10 rfl ?_
      refine ec_iconst cst_0 rfl ?_
      refine en_goto rfl ?_
      cases h
      exact en_iret rfl
/-- BulkWriterModel.compared(IIIIII)I -/
def f_198 (n : Nat) (a0 : Int32) (a1 : Int32) (a2 : Int32) (a3 : Int32) (a4 : Int32) (a5 : Int32) (C : AmC) : Option (Int32 × AmC) := (if a0 = a3 then (if a1 = a4 then (if a0 = a3 then (if a1 = a4 then (if a5 ≤ a2 then (if a2 ≤ a5 then some ((0 : Int32), C) else some ((1 : Int32), C)) else some ((-1 : Int32), C)) else (if a4 ≤ a2 then (if a2 ≤ a4 then some ((0 : Int32), C) else some ((1 : Int32), C)) else some ((-1 : Int32), C))) else (if a3 ≤ a2 then (if a2 ≤ a3 then some ((0 : Int32), C) else some ((1 : Int32), C)) else some ((-1 : Int32), C))) else (if a0 = a3 then (if a1 = a4 then (if a5 ≤ a1 then (if a1 ≤ a5 then some ((0 : Int32), C) else some ((1 : Int32), C)) else some ((-1 : Int32), C)) else (if a4 ≤ a1 then (if a1 ≤ a4 then some ((0 : Int32), C) else some ((1 : Int32), C)) else some ((-1 : Int32), C))) else (if a3 ≤ a1 then (if a1 ≤ a3 then some ((0 : Int32), C) else some ((1 : Int32), C)) else some ((-1 : Int32), C)))) else (if a0 = a3 then (if a1 = a4 then (if a5 ≤ a0 then (if a0 ≤ a5 then some ((0 : Int32), C) else some ((1 : Int32), C)) else some ((-1 : Int32), C)) else (if a4 ≤ a0 then (if a0 ≤ a4 then some ((0 : Int32), C) else some ((1 : Int32), C)) else some ((-1 : Int32), C))) else (if a3 ≤ a0 then (if a0 ≤ a3 then some ((0 : Int32), C) else some ((1 : Int32), C)) else some ((-1 : Int32), C))))
set_option maxRecDepth 20000 in
set_option maxHeartbeats 4000000 in
theorem t_198 {n : Nat} {a0 : Int32} {a1 : Int32} {a2 : Int32} {a3 : Int32} {a4 : Int32} {a5 : Int32} {C : AmC} {r : Int32} {C' : AmC} (h : f_198 n a0 a1 a2 a3 a4 a5 C = some (r, C')) : En false 198 0 [(0, .int a0), (1, .int a1), (2, .int a2), (3, .int a3), (4, .int a4), (5, .int a5)] [] (mkM C) (.inl (some (.int r))) (mkM C') := by
  unfold f_198 at h
  refine en_iload rfl rfl ?_
  refine en_iload rfl rfl ?_
  rcases gi h with ⟨c1, h⟩ | ⟨c1, h⟩
  · refine en_icmp_eq_t c1 rfl ?_
    refine en_iload rfl rfl ?_
    refine en_iload rfl rfl ?_
    rcases gi h with ⟨c2, h⟩ | ⟨c2, h⟩
    · refine en_icmp_eq_t c2 rfl ?_
      refine en_iload rfl rfl ?_
      refine en_istore (l' := [(6, .int a2), (0, .int a0), (1, .int a1), (2, .int a2), (3, .int a3), (4, .int a4), (5, .int a5)]) rfl rfl ?_
      refine en_iload rfl rfl ?_
      refine en_iload rfl rfl ?_
      rcases gi h with ⟨c3, h⟩ | ⟨c3, h⟩
      · refine en_icmp_eq_t c3 rfl ?_
        refine en_iload rfl rfl ?_
        refine en_iload rfl rfl ?_
        rcases gi h with ⟨c4, h⟩ | ⟨c4, h⟩
        · refine en_icmp_eq_t c4 rfl ?_
          refine en_iload rfl rfl ?_
          refine en_istore (l' := [(7, .int a5), (6, .int a2), (0, .int a0), (1, .int a1), (2, .int a2), (3, .int a3), (4, .int a4), (5, .int a5)]) rfl rfl ?_
          refine en_iload rfl rfl ?_
          refine en_iload rfl rfl ?_
          rcases gi h with ⟨c5, h⟩ | ⟨c5, h⟩
          · refine en_icmp_ge_t c5 rfl ?_
            refine en_iload rfl rfl ?_
            refine en_iload rfl rfl ?_
            rcases gi h with ⟨c6, h⟩ | ⟨c6, h⟩
            · refine en_icmp_le_t c6 rfl ?_
              refine ec_iconst cst_0 rfl ?_
              cases h
              exact en_iret rfl
            · refine en_icmp_le_f c6 rfl ?_
              refine ec_iconst cst_1 rfl ?_
              refine en_goto rfl ?_
              cases h
              exact en_iret rfl
          · refine en_icmp_ge_f c5 rfl ?_
            refine ec_iconst cst_m1 rfl ?_
            refine en_goto rfl ?_
            cases h
            exact en_iret rfl
        · refine en_icmp_eq_f c4 rfl ?_
          refine en_iload rfl rfl ?_
          refine en_goto rfl ?_
          refine en_istore (l' := [(7, .int a4), (6, .int a2), (0, .int a0), (1, .int a1), (2, .int a2), (3, .int a3), (4, .int a4), (5, .int a5)]) rfl rfl ?_
          refine en_iload rfl rfl ?_
          refine en_iload rfl rfl ?_
          rcases gi h with ⟨c7, h⟩ | ⟨c7, h⟩
          · refine en_icmp_ge_t c7 rfl ?_
            refine en_iload rfl rfl ?_
            refine en_iload rfl rfl ?_
            rcases gi h with ⟨c8, h⟩ | ⟨c8, h⟩
            · refine en_icmp_le_t c8 rfl ?_
              refine ec_iconst cst_0 rfl ?_
              cases h
              exact en_iret rfl
            · refine en_icmp_le_f c8 rfl ?_
              refine ec_iconst cst_1 rfl ?_
              refine en_goto rfl ?_
              cases h
              exact en_iret rfl
          · refine en_icmp_ge_f c7 rfl ?_
            refine ec_iconst cst_m1 rfl ?_
            refine en_goto rfl ?_
            cases h
            exact en_iret rfl
      · refine en_icmp_eq_f c3 rfl ?_
        refine en_iload rfl rfl ?_
        refine en_goto rfl ?_
        refine en_istore (l' := [(7, .int a3), (6, .int a2), (0, .int a0), (1, .int a1), (2, .int a2), (3, .int a3), (4, .int a4), (5, .int a5)]) rfl rfl ?_
        refine en_iload rfl rfl ?_
        refine en_iload rfl rfl ?_
        rcases gi h with ⟨c9, h⟩ | ⟨c9, h⟩
        · refine en_icmp_ge_t c9 rfl ?_
          refine en_iload rfl rfl ?_
          refine en_iload rfl rfl ?_
          rcases gi h with ⟨c10, h⟩ | ⟨c10, h⟩
          · refine en_icmp_le_t c10 rfl ?_
            refine ec_iconst cst_0 rfl ?_
            cases h
            exact en_iret rfl
          · refine en_icmp_le_f c10 rfl ?_
            refine ec_iconst cst_1 rfl ?_
            refine en_goto rfl ?_
            cases h
            exact en_iret rfl
        · refine en_icmp_ge_f c9 rfl ?_
          refine ec_iconst cst_m1 rfl ?_
          refine en_goto rfl ?_
          cases h
          exact en_iret rfl
    · refine en_icmp_eq_f c2 rfl ?_
      refine en_iload rfl rfl ?_
      refine en_goto rfl ?_
      refine en_istore (l' := [(6, .int a1), (0, .int a0), (1, .int a1), (2, .int a2), (3, .int a3), (4, .int a4), (5, .int a5)]) rfl rfl ?_
      refine en_iload rfl rfl ?_
      refine en_iload rfl rfl ?_
      rcases gi h with ⟨c11, h⟩ | ⟨c11, h⟩
      · refine en_icmp_eq_t c11 rfl ?_
        refine en_iload rfl rfl ?_
        refine en_iload rfl rfl ?_
        rcases gi h with ⟨c12, h⟩ | ⟨c12, h⟩
        · refine en_icmp_eq_t c12 rfl ?_
          refine en_iload rfl rfl ?_
          refine en_istore (l' := [(7, .int a5), (6, .int a1), (0, .int a0), (1, .int a1), (2, .int a2), (3, .int a3), (4, .int a4), (5, .int a5)]) rfl rfl ?_
          refine en_iload rfl rfl ?_
          refine en_iload rfl rfl ?_
          rcases gi h with ⟨c13, h⟩ | ⟨c13, h⟩
          · refine en_icmp_ge_t c13 rfl ?_
            refine en_iload rfl rfl ?_
            refine en_iload rfl rfl ?_
            rcases gi h with ⟨c14, h⟩ | ⟨c14, h⟩
            · refine en_icmp_le_t c14 rfl ?_
              refine ec_iconst cst_0 rfl ?_
              cases h
              exact en_iret rfl
            · refine en_icmp_le_f c14 rfl ?_
              refine ec_iconst cst_1 rfl ?_
              refine en_goto rfl ?_
              cases h
              exact en_iret rfl
          · refine en_icmp_ge_f c13 rfl ?_
            refine ec_iconst cst_m1 rfl ?_
            refine en_goto rfl ?_
            cases h
            exact en_iret rfl
        · refine en_icmp_eq_f c12 rfl ?_
          refine en_iload rfl rfl ?_
          refine en_goto rfl ?_
          refine en_istore (l' := [(7, .int a4), (6, .int a1), (0, .int a0), (1, .int a1), (2, .int a2), (3, .int a3), (4, .int a4), (5, .int a5)]) rfl rfl ?_
          refine en_iload rfl rfl ?_
          refine en_iload rfl rfl ?_
          rcases gi h with ⟨c15, h⟩ | ⟨c15, h⟩
          · refine en_icmp_ge_t c15 rfl ?_
            refine en_iload rfl rfl ?_
            refine en_iload rfl rfl ?_
            rcases gi h with ⟨c16, h⟩ | ⟨c16, h⟩
            · refine en_icmp_le_t c16 rfl ?_
              refine ec_iconst cst_0 rfl ?_
              cases h
              exact en_iret rfl
            · refine en_icmp_le_f c16 rfl ?_
              refine ec_iconst cst_1 rfl ?_
              refine en_goto rfl ?_
              cases h
              exact en_iret rfl
          · refine en_icmp_ge_f c15 rfl ?_
            refine ec_iconst cst_m1 rfl ?_
            refine en_goto rfl ?_
            cases h
            exact en_iret rfl
      · refine en_icmp_eq_f c11 rfl ?_
        refine en_iload rfl rfl ?_
        refine en_goto rfl ?_
        refine en_istore (l' := [(7, .int a3), (6, .int a1), (0, .int a0), (1, .int a1), (2, .int a2), (3, .int a3), (4, .int a4), (5, .int a5)]) rfl rfl ?_
        refine en_iload rfl rfl ?_
        refine en_iload rfl rfl ?_
        rcases gi h with ⟨c17, h⟩ | ⟨c17, h⟩
        · refine en_icmp_ge_t c17 rfl ?_
          refine en_iload rfl rfl ?_
          refine en_iload rfl rfl ?_
          rcases gi h with ⟨c18, h⟩ | ⟨c18, h⟩
          · refine en_icmp_le_t c18 rfl ?_
            refine ec_iconst cst_0 rfl ?_
            cases h
            exact en_iret rfl
          · refine en_icmp_le_f c18 rfl ?_
            refine ec_iconst cst_1 rfl ?_
            refine en_goto rfl ?_
            cases h
            exact en_iret rfl
        · refine en_icmp_ge_f c17 rfl ?_
          refine ec_iconst cst_m1 rfl ?_
          refine en_goto rfl ?_
          cases h
          exact en_iret rfl
  · refine en_icmp_eq_f c1 rfl ?_
    refine en_iload rfl rfl ?_
    refine en_goto rfl ?_
    refine en_istore (l' := [(6, .int a0), (0, .int a0), (1, .int a1), (2, .int a2), (3, .int a3), (4, .int a4), (5, .int a5)]) rfl rfl ?_
    refine en_iload rfl rfl ?_
    refine en_iload rfl rfl ?_
    rcases gi h with ⟨c19, h⟩ | ⟨c19, h⟩
    · refine en_icmp_eq_t c19 rfl ?_
      refine en_iload rfl rfl ?_
      refine en_iload rfl rfl ?_
      rcases gi h with ⟨c20, h⟩ | ⟨c20, h⟩
      · refine en_icmp_eq_t c20 rfl ?_
        refine en_iload rfl rfl ?_
        refine en_istore (l' := [(7, .int a5), (6, .int a0), (0, .int a0), (1, .int a1), (2, .int a2), (3, .int a3), (4, .int a4), (5, .int a5)]) rfl rfl ?_
        refine en_iload rfl rfl ?_
        refine en_iload rfl rfl ?_
        rcases gi h with ⟨c21, h⟩ | ⟨c21, h⟩
        · refine en_icmp_ge_t c21 rfl ?_
          refine en_iload rfl rfl ?_
          refine en_iload rfl rfl ?_
          rcases gi h with ⟨c22, h⟩ | ⟨c22, h⟩
          · refine en_icmp_le_t c22 rfl ?_
            refine ec_iconst cst_0 rfl ?_
            cases h
            exact en_iret rfl
          · refine en_icmp_le_f c22 rfl ?_
            refine ec_iconst cst_1 rfl ?_
            refine en_goto rfl ?_
            cases h
            exact en_iret rfl
        · refine en_icmp_ge_f c21 rfl ?_
          refine ec_iconst cst_m1 rfl ?_
          refine en_goto rfl ?_
          cases h
          exact en_iret rfl
      · refine en_icmp_eq_f c20 rfl ?_
        refine en_iload rfl rfl ?_
        refine en_goto rfl ?_
        refine en_istore (l' := [(7, .int a4), (6, .int a0), (0, .int a0), (1, .int a1), (2, .int a2), (3, .int a3), (4, .int a4), (5, .int a5)]) rfl rfl ?_
        refine en_iload rfl rfl ?_
        refine en_iload rfl rfl ?_
        rcases gi h with ⟨c23, h⟩ | ⟨c23, h⟩
        · refine en_icmp_ge_t c23 rfl ?_
          refine en_iload rfl rfl ?_
          refine en_iload rfl rfl ?_
          rcases gi h with ⟨c24, h⟩ | ⟨c24, h⟩
          · refine en_icmp_le_t c24 rfl ?_
            refine ec_iconst cst_0 rfl ?_
            cases h
            exact en_iret rfl
          · refine en_icmp_le_f c24 rfl ?_
            refine ec_iconst cst_1 rfl ?_
            refine en_goto rfl ?_
            cases h
            exact en_iret rfl
        · refine en_icmp_ge_f c23 rfl ?_
          refine ec_iconst cst_m1 rfl ?_
          refine en_goto rfl ?_
          cases h
          exact en_iret rfl
    · refine en_icmp_eq_f c19 rfl ?_
      refine en_iload rfl rfl ?_
      refine en_goto rfl ?_
      refine en_istore (l' := [(7, .int a3), (6, .int a0), (0, .int a0), (1, .int a1), (2, .int a2), (3, .int a3), (4, .int a4), (5, .int a5)]) rfl rfl ?_
      refine en_iload rfl rfl ?_
      refine en_iload rfl rfl ?_
      rcases gi h with ⟨c25, h⟩ | ⟨c25, h⟩
      · refine en_icmp_ge_t c25 rfl ?_
        refine en_iload rfl rfl ?_
        refine en_iload rfl rfl ?_
        rcases gi h with ⟨c26, h⟩ | ⟨c26, h⟩
        · refine en_icmp_le_t c26 rfl ?_
          refine ec_iconst cst_0 rfl ?_
          cases h
          exact en_iret rfl
        · refine en_icmp_le_f c26 rfl ?_
          refine ec_iconst cst_1 rfl ?_
          refine en_goto rfl ?_
          cases h
          exact en_iret rfl
      · refine en_icmp_ge_f c25 rfl ?_
        refine ec_iconst cst_m1 rfl ?_
        refine en_goto rfl ?_
        cases h
        exact en_iret rfl
/-- BulkWriterModel.isBehind(II)Z -/
def f_199 (n : Nat) (a0 : Nat) (a1 : Int32) (a2 : Int32) (C : AmC) : Option (Int32 × AmC) := if isK a0 10 = true then (if ¬ (cI C a0 61) = 0 then (f_196 n a0 a1 a2 C).bind (fun z => match z with | (q3, C4) => (f_197 n a0 a1 a2 C4).bind (fun z => match z with | (q6, C7) => (f_198 n q3 q6 a2 (cI C7 a0 62) (cI C7 a0 63) (cI C7 a0 64) C7).bind (fun z => match z with | (q9, C10) => (f_195 n a1 C10).bind (fun z => match z with | (q12, C13) => (if q12 = 0 then (if q9 ≤ 0 then some ((0 : Int32), C13) else some ((1 : Int32), C13)) else (if 0 ≤ q9 then some ((0 : Int32), C13) else some ((1 : Int32), C13))))))) else some ((1 : Int32), C)) else none
set_option maxRecDepth 20000 in
set_option maxHeartbeats 4000000 in
theorem t_199 {n : Nat} {a0 : Nat} {a1 : Int32} {a2 : Int32} {C : AmC} {r : Int32} {C' : AmC} (h : f_199 n a0 a1 a2 C = some (r, C')) : En false 199 0 [(0, .ref a0), (1, .int a1), (2, .int a2)] [] (mkM C) (.inl (some (.int r))) (mkM C') := by
  unfold f_199 at h
  refine en_aload rfl rfl ?_
  obtain ⟨g1, h⟩ := gd h
  refine ec_getI (ci := 10) (j := 61) ⟨rfl, rfl, rfl⟩ g1 rfl ?_
  rcases gi h with ⟨c2, h⟩ | ⟨c2, h⟩
  · refine en_if_ne_t c2 rfl ?_
    refine en_aload rfl rfl ?_
    refine en_iload rfl rfl ?_
    refine en_iload rfl rfl ?_
    obtain ⟨⟨q3, C4⟩, e5, h⟩ := gb h
    dsimp only at h
    refine ec_callV1 (k' := 196) (n := 3) (rc := 10) (a := a0) (as := [.int a1, .int a2]) ⟨rfl, rfl⟩ rfl rfl (Nat.le_of_ble_eq_true rfl) (Nat.le_of_ble_eq_true rfl) (Nat.le_of_ble_eq_true rfl) g1 rfl (t_196 e5) ?_
    refine en_aload rfl rfl ?_
    refine en_iload rfl rfl ?_
    refine en_iload rfl rfl ?_
    obtain ⟨⟨q6, C7⟩, e8, h⟩ := gb h
    dsimp only at h
    refine ec_callV1 (k' := 197) (n := 3) (rc := 10) (a := a0) (as := [.int a1, .int a2]) ⟨rfl, rfl⟩ rfl rfl (Nat.le_of_ble_eq_true rfl) (Nat.le_of_ble_eq_true rfl) (Nat.le_of_ble_eq_true rfl) g1 rfl (t_197 e8) ?_
    refine en_iload rfl rfl ?_
    refine en_aload rfl rfl ?_
    refine ec_getI (ci := 10) (j := 62) ⟨rfl, rfl, rfl⟩ g1 rfl ?_
    refine en_aload rfl rfl ?_
    refine ec_getI (ci := 10) (j := 63) ⟨rfl, rfl, rfl⟩ g1 rfl ?_
    refine en_aload rfl rfl ?_
    refine ec_getI (ci := 10) (j := 64) ⟨rfl, rfl, rfl⟩ g1 rfl ?_
    obtain ⟨⟨q9, C10⟩, e11, h⟩ := gb h
    dsimp only at h
    refine ec_callS1 (k' := 198) (n := 6) (as := [.int q3, .int q6, .int a2, .int (cI C7 a0 62), .int (cI C7 a0 63), .int (cI C7 a0 64)]) rfl rfl rfl (Nat.le_of_ble_eq_true rfl) (Nat.le_of_ble_eq_true rfl) (Nat.le_of_ble_eq_true rfl) rfl (t_198 e11) ?_
    refine en_istore (l' := [(3, .int q9), (0, .ref a0), (1, .int a1), (2, .int a2)]) rfl rfl ?_
    refine en_iload rfl rfl ?_
    obtain ⟨⟨q12, C13⟩, e14, h⟩ := gb h
    dsimp only at h
    refine ec_callS1 (k' := 195) (n := 1) (as := [.int a1]) rfl rfl rfl (Nat.le_of_ble_eq_true rfl) (Nat.le_of_ble_eq_true rfl) (Nat.le_of_ble_eq_true rfl) rfl (t_195 e14) ?_
    rcases gi h with ⟨c15, h⟩ | ⟨c15, h⟩
    · refine en_if_eq_t c15 rfl ?_
      refine en_iload rfl rfl ?_
      rcases gi h with ⟨c16, h⟩ | ⟨c16, h⟩
      · refine en_if_le_t c16 rfl ?_
        refine ec_iconst cst_0 rfl ?_
        cases h
        exact en_zret (Or.inl rfl) rfl
      · refine en_if_le_f c16 rfl ?_
        refine ec_iconst cst_1 rfl ?_
        refine en_goto rfl ?_
        cases h
        exact en_zret (Or.inr rfl) rfl
    · refine en_if_eq_f c15 rfl ?_
      refine en_iload rfl rfl ?_
      rcases gi h with ⟨c17, h⟩ | ⟨c17, h⟩
      · refine en_if_ge_t c17 rfl ?_
        refine ec_iconst cst_0 rfl ?_
        refine en_goto rfl ?_
        cases h
        exact en_zret (Or.inl rfl) rfl
      · refine en_if_ge_f c17 rfl ?_
        refine ec_iconst cst_1 rfl ?_
        refine en_goto rfl ?_
        cases h
        exact en_zret (Or.inr rfl) rfl
  · refine en_if_ne_f c2 rfl ?_
    refine ec_iconst cst_1 rfl ?_
    cases h
    exact en_zret (Or.inr rfl) rfl
/-- BulkWriterModel.isAhead(III)Z -/
def f_200 (n : Nat) (a0 : Nat) (a1 : Int32) (a2 : Int32) (a3 : Int32) (C : AmC) : Option (Int32 × AmC) := if isK a0 10 = true then (f_196 n a0 a1 a2 C).bind (fun z => match z with | (q2, C3) => (f_197 n a0 a1 a2 C3).bind (fun z => match z with | (q5, C6) => (f_196 n a0 a1 a3 C6).bind (fun z => match z with | (q8, C9) => (f_197 n a0 a1 a3 C9).bind (fun z => match z with | (q11, C12) => (f_198 n q2 q5 a2 q8 q11 a3 C12).bind (fun z => match z with | (q14, C15) => (f_195 n a1 C15).bind (fun z => match z with | (q17, C18) => (if q17 = 0 then (if 0 ≤ q14 then some ((0 : Int32), C18) else some ((1 : Int32), C18)) else (if q14 ≤ 0 then some ((0 : Int32), C18) else some ((1 : Int32), C18))))))))) else none
set_option maxRecDepth 20000 in
set_option maxHeartbeats 4000000 in
theorem t_200 {n : Nat} {a0 : Nat} {a1 : Int32} {a2 : Int32} {a3 : Int32} {C : AmC} {r : Int32} {C' : AmC} (h : f_200 n a0 a1 a2 a3 C = some (r, C')) : En false 200 0 [(0, .ref a0), (1, .int a1), (2, .int a2), (3, .int a3)] [] (mkM C) (.inl (some (.int r))) (mkM C') := by
  unfold f_200 at h
  refine en_aload rfl rfl ?_
  refine en_iload rfl rfl ?_
  refine en_iload rfl rfl ?_
  obtain ⟨g1, h⟩ := gd h
  obtain ⟨⟨q2, C3⟩, e4, h⟩ := gb h
  dsimp only at h
  refine ec_callV1 (k' := 196) (n := 3) (rc := 10) (a := a0) (as := [.int a1, .int a2]) ⟨rfl, rfl⟩ rfl rfl (Nat.le_of_ble_eq_true rfl) (Nat.le_of_ble_eq_true rfl) (Nat.le_of_ble_eq_true rfl) g1 rfl (t_196 e4) ?_
  refine en_aload rfl rfl ?_
  refine en_iload rfl rfl ?_
  refine en_iload rfl rfl ?_
  obtain ⟨⟨q5, C6⟩, e7, h⟩ := gb h
  dsimp only at h
  refine ec_callV1 (k' := 197) (n := 3) (rc := 10) (a := a0) (as := [.int a1, .int a2]) ⟨rfl, rfl⟩ rfl rfl (Nat.le_of_ble_eq_true rfl) (Nat.le_of_ble_eq_true rfl) (Nat.le_of_ble_eq_true rfl) g1 rfl (t_197 e7) ?_
  refine en_iload rfl rfl ?_
  refine en_aload rfl rfl ?_
  refine en_iload rfl rfl ?_
  refine en_iload rfl rfl ?_
  obtain ⟨⟨q8, C9⟩, e10, h⟩ := gb h
  dsimp only at h
  refine ec_callV1 (k' := 196) (n := 3) (rc := 10) (a := a0) (as := [.int a1, .int a3]) ⟨rfl, rfl⟩ rfl rfl (Nat.le_of_ble_eq_true rfl) (Nat.le_of_ble_eq_true rfl) (Nat.le_of_ble_eq_true rfl) g1 rfl (t_196 e10) ?_
  refine en_aload rfl rfl ?_
  refine en_iload rfl rfl ?_
  refine en_iload rfl rfl ?_
  obtain ⟨⟨q11, C12⟩, e13, h⟩ := gb h
  dsimp only at h
  refine ec_callV1 (k' := 197) (n := 3) (rc := 10) (a := a0) (as := [.int a1, .int a3]) ⟨rfl, rfl⟩ rfl rfl (Nat.le_of_ble_eq_true rfl) (Nat.le_of_ble_eq_true rfl) (Nat.le_of_ble_eq_true rfl) g1 rfl (t_197 e13) ?_
  refine en_iload rfl rfl ?_
  obtain ⟨⟨q14, C15⟩, e16, h⟩ := gb h
  dsimp only at h
  refine ec_callS1 (k' := 198) (n := 6) (as := [.int q2, .int q5, .int a2, .int q8, .int q11, .int a3]) rfl rfl rfl (Nat.le_of_ble_eq_true rfl) (Nat.le_of_ble_eq_true rfl) (Nat.le_of_ble_eq_true rfl) rfl (t_198 e16) ?_
  refine en_istore (l' := [(4, .int q14), (0, .ref a0), (1, .int a1), (2, .int a2), (3, .int a3)]) rfl rfl ?_
  refine en_iload rfl rfl ?_
  obtain ⟨⟨q17, C18⟩, e19, h⟩ := gb h
  dsimp only at h
  refine ec_callS1 (k' := 195) (n := 1) (as := [.int a1]) rfl rfl rfl (Nat.le_of_ble_eq_true rfl) (Nat.le_of_ble_eq_true rfl) (Nat.le_of_ble_eq_true rfl) rfl (t_195 e19) ?_
  rcases gi h with ⟨c20, h⟩ | ⟨c20, h⟩
  · refine en_if_eq_t c20 rfl ?_
    refine en_iload rfl rfl ?_
    rcases gi h with ⟨c21, h⟩ | ⟨c21, h⟩
    · refine en_if_ge_t c21 rfl ?_
      refine ec_iconst cst_0 rfl ?_
      cases h
      exact en_zret (Or.inl rfl) rfl
    · refine en_if_ge_f c21 rfl ?_
      refine ec_iconst cst_1 rfl ?_
      refine en_goto rfl ?_
      cases h
      exact en_zret (Or.inr rfl) rfl
  · refine en_if_eq_f c20 rfl ?_
    refine en_iload rfl rfl ?_
    rcases gi h with ⟨c22, h⟩ | ⟨c22, h⟩
    · refine en_if_le_t c22 rfl ?_
      refine ec_iconst cst_0 rfl ?_
      refine en_goto rfl ?_
      cases h
      exact en_zret (Or.inl rfl) rfl
    · refine en_if_le_f c22 rfl ?_
      refine ec_iconst cst_1 rfl ?_
      refine en_goto rfl ?_
      cases h
      exact en_zret (Or.inr rfl) rfl
/-- BulkWriterModel.otherAt(II)I -/
def f_206 (n : Nat) (a0 : Nat) (a1 : Int32) (a2 : Int32) (C : AmC) : Option (Int32 × AmC) := if isK a0 10 = true then (cP C a0 31).bind (fun r2 => if isK r2 12 = true then if amIn (((4 : Int32) * (((10 : Int32) * (cI C a0 40)) + a1)) + a2) (aLen r2) = true then some ((cI C r2 (Int32.toNatClampNeg (((4 : Int32) * (((10 : Int32) * (cI C a0 40)) + a1)) + a2))), C) else none else none) else none
set_option maxRecDepth 20000 in
set_option maxHeartbeats 4000000 in
theorem t_206 {n : Nat} {a0 : Nat} {a1 : Int32} {a2 : Int32} {C : AmC} {r : Int32} {C' : AmC} (h : f_206 n a0 a1 a2 C = some (r, C')) : En false 206 0 [(0, .ref a0), (1, .int a1), (2, .int a2)] [] (mkM C) (.inl (some (.int r))) (mkM C') := by
  unfold f_206 at h
  refine en_aload rfl rfl ?_
  obtain ⟨g1, h⟩ := gd h
  obtain ⟨r2, e3, h⟩ := gb h
  refine ec_getP (ci := 10) (j := 31) ⟨rfl, rfl, rfl⟩ g1 e3 rfl ?_
  refine ec_iconst cst_4 rfl ?_
  refine ec_iconst cst_10 rfl ?_
  refine en_aload rfl rfl ?_
  refine ec_getI (ci := 10) (j := 40) ⟨rfl, rfl, rfl⟩ g1 rfl ?_
  refine en_imul rfl ?_
  refine en_iload rfl rfl ?_
  refine en_iadd rfl ?_
  refine en_imul rfl ?_
  refine en_iload rfl rfl ?_
  refine en_iadd rfl ?_
  obtain ⟨g4, h⟩ := gd h
  obtain ⟨g5, h⟩ := gd h
  refine ec_iaload g4 g5 rfl ?_
  cases h
  exact en_iret rfl
/-- BulkWriterModel.isAlone(II)Z -/
def f_202 (n : Nat) (a0 : Nat) (a1 : Int32) (a2 : Int32) (C : AmC) : Option (Int32 × AmC) := if isK a0 10 = true then (cP C a0 17).bind (fun r2 => if isK r2 12 = true then if amIn a1 (aLen r2) = true then (if ¬ (cI C r2 (Int32.toNatClampNeg a1)) = (1 : Int32) then some ((0 : Int32), C) else (cP C a0 14).bind (fun r7 => (cP C a0 16).bind (fun r9 => if isK r9 12 = true then if amIn a1 (aLen r9) = true then if isK r7 12 = true then if amIn (cI C r9 (Int32.toNatClampNeg a1)) (aLen r7) = true then (if ¬ (cI C r7 (Int32.toNatClampNeg (cI C r9 (Int32.toNatClampNeg a1)))) = a2 then some ((0 : Int32), C) else some ((1 : Int32), C)) else none else none else none else none))) else none else none) else none
set_option maxRecDepth 20000 in
set_option maxHeartbeats 4000000 in
theorem t_202 {n : Nat} {a0 : Nat} {a1 : Int32} {a2 : Int32} {C : AmC} {r : Int32} {C' : AmC} (h : f_202 n a0 a1 a2 C = some (r, C')) : En false 202 0 [(0, .ref a0), (1, .int a1), (2, .int a2)] [] (mkM C) (.inl (some (.int r))) (mkM C') := by
  unfold f_202 at h
  refine en_aload rfl rfl ?_
  obtain ⟨g1, h⟩ := gd h
  obtain ⟨r2, e3, h⟩ := gb h
  refine ec_getP (ci := 10) (j := 17) ⟨rfl, rfl, rfl⟩ g1 e3 rfl ?_
  refine en_iload rfl rfl ?_
  obtain ⟨g4, h⟩ := gd h
  obtain ⟨g5, h⟩ := gd h
  refine ec_iaload g4 g5 rfl ?_
  refine ec_iconst cst_1 rfl ?_
  rcases gi h with ⟨c6, h⟩ | ⟨c6, h⟩
  · refine en_icmp_ne_t c6 rfl ?_
    refine ec_iconst cst_0 rfl ?_
    cases h
    exact en_zret (Or.inl rfl) rfl
  · refine en_icmp_ne_f c6 rfl ?_
    refine en_aload rfl rfl ?_
    obtain ⟨r7, e8, h⟩ := gb h
    refine ec_getP (ci := 10) (j := 14) ⟨rfl, rfl, rfl⟩ g1 e8 rfl ?_
    refine en_aload rfl rfl ?_
    obtain ⟨r9, e10, h⟩ := gb h
    refine ec_getP (ci := 10) (j := 16) ⟨rfl, rfl, rfl⟩ g1 e10 rfl ?_
    refine en_iload rfl rfl ?_
    obtain ⟨g11, h⟩ := gd h
    obtain ⟨g12, h⟩ := gd h
    refine ec_iaload g11 g12 rfl ?_
    obtain ⟨g13, h⟩ := gd h
    obtain ⟨g14, h⟩ := gd h
    refine ec_iaload g13 g14 rfl ?_
    refine en_iload rfl rfl ?_
    rcases gi h with ⟨c15, h⟩ | ⟨c15, h⟩
    · refine en_icmp_ne_t c15 rfl ?_
      refine ec_iconst cst_0 rfl ?_
      cases h
      exact en_zret (Or.inl rfl) rfl
    · refine en_icmp_ne_f c15 rfl ?_
      refine ec_iconst cst_1 rfl ?_
      refine en_goto rfl ?_
      cases h
      exact en_zret (Or.inr rfl) rfl
/-- BulkWriterModel.isSo(III)Z -/
def f_203 (n : Nat) (a0 : Int32) (a1 : Int32) (a2 : Int32) (C : AmC) : Option (Int32 × AmC) := (if ¬ a1 = (60 : Int32) then (if ¬ a1 = (62 : Int32) then (if ¬ a0 = a2 then some ((0 : Int32), C) else some ((1 : Int32), C)) else (if a0 ≤ a2 then some ((0 : Int32), C) else some ((1 : Int32), C))) else (if a2 ≤ a0 then some ((0 : Int32), C) else some ((1 : Int32), C)))
set_option maxRecDepth 20000 in
set_option maxHeartbeats 4000000 in
theorem t_203 {n : Nat} {a0 : Int32} {a1 : Int32} {a2 : Int32} {C : AmC} {r : Int32} {C' : AmC} (h : f_203 n a0 a1 a2 C = some (r, C')) : En false 203 0 [(0, .int a0), (1, .int a1), (2, .int a2)] [] (mkM C) (.inl (some (.int r))) (mkM C') := by
  unfold f_203 at h
  refine en_iload rfl rfl ?_
  refine ec_iconst cst_60 rfl ?_
  rcases gi h with ⟨c1, h⟩ | ⟨c1, h⟩
  · refine en_icmp_ne_t c1 rfl ?_
    refine en_iload rfl rfl ?_
    refine ec_iconst cst_62 rfl ?_
    rcases gi h with ⟨c2, h⟩ | ⟨c2, h⟩
    · refine en_icmp_ne_t c2 rfl ?_
      refine en_iload rfl rfl ?_
      refine en_iload rfl rfl ?_
      rcases gi h with ⟨c3, h⟩ | ⟨c3, h⟩
      · refine en_icmp_ne_t c3 rfl ?_
        refine ec_iconst cst_0 rfl ?_
        cases h
        exact en_zret (Or.inl rfl) rfl
      · refine en_icmp_ne_f c3 rfl ?_
        refine ec_iconst cst_1 rfl ?_
        refine en_goto rfl ?_
        cases h
        exact en_zret (Or.inr rfl) rfl
    · refine en_icmp_ne_f c2 rfl ?_
      refine en_iload rfl rfl ?_
      refine en_iload rfl rfl ?_
      rcases gi h with ⟨c4, h⟩ | ⟨c4, h⟩
      · refine en_icmp_le_t c4 rfl ?_
        refine ec_iconst cst_0 rfl ?_
        refine en_goto rfl ?_
        cases h
        exact en_zret (Or.inl rfl) rfl
      · refine en_icmp_le_f c4 rfl ?_
        refine ec_iconst cst_1 rfl ?_
        refine en_goto rfl ?_
        cases h
        exact en_zret (Or.inr rfl) rfl
  · refine en_icmp_ne_f c1 rfl ?_
    refine en_iload rfl rfl ?_
    refine en_iload rfl rfl ?_
    rcases gi h with ⟨c5, h⟩ | ⟨c5, h⟩
    · refine en_icmp_ge_t c5 rfl ?_
      refine ec_iconst cst_0 rfl ?_
      refine en_goto rfl ?_
      cases h
      exact en_zret (Or.inl rfl) rfl
    · refine en_icmp_ge_f c5 rfl ?_
      refine ec_iconst cst_1 rfl ?_
      refine en_goto rfl ?_
      cases h
      exact en_zret (Or.inr rfl) rfl
def lp_201_54 : Nat → Nat → Int32 → Int32 → Int32 → Int32 → AmC → Option (((Int32)) × AmC)
  | 0, _, _, _, _, _, _ => none
  | n + 1, p0, p2, p4, p5, p6, C => if isK p0 10 = true then (cP C p0 36).bind (fun r21 => if isK r21 12 = true then if amIn (cI C p0 59) (aLen r21) = true then (cP C p0 37).bind (fun r25 => if isK r25 12 = true then if amIn (cI C p0 59) (aLen r25) = true then (if ((cI C r21 (Int32.toNatClampNeg (cI C p0 59))) + (cI C r25 (Int32.toNatClampNeg (cI C p0 59)))) ≤ p6 then some (p5, C) else (cP C p0 18).bind (fun r30 => if isK r30 12 = true then if amIn p6 (aLen r30) = true then (f_202 n p0 (cI C r30 (Int32.toNatClampNeg p6)) (1 : Int32) C).bind (fun z => match z with | (q34, C35) => (if q34 = 0 then lp_201_54 n p0 p2 p4 p5 (p6 + (1 : Int32)) C35 else (cP C35 p0 20).bind (fun r38 => if isK r38 12 = true then if amIn p6 (aLen r38) = true then (f_202 n p0 (cI C35 r38 (Int32.toNatClampNeg p6)) (0 : Int32) C35).bind (fun z => match z with | (q42, C43) => (if q42 = 0 then lp_201_54 n p0 p2 p4 p5 (p6 + (1 : Int32)) C43 else (cP C43 p0 15).bind (fun r46 => (cP C43 p0 16).bind (fun r48 => (cP C43 p0 18).bind (fun r50 => if isK r50 12 = true then if amIn p6 (aLen r50) = true then if isK r48 12 = true then if amIn (cI C43 r50 (Int32.toNatClampNeg p6)) (aLen r48) = true then if isK r46 12 = true then if amIn (cI C43 r48 (Int32.toNatClampNeg (cI C43 r50 (Int32.toNatClampNeg p6)))) (aLen r46) = true then (if (cI C43 r46 (Int32.toNatClampNeg (cI C43 r48 (Int32.toNatClampNeg (cI C43 r50 (Int32.toNatClampNeg p6)))))) = p4 then (if p5 = 0 then lp_201_54 n p0 p2 p4 (0 : Int32) (p6 + (1 : Int32)) C43 else (f_193 n p0 p2 p4 C43).bind (fun z => match z with | (q60, C61) => (cP C61 p0 19).bind (fun r63 => if isK r63 12 = true then if amIn p6 (aLen r63) = true then (cP C61 p0 15).bind (fun r67 => (cP C61 p0 16).bind (fun r69 => (cP C61 p0 20).bind (fun r71 => if isK r71 12 = true then if amIn p6 (aLen r71) = true then if isK r69 12 = true then if amIn (cI C61 r71 (Int32.toNatClampNeg p6)) (aLen r69) = true then if isK r67 12 = true then if amIn (cI C61 r69 (Int32.toNatClampNeg (cI C61 r71 (Int32.toNatClampNeg p6)))) (aLen r67) = true then (f_203 n q60 (cI C61 r63 (Int32.toNatClampNeg p6)) (cI C61 r67 (Int32.toNatClampNeg (cI C61 r69 (Int32.toNatClampNeg (cI C61 r71 (Int32.toNatClampNeg p6)))))) C61).bind (fun z => match z with | (q79, C80) => (if q79 = 0 then lp_201_54 n p0 p2 p4 (0 : Int32) (p6 + (1 : Int32)) C80 else lp_201_54 n p0 p2 p4 (1 : Int32) (p6 + (1 : Int32)) C80)) else none else none else none else none else none else none))) else none else none))) else lp_201_54 n p0 p2 p4 p5 (p6 + (1 : Int32)) C43) else none else none else none else none else none else none))))) else none else none))) else none else none)) else none else none) else none else none) else none
set_option maxRecDepth 20000 in
set_option maxHeartbeats 4000000 in
theorem lt_201_54 : ∀ (n : Nat) (p0 : Nat) (p2 : Int32) (p4 : Int32) (p5 : Int32) (p6 : Int32) (C : AmC) (r : ((Int32)) × AmC), lp_201_54 n p0 p2 p4 p5 p6 C = some r → ∀ (o : AmO) (M' : AmM), (match r with
        | (w5, C') => En false 201 124 [(5, .int w5)] [] (mkM C') o M') → En false 201 54 [(0, .ref p0), (2, .int p2), (4, .int p4), (5, .int p5), (6, .int p6)] [] (mkM C) o M' := by
  intro n
  induction n with
  | zero => intro p0 p2 p4 p5 p6 C r h; cases h
  | succ n ih =>
    intro p0 p2 p4 p5 p6 C r h o M' hk
    unfold lp_201_54 at h
    refine en_iload rfl rfl ?_
    refine en_aload rfl rfl ?_
    obtain ⟨g20, h⟩ := gd h
    obtain ⟨r21, e22, h⟩ := gb h
    refine ec_getP (ci := 10) (j := 36) ⟨rfl, rfl, rfl⟩ g20 e22 rfl ?_
    refine en_aload rfl rfl ?_
    refine ec_getI (ci := 10) (j := 59) ⟨rfl, rfl, rfl⟩ g20 rfl ?_
    obtain ⟨g23, h⟩ := gd h
    obtain ⟨g24, h⟩ := gd h
    refine ec_iaload g23 g24 rfl ?_
    refine en_aload rfl rfl ?_
    obtain ⟨r25, e26, h⟩ := gb h
    refine ec_getP (ci := 10) (j := 37) ⟨rfl, rfl, rfl⟩ g20 e26 rfl ?_
    refine en_aload rfl rfl ?_
    refine ec_getI (ci := 10) (j := 59) ⟨rfl, rfl, rfl⟩ g20 rfl ?_
    obtain ⟨g27, h⟩ := gd h
    obtain ⟨g28, h⟩ := gd h
    refine ec_iaload g27 g28 rfl ?_
    refine en_iadd rfl ?_
    rcases gi h with ⟨c29, h⟩ | ⟨c29, h⟩
    · refine en_icmp_ge_t c29 rfl ?_
      cases h
      exact en_sub [3] rfl rfl hk
    · refine en_icmp_ge_f c29 rfl ?_
      refine en_aload rfl rfl ?_
      refine en_aload rfl rfl ?_
      obtain ⟨r30, e31, h⟩ := gb h
      refine ec_getP (ci := 10) (j := 18) ⟨rfl, rfl, rfl⟩ g20 e31 rfl ?_
      refine en_iload rfl rfl ?_
      obtain ⟨g32, h⟩ := gd h
      obtain ⟨g33, h⟩ := gd h
      refine ec_iaload g32 g33 rfl ?_
      refine ec_iconst cst_1 rfl ?_
      obtain ⟨⟨q34, C35⟩, e36, h⟩ := gb h
      dsimp only at h
      refine ec_callV1 (k' := 202) (n := 3) (rc := 10) (a := p0) (as := [.int (cI C r30 (Int32.toNatClampNeg p6)), .int (1 : Int32)]) ⟨rfl, rfl⟩ rfl rfl (Nat.le_of_ble_eq_true rfl) (Nat.le_of_ble_eq_true rfl) (Nat.le_of_ble_eq_true rfl) g20 rfl (t_202 e36) ?_
      rcases gi h with ⟨c37, h⟩ | ⟨c37, h⟩
      · refine en_if_eq_t c37 rfl ?_
        refine ec_iinc (l' := [(6, .int (p6 + (1 : Int32))), (0, .ref p0), (2, .int p2), (4, .int p4), (5, .int p5)]) rfl cst_1 rfl rfl ?_
        refine en_goto rfl ?_
        refine en_sub [1, 2, 3, 4, 0] rfl rfl ?_
        exact ih _ _ _ _ _ _ _ h o M' hk
      · refine en_if_eq_f c37 rfl ?_
        refine en_aload rfl rfl ?_
        refine en_aload rfl rfl ?_
        obtain ⟨r38, e39, h⟩ := gb h
        refine ec_getP (ci := 10) (j := 20) ⟨rfl, rfl, rfl⟩ g20 e39 rfl ?_
        refine en_iload rfl rfl ?_
        obtain ⟨g40, h⟩ := gd h
        obtain ⟨g41, h⟩ := gd h
        refine ec_iaload g40 g41 rfl ?_
        refine ec_iconst cst_0 rfl ?_
        obtain ⟨⟨q42, C43⟩, e44, h⟩ := gb h
        dsimp only at h
        refine ec_callV1 (k' := 202) (n := 3) (rc := 10) (a := p0) (as := [.int (cI C35 r38 (Int32.toNatClampNeg p6)), .int (0 : Int32)]) ⟨rfl, rfl⟩ rfl rfl (Nat.le_of_ble_eq_true rfl) (Nat.le_of_ble_eq_true rfl) (Nat.le_of_ble_eq_true rfl) g20 rfl (t_202 e44) ?_
        rcases gi h with ⟨c45, h⟩ | ⟨c45, h⟩
        · refine en_if_eq_t c45 rfl ?_
          refine ec_iinc (l' := [(6, .int (p6 + (1 : Int32))), (0, .ref p0), (2, .int p2), (4, .int p4), (5, .int p5)]) rfl cst_1 rfl rfl ?_
          refine en_goto rfl ?_
          refine en_sub [1, 2, 3, 4, 0] rfl rfl ?_
          exact ih _ _ _ _ _ _ _ h o M' hk
        · refine en_if_eq_f c45 rfl ?_
          refine en_aload rfl rfl ?_
          obtain ⟨r46, e47, h⟩ := gb h
          refine ec_getP (ci := 10) (j := 15) ⟨rfl, rfl, rfl⟩ g20 e47 rfl ?_
          refine en_aload rfl rfl ?_
          obtain ⟨r48, e49, h⟩ := gb h
          refine ec_getP (ci := 10) (j := 16) ⟨rfl, rfl, rfl⟩ g20 e49 rfl ?_
          refine en_aload rfl rfl ?_
          obtain ⟨r50, e51, h⟩ := gb h
          refine ec_getP (ci := 10) (j := 18) ⟨rfl, rfl, rfl⟩ g20 e51 rfl ?_
          refine en_iload rfl rfl ?_
          obtain ⟨g52, h⟩ := gd h
          obtain ⟨g53, h⟩ := gd h
          refine ec_iaload g52 g53 rfl ?_
          obtain ⟨g54, h⟩ := gd h
          obtain ⟨g55, h⟩ := gd h
          refine ec_iaload g54 g55 rfl ?_
          obtain ⟨g56, h⟩ := gd h
          obtain ⟨g57, h⟩ := gd h
          refine ec_iaload g56 g57 rfl ?_
          refine en_iload rfl rfl ?_
          rcases gi h with ⟨c58, h⟩ | ⟨c58, h⟩
          · refine en_icmp_eq_t c58 rfl ?_
            refine en_iload rfl rfl ?_
            rcases gi h with ⟨c59, h⟩ | ⟨c59, h⟩
            · refine en_if_eq_t c59 rfl ?_
              refine ec_iconst cst_0 rfl ?_
              refine en_istore (l' := [(5, .int (0 : Int32)), (0, .ref p0), (2, .int p2), (4, .int p4), (6, .int p6)]) rfl rfl ?_
              refine ec_iinc (l' := [(6, .int (p6 + (1 : Int32))), (5, .int (0 : Int32)), (0, .ref p0), (2, .int p2), (4, .int p4)]) rfl cst_1 rfl rfl ?_
              refine en_goto rfl ?_
              refine en_sub [2, 3, 4, 1, 0] rfl rfl ?_
              exact ih _ _ _ _ _ _ _ h o M' hk
            · refine en_if_eq_f c59 rfl ?_
              refine en_aload rfl rfl ?_
              refine en_iload rfl rfl ?_
              refine en_iload rfl rfl ?_
              obtain ⟨⟨q60, C61⟩, e62, h⟩ := gb h
              dsimp only at h
              refine ec_callV1 (k' := 193) (n := 3) (rc := 10) (a := p0) (as := [.int p2, .int p4]) ⟨rfl, rfl⟩ rfl rfl (Nat.le_of_ble_eq_true rfl) (Nat.le_of_ble_eq_true rfl) (Nat.le_of_ble_eq_true rfl) g20 rfl (t_193 e62) ?_
              refine en_aload rfl rfl ?_
              obtain ⟨r63, e64, h⟩ := gb h
              refine ec_getP (ci := 10) (j := 19) ⟨rfl, rfl, rfl⟩ g20 e64 rfl ?_
              refine en_iload rfl rfl ?_
              obtain ⟨g65, h⟩ := gd h
              obtain ⟨g66, h⟩ := gd h
              refine ec_iaload g65 g66 rfl ?_
              refine en_aload rfl rfl ?_
              obtain ⟨r67, e68, h⟩ := gb h
              refine ec_getP (ci := 10) (j := 15) ⟨rfl, rfl, rfl⟩ g20 e68 rfl ?_
              refine en_aload rfl rfl ?_
              obtain ⟨r69, e70, h⟩ := gb h
              refine ec_getP (ci := 10) (j := 16) ⟨rfl, rfl, rfl⟩ g20 e70 rfl ?_
              refine en_aload rfl rfl ?_
              obtain ⟨r71, e72, h⟩ := gb h
              refine ec_getP (ci := 10) (j := 20) ⟨rfl, rfl, rfl⟩ g20 e72 rfl ?_
              refine en_iload rfl rfl ?_
              obtain ⟨g73, h⟩ := gd h
              obtain ⟨g74, h⟩ := gd h
              refine ec_iaload g73 g74 rfl ?_
              obtain ⟨g75, h⟩ := gd h
              obtain ⟨g76, h⟩ := gd h
              refine ec_iaload g75 g76 rfl ?_
              obtain ⟨g77, h⟩ := gd h
              obtain ⟨g78, h⟩ := gd h
              refine ec_iaload g77 g78 rfl ?_
              obtain ⟨⟨q79, C80⟩, e81, h⟩ := gb h
              dsimp only at h
              refine ec_callS1 (k' := 203) (n := 3) (as := [.int q60, .int (cI C61 r63 (Int32.toNatClampNeg p6)), .int (cI C61 r67 (Int32.toNatClampNeg (cI C61 r69 (Int32.toNatClampNeg (cI C61 r71 (Int32.toNatClampNeg p6))))))]) rfl rfl rfl (Nat.le_of_ble_eq_true rfl) (Nat.le_of_ble_eq_true rfl) (Nat.le_of_ble_eq_true rfl) rfl (t_203 e81) ?_
              rcases gi h with ⟨c82, h⟩ | ⟨c82, h⟩
              · refine en_if_eq_t c82 rfl ?_
                refine ec_iconst cst_0 rfl ?_
                refine en_istore (l' := [(5, .int (0 : Int32)), (0, .ref p0), (2, .int p2), (4, .int p4), (6, .int p6)]) rfl rfl ?_
                refine ec_iinc (l' := [(6, .int (p6 + (1 : Int32))), (5, .int (0 : Int32)), (0, .ref p0), (2, .int p2), (4, .int p4)]) rfl cst_1 rfl rfl ?_
                refine en_goto rfl ?_
                refine en_sub [2, 3, 4, 1, 0] rfl rfl ?_
                exact ih _ _ _ _ _ _ _ h o M' hk
              · refine en_if_eq_f c82 rfl ?_
                refine ec_iconst cst_1 rfl ?_
                refine en_goto rfl ?_
                refine en_istore (l' := [(5, .int (1 : Int32)), (0, .ref p0), (2, .int p2), (4, .int p4), (6, .int p6)]) rfl rfl ?_
                refine ec_iinc (l' := [(6, .int (p6 + (1 : Int32))), (5, .int (1 : Int32)), (0, .ref p0), (2, .int p2), (4, .int p4)]) rfl cst_1 rfl rfl ?_
                refine en_goto rfl ?_
                refine en_sub [2, 3, 4, 1, 0] rfl rfl ?_
                exact ih _ _ _ _ _ _ _ h o M' hk
          · refine en_icmp_eq_f c58 rfl ?_
            refine en_goto rfl ?_
            refine ec_iinc (l' := [(6, .int (p6 + (1 : Int32))), (0, .ref p0), (2, .int p2), (4, .int p4), (5, .int p5)]) rfl cst_1 rfl rfl ?_
            refine en_goto rfl ?_
            refine en_sub [1, 2, 3, 4, 0] rfl rfl ?_
            exact ih _ _ _ _ _ _ _ h o M' hk
/-- BulkWriterModel.isInRange(III)Z -/
def f_201 (n : Nat) (a0 : Nat) (a1 : Int32) (a2 : Int32) (a3 : Int32) (C : AmC) : Option (Int32 × AmC) := (if a1 = 0 then some ((1 : Int32), C) else if isK a0 10 = true then (if ¬ (cI C a0 59) = (-1 : Int32) then (cP C a0 29).bind (fun r4 => (f_194 n a0 a1 C).bind (fun z => match z with | (q6, C7) => if isK r4 12 = true then if amIn q6 (aLen r4) = true then (cP C7 a0 32).bind (fun r11 => if isK r11 12 = true then if amIn (cI C7 a0 59) (aLen r11) = true then (if ¬ (cI C7 r11 (Int32.toNatClampNeg (cI C7 a0 59))) = (3 : Int32) then (cP C7 a0 36).bind (fun r16 => if isK r16 12 = true then if amIn (cI C7 a0 59) (aLen r16) = true then (lp_201_54 n a0 a2 (cI C7 r4 (Int32.toNatClampNeg q6)) (1 : Int32) (cI C7 r16 (Int32.toNatClampNeg (cI C7 a0 59))) C7).bind (fun q => match q with | (u86, C85) => if u86 = 0 ∨ u86 = 1 then some (u86, C85) else none) else none else none) else (cP C7 a0 34).bind (fun r88 => if isK r88 12 = true then if amIn (cI C7 a0 59) (aLen r88) = true then (if ¬ (cI C7 r4 (Int32.toNatClampNeg q6)) = (cI C7 r88 (Int32.toNatClampNeg (cI C7 a0 59))) then some ((1 : Int32), C7) else (f_193 n a0 a2 (cI C7 r4 (Int32.toNatClampNeg q6)) C7).bind (fun z => match z with | (q93, C94) => (cP C94 a0 35).bind (fun r96 => if isK r96 12 = true then if amIn (cI C94 a0 59) (aLen r96) = true then (f_206 n a0 a3 (cI C94 r96 (Int32.toNatClampNeg (cI C94 a0 59))) C94).bind (fun z => match z with | (q100, C101) => (if ¬ q93 = q100 then some ((0 : Int32), C101) else some ((1 : Int32), C101))) else none else none))) else none else none)) else none else none) else none else none)) else some ((1 : Int32), C)) else none)
set_option maxRecDepth 20000 in
set_option maxHeartbeats 4000000 in
theorem t_201 {n : Nat} {a0 : Nat} {a1 : Int32} {a2 : Int32} {a3 : Int32} {C : AmC} {r : Int32} {C' : AmC} (h : f_201 n a0 a1 a2 a3 C = some (r, C')) : En false 201 0 [(0, .ref a0), (1, .int a1), (2, .int a2), (3, .int a3)] [] (mkM C) (.inl (some (.int r))) (mkM C') := by
  unfold f_201 at h
  refine en_iload rfl rfl ?_
  rcases gi h with ⟨c1, h⟩ | ⟨c1, h⟩
  · refine en_if_eq_t c1 rfl ?_
    refine ec_iconst cst_1 rfl ?_
    cases h
    exact en_zret (Or.inr rfl) rfl
  · refine en_if_eq_f c1 rfl ?_
    refine en_aload rfl rfl ?_
    obtain ⟨g2, h⟩ := gd h
    refine ec_getI (ci := 10) (j := 59) ⟨rfl, rfl, rfl⟩ g2 rfl ?_
    refine ec_iconst cst_m1 rfl ?_
    rcases gi h with ⟨c3, h⟩ | ⟨c3, h⟩
    · refine en_icmp_ne_t c3 rfl ?_
      refine en_aload rfl rfl ?_
      obtain ⟨r4, e5, h⟩ := gb h
      refine ec_getP (ci := 10) (j := 29) ⟨rfl, rfl, rfl⟩ g2 e5 rfl ?_
      refine en_aload rfl rfl ?_
      refine en_iload rfl rfl ?_
      obtain ⟨⟨q6, C7⟩, e8, h⟩ := gb h
      dsimp only at h
      refine ec_callV1 (k' := 194) (n := 2) (rc := 10) (a := a0) (as := [.int a1]) ⟨rfl, rfl⟩ rfl rfl (Nat.le_of_ble_eq_true rfl) (Nat.le_of_ble_eq_true rfl) (Nat.le_of_ble_eq_true rfl) g2 rfl (t_194 e8) ?_
      obtain ⟨g9, h⟩ := gd h
      obtain ⟨g10, h⟩ := gd h
      refine ec_iaload g9 g10 rfl ?_
      refine en_istore (l' := [(4, .int (cI C7 r4 (Int32.toNatClampNeg q6))), (0, .ref a0), (1, .int a1), (2, .int a2), (3, .int a3)]) rfl rfl ?_
      refine en_aload rfl rfl ?_
      obtain ⟨r11, e12, h⟩ := gb h
      refine ec_getP (ci := 10) (j := 32) ⟨rfl, rfl, rfl⟩ g2 e12 rfl ?_
      refine en_aload rfl rfl ?_
      refine ec_getI (ci := 10) (j := 59) ⟨rfl, rfl, rfl⟩ g2 rfl ?_
      obtain ⟨g13, h⟩ := gd h
      obtain ⟨g14, h⟩ := gd h
      refine ec_iaload g13 g14 rfl ?_
      refine ec_iconst cst_3 rfl ?_
      rcases gi h with ⟨c15, h⟩ | ⟨c15, h⟩
      · refine en_icmp_ne_t c15 rfl ?_
        refine ec_iconst cst_1 rfl ?_
        refine en_istore (l' := [(5, .int (1 : Int32)), (4, .int (cI C7 r4 (Int32.toNatClampNeg q6))), (0, .ref a0), (1, .int a1), (2, .int a2), (3, .int a3)]) rfl rfl ?_
        refine en_aload rfl rfl ?_
        obtain ⟨r16, e17, h⟩ := gb h
        refine ec_getP (ci := 10) (j := 36) ⟨rfl, rfl, rfl⟩ g2 e17 rfl ?_
        refine en_aload rfl rfl ?_
        refine ec_getI (ci := 10) (j := 59) ⟨rfl, rfl, rfl⟩ g2 rfl ?_
        obtain ⟨g18, h⟩ := gd h
        obtain ⟨g19, h⟩ := gd h
        refine ec_iaload g18 g19 rfl ?_
        refine en_istore (l' := [(6, .int (cI C7 r16 (Int32.toNatClampNeg (cI C7 a0 59)))), (5, .int (1 : Int32)), (4, .int (cI C7 r4 (Int32.toNatClampNeg q6))), (0, .ref a0), (1, .int a1), (2, .int a2), (3, .int a3)]) rfl rfl ?_
        obtain ⟨⟨q83, C85⟩, e84, h⟩ := gb h
        refine en_sub [3, 5, 2, 1, 0] rfl rfl (lt_201_54 n _ _ _ _ _ _ _ e84 _ _ ?_)
        revert h e84; revert q83; intro u86 e84 h
        dsimp only at h ⊢
        refine en_iload rfl rfl ?_
        obtain ⟨g87, h⟩ := gd h
        cases h
        exact en_zret g87 rfl
      · refine en_icmp_ne_f c15 rfl ?_
        refine en_iload rfl rfl ?_
        refine en_aload rfl rfl ?_
        obtain ⟨r88, e89, h⟩ := gb h
        refine ec_getP (ci := 10) (j := 34) ⟨rfl, rfl, rfl⟩ g2 e89 rfl ?_
        refine en_aload rfl rfl ?_
        refine ec_getI (ci := 10) (j := 59) ⟨rfl, rfl, rfl⟩ g2 rfl ?_
        obtain ⟨g90, h⟩ := gd h
        obtain ⟨g91, h⟩ := gd h
        refine ec_iaload g90 g91 rfl ?_
        rcases gi h with ⟨c92, h⟩ | ⟨c92, h⟩
        · refine en_icmp_ne_t c92 rfl ?_
          refine ec_iconst cst_1 rfl ?_
          refine en_goto rfl ?_
          cases h
          exact en_zret (Or.inr rfl) rfl
        · refine en_icmp_ne_f c92 rfl ?_
          refine en_aload rfl rfl ?_
          refine en_iload rfl rfl ?_
          refine en_iload rfl rfl ?_
          obtain ⟨⟨q93, C94⟩, e95, h⟩ := gb h
          dsimp only at h
          refine ec_callV1 (k' := 193) (n := 3) (rc := 10) (a := a0) (as := [.int a2, .int (cI C7 r4 (Int32.toNatClampNeg q6))]) ⟨rfl, rfl⟩ rfl rfl (Nat.le_of_ble_eq_true rfl) (Nat.le_of_ble_eq_true rfl) (Nat.le_of_ble_eq_true rfl) g2 rfl (t_193 e95) ?_
          refine en_aload rfl rfl ?_
          refine en_iload rfl rfl ?_
          refine en_aload rfl rfl ?_
          obtain ⟨r96, e97, h⟩ := gb h
          refine ec_getP (ci := 10) (j := 35) ⟨rfl, rfl, rfl⟩ g2 e97 rfl ?_
          refine en_aload rfl rfl ?_
          refine ec_getI (ci := 10) (j := 59) ⟨rfl, rfl, rfl⟩ g2 rfl ?_
          obtain ⟨g98, h⟩ := gd h
          obtain ⟨g99, h⟩ := gd h
          refine ec_iaload g98 g99 rfl ?_
          obtain ⟨⟨q100, C101⟩, e102, h⟩ := gb h
          dsimp only at h
          refine ec_callV1 (k' := 206) (n := 3) (rc := 10) (a := a0) (as := [.int a3, .int (cI C94 r96 (Int32.toNatClampNeg (cI C94 a0 59)))]) ⟨rfl, rfl⟩ rfl rfl (Nat.le_of_ble_eq_true rfl) (Nat.le_of_ble_eq_true rfl) (Nat.le_of_ble_eq_true rfl) g2 rfl (t_206 e102) ?_
          rcases gi h with ⟨c103, h⟩ | ⟨c103, h⟩
          · refine en_icmp_ne_t c103 rfl ?_
            refine ec_iconst cst_0 rfl ?_
            cases h
            exact en_zret (Or.inl rfl) rfl
          · refine en_icmp_ne_f c103 rfl ?_
            refine ec_iconst cst_1 rfl ?_
            refine en_goto rfl ?_
            cases h
            exact en_zret (Or.inr rfl) rfl
    · refine en_icmp_ne_f c3 rfl ?_
      refine ec_iconst cst_1 rfl ?_
      cases h
      exact en_zret (Or.inr rfl) rfl
/-- BulkWriterModel.begins(I)V -/
def f_204 (n : Nat) (a0 : Nat) (a1 : Int32) (C : AmC) : Option (Unit × AmC) := if isK a0 10 = true then some ((), uI (uI C a0 61 (0 : Int32)) a0 60 a1) else none
set_option maxRecDepth 20000 in
set_option maxHeartbeats 4000000 in
theorem t_204 {n : Nat} {a0 : Nat} {a1 : Int32} {C : AmC} {r : Unit} {C' : AmC} (h : f_204 n a0 a1 C = some (r, C')) : En false 204 0 [(0, .ref a0), (1, .int a1)] [] (mkM C) (.inl none) (mkM C') := by
  unfold f_204 at h
  refine en_aload rfl rfl ?_
  refine ec_iconst cst_0 rfl ?_
  obtain ⟨g1, h⟩ := gd h
  refine ec_putZ (ci := 10) (j := 61) ⟨rfl, rfl, rfl⟩ g1 (Or.inl rfl) rfl ?_
  refine en_aload rfl rfl ?_
  refine en_iload rfl rfl ?_
  refine ec_putI (ci := 10) (j := 60) ⟨rfl, rfl, rfl⟩ g1 rfl ?_
  cases h
  exact en_vret rfl
