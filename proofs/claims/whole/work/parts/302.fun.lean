/-- BulkWriter$Parser.readMerge()Z -/
def f_37 (n : Nat) (a0 : Nat) (C : AmC) : Option (Int32 × AmC) := if isK a0 2 = true then (f_33 n a0 (0 : Int32) C).bind (fun z => match z with | (q2, C3) => if isK q2 8 = true then (f_31 n a0 (uI C3 q2 0 (1 : Int32))).bind (fun z => match z with | (q6, C7) => (if ¬ q6 = 0 then (f_31 n a0 (uI C7 q2 3 (cI C7 a0 8))).bind (fun z => match z with | (q10, C11) => (if ¬ q10 = 0 then (f_23 n a0 (uI C11 q2 4 (cI C11 a0 8))).bind (fun z => match z with | (q14, C15) => (if q14 = (209 : Int32) then (if ¬ q14 = (209 : Int32) then (if ¬ q14 = (206 : Int32) then (f_38 n a0 (1 : Int32) (1 : Int32) (uI (uI C15 a0 4 ((cI C15 a0 4) + (1 : Int32))) q2 2 (2 : Int32))).bind (fun z => match z with | (_, C21) => (if ¬ q14 = (209 : Int32) then (f_23 n a0 C21).bind (fun z => match z with | (q24, C25) => (if ¬ q24 = (207 : Int32) then (f_26 n a0 (59 : Int32) C25).bind (fun z => match z with | (q28, C29) => if q28 = 0 ∨ q28 = 1 then some (q28, C29) else none) else (f_38 n a0 (1 : Int32) (0 : Int32) (uI (uI C25 a0 4 ((cI C25 a0 4) + (1 : Int32))) q2 1 (1 : Int32))).bind (fun z => match z with | (_, C33) => (f_40 n a0 q2 C33).bind (fun z => match z with | (q35, C36) => (if ¬ q35 = 0 then (f_26 n a0 (59 : Int32) C36).bind (fun z => match z with | (q39, C40) => if q39 = 0 ∨ q39 = 1 then some (q39, C40) else none) else some ((0 : Int32), C36)))))) else (f_39 n a0 q2 C21).bind (fun z => match z with | (q43, C44) => (if ¬ q43 = 0 then (f_23 n a0 C44).bind (fun z => match z with | (q47, C48) => (if ¬ q47 = (207 : Int32) then (f_26 n a0 (59 : Int32) C48).bind (fun z => match z with | (q51, C52) => if q51 = 0 ∨ q51 = 1 then some (q51, C52) else none) else (f_38 n a0 (1 : Int32) (0 : Int32) (uI (uI C48 a0 4 ((cI C48 a0 4) + (1 : Int32))) q2 1 (1 : Int32))).bind (fun z => match z with | (_, C56) => (f_40 n a0 q2 C56).bind (fun z => match z with | (q58, C59) => (if ¬ q58 = 0 then (f_26 n a0 (59 : Int32) C59).bind (fun z => match z with | (q62, C63) => if q62 = 0 ∨ q62 = 1 then some (q62, C63) else none) else some ((0 : Int32), C59)))))) else some ((0 : Int32), C44))))) else (f_38 n a0 (1 : Int32) (1 : Int32) (uI (uI C15 a0 4 ((cI C15 a0 4) + (1 : Int32))) q2 2 (1 : Int32))).bind (fun z => match z with | (_, C67) => (if ¬ q14 = (209 : Int32) then (f_23 n a0 C67).bind (fun z => match z with | (q70, C71) => (if ¬ q70 = (207 : Int32) then (f_26 n a0 (59 : Int32) C71).bind (fun z => match z with | (q74, C75) => if q74 = 0 ∨ q74 = 1 then some (q74, C75) else none) else (f_38 n a0 (1 : Int32) (0 : Int32) (uI (uI C71 a0 4 ((cI C71 a0 4) + (1 : Int32))) q2 1 (1 : Int32))).bind (fun z => match z with | (_, C79) => (f_40 n a0 q2 C79).bind (fun z => match z with | (q81, C82) => (if ¬ q81 = 0 then (f_26 n a0 (59 : Int32) C82).bind (fun z => match z with | (q85, C86) => if q85 = 0 ∨ q85 = 1 then some (q85, C86) else none) else some ((0 : Int32), C82)))))) else (f_39 n a0 q2 C67).bind (fun z => match z with | (q89, C90) => (if ¬ q89 = 0 then (f_23 n a0 C90).bind (fun z => match z with | (q93, C94) => (if ¬ q93 = (207 : Int32) then (f_26 n a0 (59 : Int32) C94).bind (fun z => match z with | (q97, C98) => if q97 = 0 ∨ q97 = 1 then some (q97, C98) else none) else (f_38 n a0 (1 : Int32) (0 : Int32) (uI (uI C94 a0 4 ((cI C94 a0 4) + (1 : Int32))) q2 1 (1 : Int32))).bind (fun z => match z with | (_, C102) => (f_40 n a0 q2 C102).bind (fun z => match z with | (q104, C105) => (if ¬ q104 = 0 then (f_26 n a0 (59 : Int32) C105).bind (fun z => match z with | (q108, C109) => if q108 = 0 ∨ q108 = 1 then some (q108, C109) else none) else some ((0 : Int32), C105)))))) else some ((0 : Int32), C90)))))) else (f_38 n a0 (1 : Int32) (1 : Int32) (uI (uI C15 a0 4 ((cI C15 a0 4) + (1 : Int32))) q2 2 (0 : Int32))).bind (fun z => match z with | (_, C113) => (if ¬ q14 = (209 : Int32) then (f_23 n a0 C113).bind (fun z => match z with | (q116, C117) => (if ¬ q116 = (207 : Int32) then (f_26 n a0 (59 : Int32) C117).bind (fun z => match z with | (q120, C121) => if q120 = 0 ∨ q120 = 1 then some (q120, C121) else none) else (f_38 n a0 (1 : Int32) (0 : Int32) (uI (uI C117 a0 4 ((cI C117 a0 4) + (1 : Int32))) q2 1 (1 : Int32))).bind (fun z => match z with | (_, C125) => (f_40 n a0 q2 C125).bind (fun z => match z with | (q127, C128) => (if ¬ q127 = 0 then (f_26 n a0 (59 : Int32) C128).bind (fun z => match z with | (q131, C132) => if q131 = 0 ∨ q131 = 1 then some (q131, C132) else none) else some ((0 : Int32), C128)))))) else (f_39 n a0 q2 C113).bind (fun z => match z with | (q135, C136) => (if ¬ q135 = 0 then (f_23 n a0 C136).bind (fun z => match z with | (q139, C140) => (if ¬ q139 = (207 : Int32) then (f_26 n a0 (59 : Int32) C140).bind (fun z => match z with | (q143, C144) => if q143 = 0 ∨ q143 = 1 then some (q143, C144) else none) else (f_38 n a0 (1 : Int32) (0 : Int32) (uI (uI C140 a0 4 ((cI C140 a0 4) + (1 : Int32))) q2 1 (1 : Int32))).bind (fun z => match z with | (_, C148) => (f_40 n a0 q2 C148).bind (fun z => match z with | (q150, C151) => (if ¬ q150 = 0 then (f_26 n a0 (59 : Int32) C151).bind (fun z => match z with | (q154, C155) => if q154 = 0 ∨ q154 = 1 then some (q154, C155) else none) else some ((0 : Int32), C151)))))) else some ((0 : Int32), C136)))))) else (if q14 = (206 : Int32) then (if ¬ q14 = (209 : Int32) then (if ¬ q14 = (206 : Int32) then (f_38 n a0 (1 : Int32) (1 : Int32) (uI (uI C15 a0 4 ((cI C15 a0 4) + (1 : Int32))) q2 2 (2 : Int32))).bind (fun z => match z with | (_, C162) => (if ¬ q14 = (209 : Int32) then (f_23 n a0 C162).bind (fun z => match z with | (q165, C166) => (if ¬ q165 = (207 : Int32) then (f_26 n a0 (59 : Int32) C166).bind (fun z => match z with | (q169, C170) => if q169 = 0 ∨ q169 = 1 then some (q169, C170) else none) else (f_38 n a0 (1 : Int32) (0 : Int32) (uI (uI C166 a0 4 ((cI C166 a0 4) + (1 : Int32))) q2 1 (1 : Int32))).bind (fun z => match z with | (_, C174) => (f_40 n a0 q2 C174).bind (fun z => match z with | (q176, C177) => (if ¬ q176 = 0 then (f_26 n a0 (59 : Int32) C177).bind (fun z => match z with | (q180, C181) => if q180 = 0 ∨ q180 = 1 then some (q180, C181) else none) else some ((0 : Int32), C177)))))) else (f_39 n a0 q2 C162).bind (fun z => match z with | (q184, C185) => (if ¬ q184 = 0 then (f_23 n a0 C185).bind (fun z => match z with | (q188, C189) => (if ¬ q188 = (207 : Int32) then (f_26 n a0 (59 : Int32) C189).bind (fun z => match z with | (q192, C193) => if q192 = 0 ∨ q192 = 1 then some (q192, C193) else none) else (f_38 n a0 (1 : Int32) (0 : Int32) (uI (uI C189 a0 4 ((cI C189 a0 4) + (1 : Int32))) q2 1 (1 : Int32))).bind (fun z => match z with | (_, C197) => (f_40 n a0 q2 C197).bind (fun z => match z with | (q199, C200) => (if ¬ q199 = 0 then (f_26 n a0 (59 : Int32) C200).bind (fun z => match z with | (q203, C204) => if q203 = 0 ∨ q203 = 1 then some (q203, C204) else none) else some ((0 : Int32), C200)))))) else some ((0 : Int32), C185))))) else (f_38 n a0 (1 : Int32) (1 : Int32) (uI (uI C15 a0 4 ((cI C15 a0 4) + (1 : Int32))) q2 2 (1 : Int32))).bind (fun z => match z with | (_, C208) => (if ¬ q14 = (209 : Int32) then (f_23 n a0 C208).bind (fun z => match z with | (q211, C212) => (if ¬ q211 = (207 : Int32) then (f_26 n a0 (59 : Int32) C212).bind (fun z => match z with | (q215, C216) => if q215 = 0 ∨ q215 = 1 then some (q215, C216) else none) else (f_38 n a0 (1 : Int32) (0 : Int32) (uI (uI C212 a0 4 ((cI C212 a0 4) + (1 : Int32))) q2 1 (1 : Int32))).bind (fun z => match z with | (_, C220) => (f_40 n a0 q2 C220).bind (fun z => match z with | (q222, C223) => (if ¬ q222 = 0 then (f_26 n a0 (59 : Int32) C223).bind (fun z => match z with | (q226, C227) => if q226 = 0 ∨ q226 = 1 then some (q226, C227) else none) else some ((0 : Int32), C223)))))) else (f_39 n a0 q2 C208).bind (fun z => match z with | (q230, C231) => (if ¬ q230 = 0 then (f_23 n a0 C231).bind (fun z => match z with | (q234, C235) => (if ¬ q234 = (207 : Int32) then (f_26 n a0 (59 : Int32) C235).bind (fun z => match z with | (q238, C239) => if q238 = 0 ∨ q238 = 1 then some (q238, C239) else none) else (f_38 n a0 (1 : Int32) (0 : Int32) (uI (uI C235 a0 4 ((cI C235 a0 4) + (1 : Int32))) q2 1 (1 : Int32))).bind (fun z => match z with | (_, C243) => (f_40 n a0 q2 C243).bind (fun z => match z with | (q245, C246) => (if ¬ q245 = 0 then (f_26 n a0 (59 : Int32) C246).bind (fun z => match z with | (q249, C250) => if q249 = 0 ∨ q249 = 1 then some (q249, C250) else none) else some ((0 : Int32), C246)))))) else some ((0 : Int32), C231)))))) else (f_38 n a0 (1 : Int32) (1 : Int32) (uI (uI C15 a0 4 ((cI C15 a0 4) + (1 : Int32))) q2 2 (0 : Int32))).bind (fun z => match z with | (_, C254) => (if ¬ q14 = (209 : Int32) then (f_23 n a0 C254).bind (fun z => match z with | (q257, C258) => (if ¬ q257 = (207 : Int32) then (f_26 n a0 (59 : Int32) C258).bind (fun z => match z with | (q261, C262) => if q261 = 0 ∨ q261 = 1 then some (q261, C262) else none) else (f_38 n a0 (1 : Int32) (0 : Int32) (uI (uI C258 a0 4 ((cI C258 a0 4) + (1 : Int32))) q2 1 (1 : Int32))).bind (fun z => match z with | (_, C266) => (f_40 n a0 q2 C266).bind (fun z => match z with | (q268, C269) => (if ¬ q268 = 0 then (f_26 n a0 (59 : Int32) C269).bind (fun z => match z with | (q272, C273) => if q272 = 0 ∨ q272 = 1 then some (q272, C273) else none) else some ((0 : Int32), C269)))))) else (f_39 n a0 q2 C254).bind (fun z => match z with | (q276, C277) => (if ¬ q276 = 0 then (f_23 n a0 C277).bind (fun z => match z with | (q280, C281) => (if ¬ q280 = (207 : Int32) then (f_26 n a0 (59 : Int32) C281).bind (fun z => match z with | (q284, C285) => if q284 = 0 ∨ q284 = 1 then some (q284, C285) else none) else (f_38 n a0 (1 : Int32) (0 : Int32) (uI (uI C281 a0 4 ((cI C281 a0 4) + (1 : Int32))) q2 1 (1 : Int32))).bind (fun z => match z with | (_, C289) => (f_40 n a0 q2 C289).bind (fun z => match z with | (q291, C292) => (if ¬ q291 = 0 then (f_26 n a0 (59 : Int32) C292).bind (fun z => match z with | (q295, C296) => if q295 = 0 ∨ q295 = 1 then some (q295, C296) else none) else some ((0 : Int32), C292)))))) else some ((0 : Int32), C277)))))) else (if q14 = (210 : Int32) then (if ¬ q14 = (209 : Int32) then (if ¬ q14 = (206 : Int32) then (f_38 n a0 (1 : Int32) (1 : Int32) (uI (uI C15 a0 4 ((cI C15 a0 4) + (1 : Int32))) q2 2 (2 : Int32))).bind (fun z => match z with | (_, C303) => (if ¬ q14 = (209 : Int32) then (f_23 n a0 C303).bind (fun z => match z with | (q306, C307) => (if ¬ q306 = (207 : Int32) then (f_26 n a0 (59 : Int32) C307).bind (fun z => match z with | (q310, C311) => if q310 = 0 ∨ q310 = 1 then some (q310, C311) else none) else (f_38 n a0 (1 : Int32) (0 : Int32) (uI (uI C307 a0 4 ((cI C307 a0 4) + (1 : Int32))) q2 1 (1 : Int32))).bind (fun z => match z with | (_, C315) => (f_40 n a0 q2 C315).bind (fun z => match z with | (q317, C318) => (if ¬ q317 = 0 then (f_26 n a0 (59 : Int32) C318).bind (fun z => match z with | (q321, C322) => if q321 = 0 ∨ q321 = 1 then some (q321, C322) else none) else some ((0 : Int32), C318)))))) else (f_39 n a0 q2 C303).bind (fun z => match z with | (q325, C326) => (if ¬ q325 = 0 then (f_23 n a0 C326).bind (fun z => match z with | (q329, C330) => (if ¬ q329 = (207 : Int32) then (f_26 n a0 (59 : Int32) C330).bind (fun z => match z with | (q333, C334) => if q333 = 0 ∨ q333 = 1 then some (q333, C334) else none) else (f_38 n a0 (1 : Int32) (0 : Int32) (uI (uI C330 a0 4 ((cI C330 a0 4) + (1 : Int32))) q2 1 (1 : Int32))).bind (fun z => match z with | (_, C338) => (f_40 n a0 q2 C338).bind (fun z => match z with | (q340, C341) => (if ¬ q340 = 0 then (f_26 n a0 (59 : Int32) C341).bind (fun z => match z with | (q344, C345) => if q344 = 0 ∨ q344 = 1 then some (q344, C345) else none) else some ((0 : Int32), C341)))))) else some ((0 : Int32), C326))))) else (f_38 n a0 (1 : Int32) (1 : Int32) (uI (uI C15 a0 4 ((cI C15 a0 4) + (1 : Int32))) q2 2 (1 : Int32))).bind (fun z => match z with | (_, C349) => (if ¬ q14 = (209 : Int32) then (f_23 n a0 C349).bind (fun z => match z with | (q352, C353) => (if ¬ q352 = (207 : Int32) then (f_26 n a0 (59 : Int32) C353).bind (fun z => match z with | (q356, C357) => if q356 = 0 ∨ q356 = 1 then some (q356, C357) else none) else (f_38 n a0 (1 : Int32) (0 : Int32) (uI (uI C353 a0 4 ((cI C353 a0 4) + (1 : Int32))) q2 1 (1 : Int32))).bind (fun z => match z with | (_, C361) => (f_40 n a0 q2 C361).bind (fun z => match z with | (q363, C364) => (if ¬ q363 = 0 then (f_26 n a0 (59 : Int32) C364).bind (fun z => match z with | (q367, C368) => if q367 = 0 ∨ q367 = 1 then some (q367, C368) else none) else some ((0 : Int32), C364)))))) else (f_39 n a0 q2 C349).bind (fun z => match z with | (q371, C372) => (if ¬ q371 = 0 then (f_23 n a0 C372).bind (fun z => match z with | (q375, C376) => (if ¬ q375 = (207 : Int32) then (f_26 n a0 (59 : Int32) C376).bind (fun z => match z with | (q379, C380) => if q379 = 0 ∨ q379 = 1 then some (q379, C380) else none) else (f_38 n a0 (1 : Int32) (0 : Int32) (uI (uI C376 a0 4 ((cI C376 a0 4) + (1 : Int32))) q2 1 (1 : Int32))).bind (fun z => match z with | (_, C384) => (f_40 n a0 q2 C384).bind (fun z => match z with | (q386, C387) => (if ¬ q386 = 0 then (f_26 n a0 (59 : Int32) C387).bind (fun z => match z with | (q390, C391) => if q390 = 0 ∨ q390 = 1 then some (q390, C391) else none) else some ((0 : Int32), C387)))))) else some ((0 : Int32), C372)))))) else (f_38 n a0 (1 : Int32) (1 : Int32) (uI (uI C15 a0 4 ((cI C15 a0 4) + (1 : Int32))) q2 2 (0 : Int32))).bind (fun z => match z with | (_, C395) => (if ¬ q14 = (209 : Int32) then (f_23 n a0 C395).bind (fun z => match z with | (q398, C399) => (if ¬ q398 = (207 : Int32) then (f_26 n a0 (59 : Int32) C399).bind (fun z => match z with | (q402, C403) => if q402 = 0 ∨ q402 = 1 then some (q402, C403) else none) else (f_38 n a0 (1 : Int32) (0 : Int32) (uI (uI C399 a0 4 ((cI C399 a0 4) + (1 : Int32))) q2 1 (1 : Int32))).bind (fun z => match z with | (_, C407) => (f_40 n a0 q2 C407).bind (fun z => match z with | (q409, C410) => (if ¬ q409 = 0 then (f_26 n a0 (59 : Int32) C410).bind (fun z => match z with | (q413, C414) => if q413 = 0 ∨ q413 = 1 then some (q413, C414) else none) else some ((0 : Int32), C410)))))) else (f_39 n a0 q2 C395).bind (fun z => match z with | (q417, C418) => (if ¬ q417 = 0 then (f_23 n a0 C418).bind (fun z => match z with | (q421, C422) => (if ¬ q421 = (207 : Int32) then (f_26 n a0 (59 : Int32) C422).bind (fun z => match z with | (q425, C426) => if q425 = 0 ∨ q425 = 1 then some (q425, C426) else none) else (f_38 n a0 (1 : Int32) (0 : Int32) (uI (uI C422 a0 4 ((cI C422 a0 4) + (1 : Int32))) q2 1 (1 : Int32))).bind (fun z => match z with | (_, C430) => (f_40 n a0 q2 C430).bind (fun z => match z with | (q432, C433) => (if ¬ q432 = 0 then (f_26 n a0 (59 : Int32) C433).bind (fun z => match z with | (q436, C437) => if q436 = 0 ∨ q436 = 1 then some (q436, C437) else none) else some ((0 : Int32), C433)))))) else some ((0 : Int32), C418)))))) else (f_25 n a0 (1 : Int32) C15).bind (fun z => match z with | (q440, C441) => if q440 = 0 ∨ q440 = 1 then some (q440, C441) else none))))) else some ((0 : Int32), C11))) else some ((0 : Int32), C7))) else none) else none
set_option maxRecDepth 20000 in
set_option maxHeartbeats 4000000 in
theorem t_37 {n : Nat} {a0 : Nat} {C : AmC} {r : Int32} {C' : AmC} (h : f_37 n a0 C = some (r, C')) : En false 37 0 [(0, .ref a0)] [] (mkM C) (.inl (some (.int r))) (mkM C') := by
  unfold f_37 at h
  refine en_aload rfl rfl ?_
  refine ec_iconst cst_0 rfl ?_
  obtain ⟨g1, h⟩ := gd h
  obtain ⟨⟨q2, C3⟩, e4, h⟩ := gb h
  dsimp only at h
  refine ec_callV1 (k' := 33) (n := 2) (rc := 2) (a := a0) (as := [.int (0 : Int32)]) ⟨rfl, rfl⟩ rfl rfl (Nat.le_of_ble_eq_true rfl) (Nat.le_of_ble_eq_true rfl) (Nat.le_of_ble_eq_true rfl) g1 rfl (t_33 e4) ?_
  refine en_astore (l' := [(1, .ref q2), (0, .ref a0)]) rfl rfl ?_
  refine en_aload rfl rfl ?_
  refine ec_iconst cst_1 rfl ?_
  obtain ⟨g5, h⟩ := gd h
  refine ec_putZ (ci := 8) (j := 0) ⟨rfl, rfl, rfl⟩ g5 (Or.inr rfl) rfl ?_
  refine en_aload rfl rfl ?_
  obtain ⟨⟨q6, C7⟩, e8, h⟩ := gb h
  dsimp only at h
  refine ec_callV1 (k' := 31) (n := 1) (rc := 2) (a := a0) (as := []) ⟨rfl, rfl⟩ rfl rfl (Nat.le_of_ble_eq_true rfl) (Nat.le_of_ble_eq_true rfl) (Nat.le_of_ble_eq_true rfl) g1 rfl (t_31 e8) ?_
  rcases gi h with ⟨c9, h⟩ | ⟨c9, h⟩
  · refine en_if_ne_t c9 rfl ?_
    refine en_aload rfl rfl ?_
    refine en_aload rfl rfl ?_
    refine ec_getI (ci := 2) (j := 8) ⟨rfl, rfl, rfl⟩ g1 rfl ?_
    refine ec_putI (ci := 8) (j := 3) ⟨rfl, rfl, rfl⟩ g5 rfl ?_
    refine en_aload rfl rfl ?_
    obtain ⟨⟨q10, C11⟩, e12, h⟩ := gb h
    dsimp only at h
    refine ec_callV1 (k' := 31) (n := 1) (rc := 2) (a := a0) (as := []) ⟨rfl, rfl⟩ rfl rfl (Nat.le_of_ble_eq_true rfl) (Nat.le_of_ble_eq_true rfl) (Nat.le_of_ble_eq_true rfl) g1 rfl (t_31 e12) ?_
    rcases gi h with ⟨c13, h⟩ | ⟨c13, h⟩
    · refine en_if_ne_t c13 rfl ?_
      refine en_aload rfl rfl ?_
      refine en_aload rfl rfl ?_
      refine ec_getI (ci := 2) (j := 8) ⟨rfl, rfl, rfl⟩ g1 rfl ?_
      refine ec_putI (ci := 8) (j := 4) ⟨rfl, rfl, rfl⟩ g5 rfl ?_
      refine en_aload rfl rfl ?_
      obtain ⟨⟨q14, C15⟩, e16, h⟩ := gb h
      dsimp only at h
      refine ec_callV1 (k' := 23) (n := 1) (rc := 2) (a := a0) (as := []) ⟨rfl, rfl⟩ rfl rfl (Nat.le_of_ble_eq_true rfl) (Nat.le_of_ble_eq_true rfl) (Nat.le_of_ble_eq_true rfl) g1 rfl (t_23 e16) ?_
      refine en_istore (l' := [(2, .int q14), (1, .ref q2), (0, .ref a0)]) rfl rfl ?_
      refine en_iload rfl rfl ?_
      refine ec_iconst cst_209 rfl ?_
      rcases gi h with ⟨c17, h⟩ | ⟨c17, h⟩
      · refine en_icmp_eq_t c17 rfl ?_
        refine en_aload rfl rfl ?_
        refine en_dup rfl rfl ?_
        refine ec_getI (ci := 2) (j := 4) ⟨rfl, rfl, rfl⟩ g1 rfl ?_
        refine ec_iconst cst_1 rfl ?_
        refine en_iadd rfl ?_
        refine ec_putI (ci := 2) (j := 4) ⟨rfl, rfl, rfl⟩ g1 rfl ?_
        refine en_aload rfl rfl ?_
        refine en_iload rfl rfl ?_
        refine ec_iconst cst_209 rfl ?_
        rcases gi h with ⟨c18, h⟩ | ⟨c18, h⟩
        · refine en_icmp_ne_t c18 rfl ?_
          refine en_iload rfl rfl ?_
          refine ec_iconst cst_206 rfl ?_
          rcases gi h with ⟨c19, h⟩ | ⟨c19, h⟩
          · refine en_icmp_ne_t c19 rfl ?_
            refine ec_iconst cst_2 rfl ?_
            refine ec_putI (ci := 8) (j := 2) ⟨rfl, rfl, rfl⟩ g5 rfl ?_
            refine en_aload rfl rfl ?_
            refine ec_iconst cst_1 rfl ?_
            refine ec_iconst cst_1 rfl ?_
            obtain ⟨⟨q20, C21⟩, e22, h⟩ := gb h
            dsimp only at h
            refine ec_callV0 (k' := 38) (n := 3) (rc := 2) (a := a0) (as := [.int (1 : Int32), .int (1 : Int32)]) ⟨rfl, rfl⟩ rfl rfl (Nat.le_of_ble_eq_true rfl) (Nat.le_of_ble_eq_true rfl) (Nat.le_of_ble_eq_true rfl) g1 rfl (t_38 e22) ?_
            refine en_iload rfl rfl ?_
            refine ec_iconst cst_209 rfl ?_
            rcases gi h with ⟨c23, h⟩ | ⟨c23, h⟩
            · refine en_icmp_ne_t c23 rfl ?_
              refine en_aload rfl rfl ?_
              obtain ⟨⟨q24, C25⟩, e26, h⟩ := gb h
              dsimp only at h
              refine ec_callV1 (k' := 23) (n := 1) (rc := 2) (a := a0) (as := []) ⟨rfl, rfl⟩ rfl rfl (Nat.le_of_ble_eq_true rfl) (Nat.le_of_ble_eq_true rfl) (Nat.le_of_ble_eq_true rfl) g1 rfl (t_23 e26) ?_
              refine ec_iconst cst_207 rfl ?_
              rcases gi h with ⟨c27, h⟩ | ⟨c27, h⟩
              · refine en_icmp_ne_t c27 rfl ?_
                refine en_aload rfl rfl ?_
                refine ec_iconst cst_59 rfl ?_
                obtain ⟨⟨q28, C29⟩, e30, h⟩ := gb h
                dsimp only at h
                refine ec_callV1 (k' := 26) (n := 2) (rc := 2) (a := a0) (as := [.int (59 : Int32)]) ⟨rfl, rfl⟩ rfl rfl (Nat.le_of_ble_eq_true rfl) (Nat.le_of_ble_eq_true rfl) (Nat.le_of_ble_eq_true rfl) g1 rfl (t_26 e30) ?_
                obtain ⟨g31, h⟩ := gd h
                cases h
                exact en_zret g31 rfl
              · refine en_icmp_ne_f c27 rfl ?_
                refine en_aload rfl rfl ?_
                refine en_dup rfl rfl ?_
                refine ec_getI (ci := 2) (j := 4) ⟨rfl, rfl, rfl⟩ g1 rfl ?_
                refine ec_iconst cst_1 rfl ?_
                refine en_iadd rfl ?_
                refine ec_putI (ci := 2) (j := 4) ⟨rfl, rfl, rfl⟩ g1 rfl ?_
                refine en_aload rfl rfl ?_
                refine ec_iconst cst_1 rfl ?_
                refine ec_putZ (ci := 8) (j := 1) ⟨rfl, rfl, rfl⟩ g5 (Or.inr rfl) rfl ?_
                refine en_aload rfl rfl ?_
                refine ec_iconst cst_1 rfl ?_
                refine ec_iconst cst_0 rfl ?_
                obtain ⟨⟨q32, C33⟩, e34, h⟩ := gb h
                dsimp only at h
                refine ec_callV0 (k' := 38) (n := 3) (rc := 2) (a := a0) (as := [.int (1 : Int32), .int (0 : Int32)]) ⟨rfl, rfl⟩ rfl rfl (Nat.le_of_ble_eq_true rfl) (Nat.le_of_ble_eq_true rfl) (Nat.le_of_ble_eq_true rfl) g1 rfl (t_38 e34) ?_
                refine en_aload rfl rfl ?_
                refine en_aload rfl rfl ?_
                obtain ⟨⟨q35, C36⟩, e37, h⟩ := gb h
                dsimp only at h
                refine ec_callV1 (k' := 40) (n := 2) (rc := 2) (a := a0) (as := [.ref q2]) ⟨rfl, rfl⟩ rfl rfl (Nat.le_of_ble_eq_true rfl) (Nat.le_of_ble_eq_true rfl) (Nat.le_of_ble_eq_true rfl) g1 rfl (t_40 e37) ?_
                rcases gi h with ⟨c38, h⟩ | ⟨c38, h⟩
                · refine en_if_ne_t c38 rfl ?_
                  refine en_aload rfl rfl ?_
                  refine ec_iconst cst_59 rfl ?_
                  obtain ⟨⟨q39, C40⟩, e41, h⟩ := gb h
                  dsimp only at h
                  refine ec_callV1 (k' := 26) (n := 2) (rc := 2) (a := a0) (as := [.int (59 : Int32)]) ⟨rfl, rfl⟩ rfl rfl (Nat.le_of_ble_eq_true rfl) (Nat.le_of_ble_eq_true rfl) (Nat.le_of_ble_eq_true rfl) g1 rfl (t_26 e41) ?_
                  obtain ⟨g42, h⟩ := gd h
                  cases h
                  exact en_zret g42 rfl
                · refine en_if_ne_f c38 rfl ?_
                  refine ec_iconst cst_0 rfl ?_
                  cases h
                  exact en_zret (Or.inl rfl) rfl
            · refine en_icmp_ne_f c23 rfl ?_
              refine en_aload rfl rfl ?_
              refine en_aload rfl rfl ?_
              obtain ⟨⟨q43, C44⟩, e45, h⟩ := gb h
              dsimp only at h
              refine ec_callV1 (k' := 39) (n := 2) (rc := 2) (a := a0) (as := [.ref q2]) ⟨rfl, rfl⟩ rfl rfl (Nat.le_of_ble_eq_true rfl) (Nat.le_of_ble_eq_true rfl) (Nat.le_of_ble_eq_true rfl) g1 rfl (t_39 e45) ?_
              rcases gi h with ⟨c46, h⟩ | ⟨c46, h⟩
              · refine en_if_ne_t c46 rfl ?_
                refine en_aload rfl rfl ?_
                obtain ⟨⟨q47, C48⟩, e49, h⟩ := gb h
                dsimp only at h
                refine ec_callV1 (k' := 23) (n := 1) (rc := 2) (a := a0) (as := []) ⟨rfl, rfl⟩ rfl rfl (Nat.le_of_ble_eq_true rfl) (Nat.le_of_ble_eq_true rfl) (Nat.le_of_ble_eq_true rfl) g1 rfl (t_23 e49) ?_
                refine ec_iconst cst_207 rfl ?_
                rcases gi h with ⟨c50, h⟩ | ⟨c50, h⟩
                · refine en_icmp_ne_t c50 rfl ?_
                  refine en_aload rfl rfl ?_
                  refine ec_iconst cst_59 rfl ?_
                  obtain ⟨⟨q51, C52⟩, e53, h⟩ := gb h
                  dsimp only at h
                  refine ec_callV1 (k' := 26) (n := 2) (rc := 2) (a := a0) (as := [.int (59 : Int32)]) ⟨rfl, rfl⟩ rfl rfl (Nat.le_of_ble_eq_true rfl) (Nat.le_of_ble_eq_true rfl) (Nat.le_of_ble_eq_true rfl) g1 rfl (t_26 e53) ?_
                  obtain ⟨g54, h⟩ := gd h
                  cases h
                  exact en_zret g54 rfl
                · refine en_icmp_ne_f c50 rfl ?_
                  refine en_aload rfl rfl ?_
                  refine en_dup rfl rfl ?_
                  refine ec_getI (ci := 2) (j := 4) ⟨rfl, rfl, rfl⟩ g1 rfl ?_
                  refine ec_iconst cst_1 rfl ?_
                  refine en_iadd rfl ?_
                  refine ec_putI (ci := 2) (j := 4) ⟨rfl, rfl, rfl⟩ g1 rfl ?_
                  refine en_aload rfl rfl ?_
                  refine ec_iconst cst_1 rfl ?_
                  refine ec_putZ (ci := 8) (j := 1) ⟨rfl, rfl, rfl⟩ g5 (Or.inr rfl) rfl ?_
                  refine en_aload rfl rfl ?_
                  refine ec_iconst cst_1 rfl ?_
                  refine ec_iconst cst_0 rfl ?_
                  obtain ⟨⟨q55, C56⟩, e57, h⟩ := gb h
                  dsimp only at h
                  refine ec_callV0 (k' := 38) (n := 3) (rc := 2) (a := a0) (as := [.int (1 : Int32), .int (0 : Int32)]) ⟨rfl, rfl⟩ rfl rfl (Nat.le_of_ble_eq_true rfl) (Nat.le_of_ble_eq_true rfl) (Nat.le_of_ble_eq_true rfl) g1 rfl (t_38 e57) ?_
                  refine en_aload rfl rfl ?_
                  refine en_aload rfl rfl ?_
                  obtain ⟨⟨q58, C59⟩, e60, h⟩ := gb h
                  dsimp only at h
                  refine ec_callV1 (k' := 40) (n := 2) (rc := 2) (a := a0) (as := [.ref q2]) ⟨rfl, rfl⟩ rfl rfl (Nat.le_of_ble_eq_true rfl) (Nat.le_of_ble_eq_true rfl) (Nat.le_of_ble_eq_true rfl) g1 rfl (t_40 e60) ?_
                  rcases gi h with ⟨c61, h⟩ | ⟨c61, h⟩
                  · refine en_if_ne_t c61 rfl ?_
                    refine en_aload rfl rfl ?_
                    refine ec_iconst cst_59 rfl ?_
                    obtain ⟨⟨q62, C63⟩, e64, h⟩ := gb h
                    dsimp only at h
                    refine ec_callV1 (k' := 26) (n := 2) (rc := 2) (a := a0) (as := [.int (59 : Int32)]) ⟨rfl, rfl⟩ rfl rfl (Nat.le_of_ble_eq_true rfl) (Nat.le_of_ble_eq_true rfl) (Nat.le_of_ble_eq_true rfl) g1 rfl (t_26 e64) ?_
                    obtain ⟨g65, h⟩ := gd h
                    cases h
                    exact en_zret g65 rfl
                  · refine en_if_ne_f c61 rfl ?_
                    refine ec_iconst cst_0 rfl ?_
                    cases h
                    exact en_zret (Or.inl rfl) rfl
              · refine en_if_ne_f c46 rfl ?_
                refine ec_iconst cst_0 rfl ?_
                cases h
                exact en_zret (Or.inl rfl) rfl
          · refine en_icmp_ne_f c19 rfl ?_
            refine ec_iconst cst_1 rfl ?_
            refine en_goto rfl ?_
            refine ec_putI (ci := 8) (j := 2) ⟨rfl, rfl, rfl⟩ g5 rfl ?_
            refine en_aload rfl rfl ?_
            refine ec_iconst cst_1 rfl ?_
            refine ec_iconst cst_1 rfl ?_
            obtain ⟨⟨q66, C67⟩, e68, h⟩ := gb h
            dsimp only at h
            refine ec_callV0 (k' := 38) (n := 3) (rc := 2) (a := a0) (as := [.int (1 : Int32), .int (1 : Int32)]) ⟨rfl, rfl⟩ rfl rfl (Nat.le_of_ble_eq_true rfl) (Nat.le_of_ble_eq_true rfl) (Nat.le_of_ble_eq_true rfl) g1 rfl (t_38 e68) ?_
            refine en_iload rfl rfl ?_
            refine ec_iconst cst_209 rfl ?_
            rcases gi h with ⟨c69, h⟩ | ⟨c69, h⟩
            · refine en_icmp_ne_t c69 rfl ?_
              refine en_aload rfl rfl ?_
              obtain ⟨⟨q70, C71⟩, e72, h⟩ := gb h
              dsimp only at h
              refine ec_callV1 (k' := 23) (n := 1) (rc := 2) (a := a0) (as := []) ⟨rfl, rfl⟩ rfl rfl (Nat.le_of_ble_eq_true rfl) (Nat.le_of_ble_eq_true rfl) (Nat.le_of_ble_eq_true rfl) g1 rfl (t_23 e72) ?_
              refine ec_iconst cst_207 rfl ?_
              rcases gi h with ⟨c73, h⟩ | ⟨c73, h⟩
              · refine en_icmp_ne_t c73 rfl ?_
                refine en_aload rfl rfl ?_
                refine ec_iconst cst_59 rfl ?_
                obtain ⟨⟨q74, C75⟩, e76, h⟩ := gb h
                dsimp only at h
                refine ec_callV1 (k' := 26) (n := 2) (rc := 2) (a := a0) (as := [.int (59 : Int32)]) ⟨rfl, rfl⟩ rfl rfl (Nat.le_of_ble_eq_true rfl) (Nat.le_of_ble_eq_true rfl) (Nat.le_of_ble_eq_true rfl) g1 rfl (t_26 e76) ?_
                obtain ⟨g77, h⟩ := gd h
                cases h
                exact en_zret g77 rfl
              · refine en_icmp_ne_f c73 rfl ?_
                refine en_aload rfl rfl ?_
                refine en_dup rfl rfl ?_
                refine ec_getI (ci := 2) (j := 4) ⟨rfl, rfl, rfl⟩ g1 rfl ?_
                refine ec_iconst cst_1 rfl ?_
                refine en_iadd rfl ?_
                refine ec_putI (ci := 2) (j := 4) ⟨rfl, rfl, rfl⟩ g1 rfl ?_
                refine en_aload rfl rfl ?_
                refine ec_iconst cst_1 rfl ?_
                refine ec_putZ (ci := 8) (j := 1) ⟨rfl, rfl, rfl⟩ g5 (Or.inr rfl) rfl ?_
                refine en_aload rfl rfl ?_
                refine ec_iconst cst_1 rfl ?_
                refine ec_iconst cst_0 rfl ?_
                obtain ⟨⟨q78, C79⟩, e80, h⟩ := gb h
                dsimp only at h
                refine ec_callV0 (k' := 38) (n := 3) (rc := 2) (a := a0) (as := [.int (1 : Int32), .int (0 : Int32)]) ⟨rfl, rfl⟩ rfl rfl (Nat.le_of_ble_eq_true rfl) (Nat.le_of_ble_eq_true rfl) (Nat.le_of_ble_eq_true rfl) g1 rfl (t_38 e80) ?_
                refine en_aload rfl rfl ?_
                refine en_aload rfl rfl ?_
                obtain ⟨⟨q81, C82⟩, e83, h⟩ := gb h
                dsimp only at h
                refine ec_callV1 (k' := 40) (n := 2) (rc := 2) (a := a0) (as := [.ref q2]) ⟨rfl, rfl⟩ rfl rfl (Nat.le_of_ble_eq_true rfl) (Nat.le_of_ble_eq_true rfl) (Nat.le_of_ble_eq_true rfl) g1 rfl (t_40 e83) ?_
                rcases gi h with ⟨c84, h⟩ | ⟨c84, h⟩
                · refine en_if_ne_t c84 rfl ?_
                  refine en_aload rfl rfl ?_
                  refine ec_iconst cst_59 rfl ?_
                  obtain ⟨⟨q85, C86⟩, e87, h⟩ := gb h
                  dsimp only at h
                  refine ec_callV1 (k' := 26) (n := 2) (rc := 2) (a := a0) (as := [.int (59 : Int32)]) ⟨rfl, rfl⟩ rfl rfl (Nat.le_of_ble_eq_true rfl) (Nat.le_of_ble_eq_true rfl) (Nat.le_of_ble_eq_true rfl) g1 rfl (t_26 e87) ?_
                  obtain ⟨g88, h⟩ := gd h
                  cases h
                  exact en_zret g88 rfl
                · refine en_if_ne_f c84 rfl ?_
                  refine ec_iconst cst_0 rfl ?_
                  cases h
                  exact en_zret (Or.inl rfl) rfl
            · refine en_icmp_ne_f c69 rfl ?_
              refine en_aload rfl rfl ?_
              refine en_aload rfl rfl ?_
              obtain ⟨⟨q89, C90⟩, e91, h⟩ := gb h
              dsimp only at h
              refine ec_callV1 (k' := 39) (n := 2) (rc := 2) (a := a0) (as := [.ref q2]) ⟨rfl, rfl⟩ rfl rfl (Nat.le_of_ble_eq_true rfl) (Nat.le_of_ble_eq_true rfl) (Nat.le_of_ble_eq_true rfl) g1 rfl (t_39 e91) ?_
              rcases gi h with ⟨c92, h⟩ | ⟨c92, h⟩
              · refine en_if_ne_t c92 rfl ?_
                refine en_aload rfl rfl ?_
                obtain ⟨⟨q93, C94⟩, e95, h⟩ := gb h
                dsimp only at h
                refine ec_callV1 (k' := 23) (n := 1) (rc := 2) (a := a0) (as := []) ⟨rfl, rfl⟩ rfl rfl (Nat.le_of_ble_eq_true rfl) (Nat.le_of_ble_eq_true rfl) (Nat.le_of_ble_eq_true rfl) g1 rfl (t_23 e95) ?_
                refine ec_iconst cst_207 rfl ?_
                rcases gi h with ⟨c96, h⟩ | ⟨c96, h⟩
                · refine en_icmp_ne_t c96 rfl ?_
                  refine en_aload rfl rfl ?_
                  refine ec_iconst cst_59 rfl ?_
                  obtain ⟨⟨q97, C98⟩, e99, h⟩ := gb h
                  dsimp only at h
                  refine ec_callV1 (k' := 26) (n := 2) (rc := 2) (a := a0) (as := [.int (59 : Int32)]) ⟨rfl, rfl⟩ rfl rfl (Nat.le_of_ble_eq_true rfl) (Nat.le_of_ble_eq_true rfl) (Nat.le_of_ble_eq_true rfl) g1 rfl (t_26 e99) ?_
                  obtain ⟨g100, h⟩ := gd h
                  cases h
                  exact en_zret g100 rfl
                · refine en_icmp_ne_f c96 rfl ?_
                  refine en_aload rfl rfl ?_
                  refine en_dup rfl rfl ?_
                  refine ec_getI (ci := 2) (j := 4) ⟨rfl, rfl, rfl⟩ g1 rfl ?_
                  refine ec_iconst cst_1 rfl ?_
                  refine en_iadd rfl ?_
                  refine ec_putI (ci := 2) (j := 4) ⟨rfl, rfl, rfl⟩ g1 rfl ?_
                  refine en_aload rfl rfl ?_
                  refine ec_iconst cst_1 rfl ?_
                  refine ec_putZ (ci := 8) (j := 1) ⟨rfl, rfl, rfl⟩ g5 (Or.inr rfl) rfl ?_
                  refine en_aload rfl rfl ?_
                  refine ec_iconst cst_1 rfl ?_
                  refine ec_iconst cst_0 rfl ?_
                  obtain ⟨⟨q101, C102⟩, e103, h⟩ := gb h
                  dsimp only at h
                  refine ec_callV0 (k' := 38) (n := 3) (rc := 2) (a := a0) (as := [.int (1 : Int32), .int (0 : Int32)]) ⟨rfl, rfl⟩ rfl rfl (Nat.le_of_ble_eq_true rfl) (Nat.le_of_ble_eq_true rfl) (Nat.le_of_ble_eq_true rfl) g1 rfl (t_38 e103) ?_
                  refine en_aload rfl rfl ?_
                  refine en_aload rfl rfl ?_
                  obtain ⟨⟨q104, C105⟩, e106, h⟩ := gb h
                  dsimp only at h
                  refine ec_callV1 (k' := 40) (n := 2) (rc := 2) (a := a0) (as := [.ref q2]) ⟨rfl, rfl⟩ rfl rfl (Nat.le_of_ble_eq_true rfl) (Nat.le_of_ble_eq_true rfl) (Nat.le_of_ble_eq_true rfl) g1 rfl (t_40 e106) ?_
                  rcases gi h with ⟨c107, h⟩ | ⟨c107, h⟩
                  · refine en_if_ne_t c107 rfl ?_
                    refine en_aload rfl rfl ?_
                    refine ec_iconst cst_59 rfl ?_
                    obtain ⟨⟨q108, C109⟩, e110, h⟩ := gb h
                    dsimp only at h
                    refine ec_callV1 (k' := 26) (n := 2) (rc := 2) (a := a0) (as := [.int (59 : Int32)]) ⟨rfl, rfl⟩ rfl rfl (Nat.le_of_ble_eq_true rfl) (Nat.le_of_ble_eq_true rfl) (Nat.le_of_ble_eq_true rfl) g1 rfl (t_26 e110) ?_
                    obtain ⟨g111, h⟩ := gd h
                    cases h
                    exact en_zret g111 rfl
                  · refine en_if_ne_f c107 rfl ?_
                    refine ec_iconst cst_0 rfl ?_
                    cases h
                    exact en_zret (Or.inl rfl) rfl
              · refine en_if_ne_f c92 rfl ?_
                refine ec_iconst cst_0 rfl ?_
                cases h
                exact en_zret (Or.inl rfl) rfl
        · refine en_icmp_ne_f c18 rfl ?_
          refine ec_iconst cst_0 rfl ?_
          refine en_goto rfl ?_
          refine ec_putI (ci := 8) (j := 2) ⟨rfl, rfl, rfl⟩ g5 rfl ?_
          refine en_aload rfl rfl ?_
          refine ec_iconst cst_1 rfl ?_
          refine ec_iconst cst_1 rfl ?_
          obtain ⟨⟨q112, C113⟩, e114, h⟩ := gb h
          dsimp only at h
          refine ec_callV0 (k' := 38) (n := 3) (rc := 2) (a := a0) (as := [.int (1 : Int32), .int (1 : Int32)]) ⟨rfl, rfl⟩ rfl rfl (Nat.le_of_ble_eq_true rfl) (Nat.le_of_ble_eq_true rfl) (Nat.le_of_ble_eq_true rfl) g1 rfl (t_38 e114) ?_
          refine en_iload rfl rfl ?_
          refine ec_iconst cst_209 rfl ?_
          rcases gi h with ⟨c115, h⟩ | ⟨c115, h⟩
          · refine en_icmp_ne_t c115 rfl ?_
            refine en_aload rfl rfl ?_
            obtain ⟨⟨q116, C117⟩, e118, h⟩ := gb h
            dsimp only at h
            refine ec_callV1 (k' := 23) (n := 1) (rc := 2) (a := a0) (as := []) ⟨rfl, rfl⟩ rfl rfl (Nat.le_of_ble_eq_true rfl) (Nat.le_of_ble_eq_true rfl) (Nat.le_of_ble_eq_true rfl) g1 rfl (t_23 e118) ?_
            refine ec_iconst cst_207 rfl ?_
            rcases gi h with ⟨c119, h⟩ | ⟨c119, h⟩
            · refine en_icmp_ne_t c119 rfl ?_
              refine en_aload rfl rfl ?_
              refine ec_iconst cst_59 rfl ?_
              obtain ⟨⟨q120, C121⟩, e122, h⟩ := gb h
              dsimp only at h
              refine ec_callV1 (k' := 26) (n := 2) (rc := 2) (a := a0) (as := [.int (59 : Int32)]) ⟨rfl, rfl⟩ rfl rfl (Nat.le_of_ble_eq_true rfl) (Nat.le_of_ble_eq_true rfl) (Nat.le_of_ble_eq_true rfl) g1 rfl (t_26 e122) ?_
              obtain ⟨g123, h⟩ := gd h
              cases h
              exact en_zret g123 rfl
            · refine en_icmp_ne_f c119 rfl ?_
              refine en_aload rfl rfl ?_
              refine en_dup rfl rfl ?_
              refine ec_getI (ci := 2) (j := 4) ⟨rfl, rfl, rfl⟩ g1 rfl ?_
              refine ec_iconst cst_1 rfl ?_
              refine en_iadd rfl ?_
              refine ec_putI (ci := 2) (j := 4) ⟨rfl, rfl, rfl⟩ g1 rfl ?_
              refine en_aload rfl rfl ?_
              refine ec_iconst cst_1 rfl ?_
              refine ec_putZ (ci := 8) (j := 1) ⟨rfl, rfl, rfl⟩ g5 (Or.inr rfl) rfl ?_
              refine en_aload rfl rfl ?_
              refine ec_iconst cst_1 rfl ?_
              refine ec_iconst cst_0 rfl ?_
              obtain ⟨⟨q124, C125⟩, e126, h⟩ := gb h
              dsimp only at h
              refine ec_callV0 (k' := 38) (n := 3) (rc := 2) (a := a0) (as := [.int (1 : Int32), .int (0 : Int32)]) ⟨rfl, rfl⟩ rfl rfl (Nat.le_of_ble_eq_true rfl) (Nat.le_of_ble_eq_true rfl) (Nat.le_of_ble_eq_true rfl) g1 rfl (t_38 e126) ?_
              refine en_aload rfl rfl ?_
              refine en_aload rfl rfl ?_
              obtain ⟨⟨q127, C128⟩, e129, h⟩ := gb h
              dsimp only at h
              refine ec_callV1 (k' := 40) (n := 2) (rc := 2) (a := a0) (as := [.ref q2]) ⟨rfl, rfl⟩ rfl rfl (Nat.le_of_ble_eq_true rfl) (Nat.le_of_ble_eq_true rfl) (Nat.le_of_ble_eq_true rfl) g1 rfl (t_40 e129) ?_
              rcases gi h with ⟨c130, h⟩ | ⟨c130, h⟩
              · refine en_if_ne_t c130 rfl ?_
                refine en_aload rfl rfl ?_
                refine ec_iconst cst_59 rfl ?_
                obtain ⟨⟨q131, C132⟩, e133, h⟩ := gb h
                dsimp only at h
                refine ec_callV1 (k' := 26) (n := 2) (rc := 2) (a := a0) (as := [.int (59 : Int32)]) ⟨rfl, rfl⟩ rfl rfl (Nat.le_of_ble_eq_true rfl) (Nat.le_of_ble_eq_true rfl) (Nat.le_of_ble_eq_true rfl) g1 rfl (t_26 e133) ?_
                obtain ⟨g134, h⟩ := gd h
                cases h
                exact en_zret g134 rfl
              · refine en_if_ne_f c130 rfl ?_
                refine ec_iconst cst_0 rfl ?_
                cases h
                exact en_zret (Or.inl rfl) rfl
          · refine en_icmp_ne_f c115 rfl ?_
            refine en_aload rfl rfl ?_
            refine en_aload rfl rfl ?_
            obtain ⟨⟨q135, C136⟩, e137, h⟩ := gb h
            dsimp only at h
            refine ec_callV1 (k' := 39) (n := 2) (rc := 2) (a := a0) (as := [.ref q2]) ⟨rfl, rfl⟩ rfl rfl (Nat.le_of_ble_eq_true rfl) (Nat.le_of_ble_eq_true rfl) (Nat.le_of_ble_eq_true rfl) g1 rfl (t_39 e137) ?_
            rcases gi h with ⟨c138, h⟩ | ⟨c138, h⟩
            · refine en_if_ne_t c138 rfl ?_
              refine en_aload rfl rfl ?_
              obtain ⟨⟨q139, C140⟩, e141, h⟩ := gb h
              dsimp only at h
              refine ec_callV1 (k' := 23) (n := 1) (rc := 2) (a := a0) (as := []) ⟨rfl, rfl⟩ rfl rfl (Nat.le_of_ble_eq_true rfl) (Nat.le_of_ble_eq_true rfl) (Nat.le_of_ble_eq_true rfl) g1 rfl (t_23 e141) ?_
              refine ec_iconst cst_207 rfl ?_
              rcases gi h with ⟨c142, h⟩ | ⟨c142, h⟩
              · refine en_icmp_ne_t c142 rfl ?_
                refine en_aload rfl rfl ?_
                refine ec_iconst cst_59 rfl ?_
                obtain ⟨⟨q143, C144⟩, e145, h⟩ := gb h
                dsimp only at h
                refine ec_callV1 (k' := 26) (n := 2) (rc := 2) (a := a0) (as := [.int (59 : Int32)]) ⟨rfl, rfl⟩ rfl rfl (Nat.le_of_ble_eq_true rfl) (Nat.le_of_ble_eq_true rfl) (Nat.le_of_ble_eq_true rfl) g1 rfl (t_26 e145) ?_
                obtain ⟨g146, h⟩ := gd h
                cases h
                exact en_zret g146 rfl
              · refine en_icmp_ne_f c142 rfl ?_
                refine en_aload rfl rfl ?_
                refine en_dup rfl rfl ?_
                refine ec_getI (ci := 2) (j := 4) ⟨rfl, rfl, rfl⟩ g1 rfl ?_
                refine ec_iconst cst_1 rfl ?_
                refine en_iadd rfl ?_
                refine ec_putI (ci := 2) (j := 4) ⟨rfl, rfl, rfl⟩ g1 rfl ?_
                refine en_aload rfl rfl ?_
                refine ec_iconst cst_1 rfl ?_
                refine ec_putZ (ci := 8) (j := 1) ⟨rfl, rfl, rfl⟩ g5 (Or.inr rfl) rfl ?_
                refine en_aload rfl rfl ?_
                refine ec_iconst cst_1 rfl ?_
                refine ec_iconst cst_0 rfl ?_
                obtain ⟨⟨q147, C148⟩, e149, h⟩ := gb h
                dsimp only at h
                refine ec_callV0 (k' := 38) (n := 3) (rc := 2) (a := a0) (as := [.int (1 : Int32), .int (0 : Int32)]) ⟨rfl, rfl⟩ rfl rfl (Nat.le_of_ble_eq_true rfl) (Nat.le_of_ble_eq_true rfl) (Nat.le_of_ble_eq_true rfl) g1 rfl (t_38 e149) ?_
                refine en_aload rfl rfl ?_
                refine en_aload rfl rfl ?_
                obtain ⟨⟨q150, C151⟩, e152, h⟩ := gb h
                dsimp only at h
                refine ec_callV1 (k' := 40) (n := 2) (rc := 2) (a := a0) (as := [.ref q2]) ⟨rfl, rfl⟩ rfl rfl (Nat.le_of_ble_eq_true rfl) (Nat.le_of_ble_eq_true rfl) (Nat.le_of_ble_eq_true rfl) g1 rfl (t_40 e152) ?_
                rcases gi h with ⟨c153, h⟩ | ⟨c153, h⟩
                · refine en_if_ne_t c153 rfl ?_
                  refine en_aload rfl rfl ?_
                  refine ec_iconst cst_59 rfl ?_
                  obtain ⟨⟨q154, C155⟩, e156, h⟩ := gb h
                  dsimp only at h
                  refine ec_callV1 (k' := 26) (n := 2) (rc := 2) (a := a0) (as := [.int (59 : Int32)]) ⟨rfl, rfl⟩ rfl rfl (Nat.le_of_ble_eq_true rfl) (Nat.le_of_ble_eq_true rfl) (Nat.le_of_ble_eq_true rfl) g1 rfl (t_26 e156) ?_
                  obtain ⟨g157, h⟩ := gd h
                  cases h
                  exact en_zret g157 rfl
                · refine en_if_ne_f c153 rfl ?_
                  refine ec_iconst cst_0 rfl ?_
                  cases h
                  exact en_zret (Or.inl rfl) rfl
            · refine en_if_ne_f c138 rfl ?_
              refine ec_iconst cst_0 rfl ?_
              cases h
              exact en_zret (Or.inl rfl) rfl
      · refine en_icmp_eq_f c17 rfl ?_
        refine en_iload rfl rfl ?_
        refine ec_iconst cst_206 rfl ?_
        rcases gi h with ⟨c158, h⟩ | ⟨c158, h⟩
        · refine en_icmp_eq_t c158 rfl ?_
          refine en_aload rfl rfl ?_
          refine en_dup rfl rfl ?_
          refine ec_getI (ci := 2) (j := 4) ⟨rfl, rfl, rfl⟩ g1 rfl ?_
          refine ec_iconst cst_1 rfl ?_
          refine en_iadd rfl ?_
          refine ec_putI (ci := 2) (j := 4) ⟨rfl, rfl, rfl⟩ g1 rfl ?_
          refine en_aload rfl rfl ?_
          refine en_iload rfl rfl ?_
          refine ec_iconst cst_209 rfl ?_
          rcases gi h with ⟨c159, h⟩ | ⟨c159, h⟩
          · refine en_icmp_ne_t c159 rfl ?_
            refine en_iload rfl rfl ?_
            refine ec_iconst cst_206 rfl ?_
            rcases gi h with ⟨c160, h⟩ | ⟨c160, h⟩
            · refine en_icmp_ne_t c160 rfl ?_
              refine ec_iconst cst_2 rfl ?_
              refine ec_putI (ci := 8) (j := 2) ⟨rfl, rfl, rfl⟩ g5 rfl ?_
              refine en_aload rfl rfl ?_
              refine ec_iconst cst_1 rfl ?_
              refine ec_iconst cst_1 rfl ?_
              obtain ⟨⟨q161, C162⟩, e163, h⟩ := gb h
              dsimp only at h
              refine ec_callV0 (k' := 38) (n := 3) (rc := 2) (a := a0) (as := [.int (1 : Int32), .int (1 : Int32)]) ⟨rfl, rfl⟩ rfl rfl (Nat.le_of_ble_eq_true rfl) (Nat.le_of_ble_eq_true rfl) (Nat.le_of_ble_eq_true rfl) g1 rfl (t_38 e163) ?_
              refine en_iload rfl rfl ?_
              refine ec_iconst cst_209 rfl ?_
              rcases gi h with ⟨c164, h⟩ | ⟨c164, h⟩
              · refine en_icmp_ne_t c164 rfl ?_
                refine en_aload rfl rfl ?_
                obtain ⟨⟨q165, C166⟩, e167, h⟩ := gb h
                dsimp only at h
                refine ec_callV1 (k' := 23) (n := 1) (rc := 2) (a := a0) (as := []) ⟨rfl, rfl⟩ rfl rfl (Nat.le_of_ble_eq_true rfl) (Nat.le_of_ble_eq_true rfl) (Nat.le_of_ble_eq_true rfl) g1 rfl (t_23 e167) ?_
                refine ec_iconst cst_207 rfl ?_
                rcases gi h with ⟨c168, h⟩ | ⟨c168, h⟩
                · refine en_icmp_ne_t c168 rfl ?_
                  refine en_aload rfl rfl ?_
                  refine ec_iconst cst_59 rfl ?_
                  obtain ⟨⟨q169, C170⟩, e171, h⟩ := gb h
                  dsimp only at h
                  refine ec_callV1 (k' := 26) (n := 2) (rc := 2) (a := a0) (as := [.int (59 : Int32)]) ⟨rfl, rfl⟩ rfl rfl (Nat.le_of_ble_eq_true rfl) (Nat.le_of_ble_eq_true rfl) (Nat.le_of_ble_eq_true rfl) g1 rfl (t_26 e171) ?_
                  obtain ⟨g172, h⟩ := gd h
                  cases h
                  exact en_zret g172 rfl
                · refine en_icmp_ne_f c168 rfl ?_
                  refine en_aload rfl rfl ?_
                  refine en_dup rfl rfl ?_
                  refine ec_getI (ci := 2) (j := 4) ⟨rfl, rfl, rfl⟩ g1 rfl ?_
                  refine ec_iconst cst_1 rfl ?_
                  refine en_iadd rfl ?_
                  refine ec_putI (ci := 2) (j := 4) ⟨rfl, rfl, rfl⟩ g1 rfl ?_
                  refine en_aload rfl rfl ?_
                  refine ec_iconst cst_1 rfl ?_
                  refine ec_putZ (ci := 8) (j := 1) ⟨rfl, rfl, rfl⟩ g5 (Or.inr rfl) rfl ?_
                  refine en_aload rfl rfl ?_
                  refine ec_iconst cst_1 rfl ?_
                  refine ec_iconst cst_0 rfl ?_
                  obtain ⟨⟨q173, C174⟩, e175, h⟩ := gb h
                  dsimp only at h
                  refine ec_callV0 (k' := 38) (n := 3) (rc := 2) (a := a0) (as := [.int (1 : Int32), .int (0 : Int32)]) ⟨rfl, rfl⟩ rfl rfl (Nat.le_of_ble_eq_true rfl) (Nat.le_of_ble_eq_true rfl) (Nat.le_of_ble_eq_true rfl) g1 rfl (t_38 e175) ?_
                  refine en_aload rfl rfl ?_
                  refine en_aload rfl rfl ?_
                  obtain ⟨⟨q176, C177⟩, e178, h⟩ := gb h
                  dsimp only at h
                  refine ec_callV1 (k' := 40) (n := 2) (rc := 2) (a := a0) (as := [.ref q2]) ⟨rfl, rfl⟩ rfl rfl (Nat.le_of_ble_eq_true rfl) (Nat.le_of_ble_eq_true rfl) (Nat.le_of_ble_eq_true rfl) g1 rfl (t_40 e178) ?_
                  rcases gi h with ⟨c179, h⟩ | ⟨c179, h⟩
                  · refine en_if_ne_t c179 rfl ?_
                    refine en_aload rfl rfl ?_
                    refine ec_iconst cst_59 rfl ?_
                    obtain ⟨⟨q180, C181⟩, e182, h⟩ := gb h
                    dsimp only at h
                    refine ec_callV1 (k' := 26) (n := 2) (rc := 2) (a := a0) (as := [.int (59 : Int32)]) ⟨rfl, rfl⟩ rfl rfl (Nat.le_of_ble_eq_true rfl) (Nat.le_of_ble_eq_true rfl) (Nat.le_of_ble_eq_true rfl) g1 rfl (t_26 e182) ?_
                    obtain ⟨g183, h⟩ := gd h
                    cases h
                    exact en_zret g183 rfl
                  · refine en_if_ne_f c179 rfl ?_
                    refine ec_iconst cst_0 rfl ?_
                    cases h
                    exact en_zret (Or.inl rfl) rfl
              · refine en_icmp_ne_f c164 rfl ?_
                refine en_aload rfl rfl ?_
                refine en_aload rfl rfl ?_
                obtain ⟨⟨q184, C185⟩, e186, h⟩ := gb h
                dsimp only at h
                refine ec_callV1 (k' := 39) (n := 2) (rc := 2) (a := a0) (as := [.ref q2]) ⟨rfl, rfl⟩ rfl rfl (Nat.le_of_ble_eq_true rfl) (Nat.le_of_ble_eq_true rfl) (Nat.le_of_ble_eq_true rfl) g1 rfl (t_39 e186) ?_
                rcases gi h with ⟨c187, h⟩ | ⟨c187, h⟩
                · refine en_if_ne_t c187 rfl ?_
                  refine en_aload rfl rfl ?_
                  obtain ⟨⟨q188, C189⟩, e190, h⟩ := gb h
                  dsimp only at h
                  refine ec_callV1 (k' := 23) (n := 1) (rc := 2) (a := a0) (as := []) ⟨rfl, rfl⟩ rfl rfl (Nat.le_of_ble_eq_true rfl) (Nat.le_of_ble_eq_true rfl) (Nat.le_of_ble_eq_true rfl) g1 rfl (t_23 e190) ?_
                  refine ec_iconst cst_207 rfl ?_
                  rcases gi h with ⟨c191, h⟩ | ⟨c191, h⟩
                  · refine en_icmp_ne_t c191 rfl ?_
                    refine en_aload rfl rfl ?_
                    refine ec_iconst cst_59 rfl ?_
                    obtain ⟨⟨q192, C193⟩, e194, h⟩ := gb h
                    dsimp only at h
                    refine ec_callV1 (k' := 26) (n := 2) (rc := 2) (a := a0) (as := [.int (59 : Int32)]) ⟨rfl, rfl⟩ rfl rfl (Nat.le_of_ble_eq_true rfl) (Nat.le_of_ble_eq_true rfl) (Nat.le_of_ble_eq_true rfl) g1 rfl (t_26 e194) ?_
                    obtain ⟨g195, h⟩ := gd h
                    cases h
                    exact en_zret g195 rfl
                  · refine en_icmp_ne_f c191 rfl ?_
                    refine en_aload rfl rfl ?_
                    refine en_dup rfl rfl ?_
                    refine ec_getI (ci := 2) (j := 4) ⟨rfl, rfl, rfl⟩ g1 rfl ?_
                    refine ec_iconst cst_1 rfl ?_
                    refine en_iadd rfl ?_
                    refine ec_putI (ci := 2) (j := 4) ⟨rfl, rfl, rfl⟩ g1 rfl ?_
                    refine en_aload rfl rfl ?_
                    refine ec_iconst cst_1 rfl ?_
                    refine ec_putZ (ci := 8) (j := 1) ⟨rfl, rfl, rfl⟩ g5 (Or.inr rfl) rfl ?_
                    refine en_aload rfl rfl ?_
                    refine ec_iconst cst_1 rfl ?_
                    refine ec_iconst cst_0 rfl ?_
                    obtain ⟨⟨q196, C197⟩, e198, h⟩ := gb h
                    dsimp only at h
                    refine ec_callV0 (k' := 38) (n := 3) (rc := 2) (a := a0) (as := [.int (1 : Int32), .int (0 : Int32)]) ⟨rfl, rfl⟩ rfl rfl (Nat.le_of_ble_eq_true rfl) (Nat.le_of_ble_eq_true rfl) (Nat.le_of_ble_eq_true rfl) g1 rfl (t_38 e198) ?_
                    refine en_aload rfl rfl ?_
                    refine en_aload rfl rfl ?_
                    obtain ⟨⟨q199, C200⟩, e201, h⟩ := gb h
                    dsimp only at h
                    refine ec_callV1 (k' := 40) (n := 2) (rc := 2) (a := a0) (as := [.ref q2]) ⟨rfl, rfl⟩ rfl rfl (Nat.le_of_ble_eq_true rfl) (Nat.le_of_ble_eq_true rfl) (Nat.le_of_ble_eq_true rfl) g1 rfl (t_40 e201) ?_
                    rcases gi h with ⟨c202, h⟩ | ⟨c202, h⟩
                    · refine en_if_ne_t c202 rfl ?_
                      refine en_aload rfl rfl ?_
                      refine ec_iconst cst_59 rfl ?_
                      obtain ⟨⟨q203, C204⟩, e205, h⟩ := gb h
                      dsimp only at h
                      refine ec_callV1 (k' := 26) (n := 2) (rc := 2) (a := a0) (as := [.int (59 : Int32)]) ⟨rfl, rfl⟩ rfl rfl (Nat.le_of_ble_eq_true rfl) (Nat.le_of_ble_eq_true rfl) (Nat.le_of_ble_eq_true rfl) g1 rfl (t_26 e205) ?_
                      obtain ⟨g206, h⟩ := gd h
                      cases h
                      exact en_zret g206 rfl
                    · refine en_if_ne_f c202 rfl ?_
                      refine ec_iconst cst_0 rfl ?_
                      cases h
                      exact en_zret (Or.inl rfl) rfl
                · refine en_if_ne_f c187 rfl ?_
                  refine ec_iconst cst_0 rfl ?_
                  cases h
                  exact en_zret (Or.inl rfl) rfl
            · refine en_icmp_ne_f c160 rfl ?_
              refine ec_iconst cst_1 rfl ?_
              refine en_goto rfl ?_
              refine ec_putI (ci := 8) (j := 2) ⟨rfl, rfl, rfl⟩ g5 rfl ?_
              refine en_aload rfl rfl ?_
              refine ec_iconst cst_1 rfl ?_
              refine ec_iconst cst_1 rfl ?_
              obtain ⟨⟨q207, C208⟩, e209, h⟩ := gb h
              dsimp only at h
              refine ec_callV0 (k' := 38) (n := 3) (rc := 2) (a := a0) (as := [.int (1 : Int32), .int (1 : Int32)]) ⟨rfl, rfl⟩ rfl rfl (Nat.le_of_ble_eq_true rfl) (Nat.le_of_ble_eq_true rfl) (Nat.le_of_ble_eq_true rfl) g1 rfl (t_38 e209) ?_
              refine en_iload rfl rfl ?_
              refine ec_iconst cst_209 rfl ?_
              rcases gi h with ⟨c210, h⟩ | ⟨c210, h⟩
              · refine en_icmp_ne_t c210 rfl ?_
                refine en_aload rfl rfl ?_
                obtain ⟨⟨q211, C212⟩, e213, h⟩ := gb h
                dsimp only at h
                refine ec_callV1 (k' := 23) (n := 1) (rc := 2) (a := a0) (as := []) ⟨rfl, rfl⟩ rfl rfl (Nat.le_of_ble_eq_true rfl) (Nat.le_of_ble_eq_true rfl) (Nat.le_of_ble_eq_true rfl) g1 rfl (t_23 e213) ?_
                refine ec_iconst cst_207 rfl ?_
                rcases gi h with ⟨c214, h⟩ | ⟨c214, h⟩
                · refine en_icmp_ne_t c214 rfl ?_
                  refine en_aload rfl rfl ?_
                  refine ec_iconst cst_59 rfl ?_
                  obtain ⟨⟨q215, C216⟩, e217, h⟩ := gb h
                  dsimp only at h
                  refine ec_callV1 (k' := 26) (n := 2) (rc := 2) (a := a0) (as := [.int (59 : Int32)]) ⟨rfl, rfl⟩ rfl rfl (Nat.le_of_ble_eq_true rfl) (Nat.le_of_ble_eq_true rfl) (Nat.le_of_ble_eq_true rfl) g1 rfl (t_26 e217) ?_
                  obtain ⟨g218, h⟩ := gd h
                  cases h
                  exact en_zret g218 rfl
                · refine en_icmp_ne_f c214 rfl ?_
                  refine en_aload rfl rfl ?_
                  refine en_dup rfl rfl ?_
                  refine ec_getI (ci := 2) (j := 4) ⟨rfl, rfl, rfl⟩ g1 rfl ?_
                  refine ec_iconst cst_1 rfl ?_
                  refine en_iadd rfl ?_
                  refine ec_putI (ci := 2) (j := 4) ⟨rfl, rfl, rfl⟩ g1 rfl ?_
                  refine en_aload rfl rfl ?_
                  refine ec_iconst cst_1 rfl ?_
                  refine ec_putZ (ci := 8) (j := 1) ⟨rfl, rfl, rfl⟩ g5 (Or.inr rfl) rfl ?_
                  refine en_aload rfl rfl ?_
                  refine ec_iconst cst_1 rfl ?_
                  refine ec_iconst cst_0 rfl ?_
                  obtain ⟨⟨q219, C220⟩, e221, h⟩ := gb h
                  dsimp only at h
                  refine ec_callV0 (k' := 38) (n := 3) (rc := 2) (a := a0) (as := [.int (1 : Int32), .int (0 : Int32)]) ⟨rfl, rfl⟩ rfl rfl (Nat.le_of_ble_eq_true rfl) (Nat.le_of_ble_eq_true rfl) (Nat.le_of_ble_eq_true rfl) g1 rfl (t_38 e221) ?_
                  refine en_aload rfl rfl ?_
                  refine en_aload rfl rfl ?_
                  obtain ⟨⟨q222, C223⟩, e224, h⟩ := gb h
                  dsimp only at h
                  refine ec_callV1 (k' := 40) (n := 2) (rc := 2) (a := a0) (as := [.ref q2]) ⟨rfl, rfl⟩ rfl rfl (Nat.le_of_ble_eq_true rfl) (Nat.le_of_ble_eq_true rfl) (Nat.le_of_ble_eq_true rfl) g1 rfl (t_40 e224) ?_
                  rcases gi h with ⟨c225, h⟩ | ⟨c225, h⟩
                  · refine en_if_ne_t c225 rfl ?_
                    refine en_aload rfl rfl ?_
                    refine ec_iconst cst_59 rfl ?_
                    obtain ⟨⟨q226, C227⟩, e228, h⟩ := gb h
                    dsimp only at h
                    refine ec_callV1 (k' := 26) (n := 2) (rc := 2) (a := a0) (as := [.int (59 : Int32)]) ⟨rfl, rfl⟩ rfl rfl (Nat.le_of_ble_eq_true rfl) (Nat.le_of_ble_eq_true rfl) (Nat.le_of_ble_eq_true rfl) g1 rfl (t_26 e228) ?_
                    obtain ⟨g229, h⟩ := gd h
                    cases h
                    exact en_zret g229 rfl
                  · refine en_if_ne_f c225 rfl ?_
                    refine ec_iconst cst_0 rfl ?_
                    cases h
                    exact en_zret (Or.inl rfl) rfl
              · refine en_icmp_ne_f c210 rfl ?_
                refine en_aload rfl rfl ?_
                refine en_aload rfl rfl ?_
                obtain ⟨⟨q230, C231⟩, e232, h⟩ := gb h
                dsimp only at h
                refine ec_callV1 (k' := 39) (n := 2) (rc := 2) (a := a0) (as := [.ref q2]) ⟨rfl, rfl⟩ rfl rfl (Nat.le_of_ble_eq_true rfl) (Nat.le_of_ble_eq_true rfl) (Nat.le_of_ble_eq_true rfl) g1 rfl (t_39 e232) ?_
                rcases gi h with ⟨c233, h⟩ | ⟨c233, h⟩
                · refine en_if_ne_t c233 rfl ?_
                  refine en_aload rfl rfl ?_
                  obtain ⟨⟨q234, C235⟩, e236, h⟩ := gb h
                  dsimp only at h
                  refine ec_callV1 (k' := 23) (n := 1) (rc := 2) (a := a0) (as := []) ⟨rfl, rfl⟩ rfl rfl (Nat.le_of_ble_eq_true rfl) (Nat.le_of_ble_eq_true rfl) (Nat.le_of_ble_eq_true rfl) g1 rfl (t_23 e236) ?_
                  refine ec_iconst cst_207 rfl ?_
                  rcases gi h with ⟨c237, h⟩ | ⟨c237, h⟩
                  · refine en_icmp_ne_t c237 rfl ?_
                    refine en_aload rfl rfl ?_
                    refine ec_iconst cst_59 rfl ?_
                    obtain ⟨⟨q238, C239⟩, e240, h⟩ := gb h
                    dsimp only at h
                    refine ec_callV1 (k' := 26) (n := 2) (rc := 2) (a := a0) (as := [.int (59 : Int32)]) ⟨rfl, rfl⟩ rfl rfl (Nat.le_of_ble_eq_true rfl) (Nat.le_of_ble_eq_true rfl) (Nat.le_of_ble_eq_true rfl) g1 rfl (t_26 e240) ?_
                    obtain ⟨g241, h⟩ := gd h
                    cases h
                    exact en_zret g241 rfl
                  · refine en_icmp_ne_f c237 rfl ?_
                    refine en_aload rfl rfl ?_
                    refine en_dup rfl rfl ?_
                    refine ec_getI (ci := 2) (j := 4) ⟨rfl, rfl, rfl⟩ g1 rfl ?_
                    refine ec_iconst cst_1 rfl ?_
                    refine en_iadd rfl ?_
                    refine ec_putI (ci := 2) (j := 4) ⟨rfl, rfl, rfl⟩ g1 rfl ?_
                    refine en_aload rfl rfl ?_
                    refine ec_iconst cst_1 rfl ?_
                    refine ec_putZ (ci := 8) (j := 1) ⟨rfl, rfl, rfl⟩ g5 (Or.inr rfl) rfl ?_
                    refine en_aload rfl rfl ?_
                    refine ec_iconst cst_1 rfl ?_
                    refine ec_iconst cst_0 rfl ?_
                    obtain ⟨⟨q242, C243⟩, e244, h⟩ := gb h
                    dsimp only at h
                    refine ec_callV0 (k' := 38) (n := 3) (rc := 2) (a := a0) (as := [.int (1 : Int32), .int (0 : Int32)]) ⟨rfl, rfl⟩ rfl rfl (Nat.le_of_ble_eq_true rfl) (Nat.le_of_ble_eq_true rfl) (Nat.le_of_ble_eq_true rfl) g1 rfl (t_38 e244) ?_
                    refine en_aload rfl rfl ?_
                    refine en_aload rfl rfl ?_
                    obtain ⟨⟨q245, C246⟩, e247, h⟩ := gb h
                    dsimp only at h
                    refine ec_callV1 (k' := 40) (n := 2) (rc := 2) (a := a0) (as := [.ref q2]) ⟨rfl, rfl⟩ rfl rfl (Nat.le_of_ble_eq_true rfl) (Nat.le_of_ble_eq_true rfl) (Nat.le_of_ble_eq_true rfl) g1 rfl (t_40 e247) ?_
                    rcases gi h with ⟨c248, h⟩ | ⟨c248, h⟩
                    · refine en_if_ne_t c248 rfl ?_
                      refine en_aload rfl rfl ?_
                      refine ec_iconst cst_59 rfl ?_
                      obtain ⟨⟨q249, C250⟩, e251, h⟩ := gb h
                      dsimp only at h
                      refine ec_callV1 (k' := 26) (n := 2) (rc := 2) (a := a0) (as := [.int (59 : Int32)]) ⟨rfl, rfl⟩ rfl rfl (Nat.le_of_ble_eq_true rfl) (Nat.le_of_ble_eq_true rfl) (Nat.le_of_ble_eq_true rfl) g1 rfl (t_26 e251) ?_
                      obtain ⟨g252, h⟩ := gd h
                      cases h
                      exact en_zret g252 rfl
                    · refine en_if_ne_f c248 rfl ?_
                      refine ec_iconst cst_0 rfl ?_
                      cases h
                      exact en_zret (Or.inl rfl) rfl
                · refine en_if_ne_f c233 rfl ?_
                  refine ec_iconst cst_0 rfl ?_
                  cases h
                  exact en_zret (Or.inl rfl) rfl
          · refine en_icmp_ne_f c159 rfl ?_
            refine ec_iconst cst_0 rfl ?_
            refine en_goto rfl ?_
            refine ec_putI (ci := 8) (j := 2) ⟨rfl, rfl, rfl⟩ g5 rfl ?_
            refine en_aload rfl rfl ?_
            refine ec_iconst cst_1 rfl ?_
            refine ec_iconst cst_1 rfl ?_
            obtain ⟨⟨q253, C254⟩, e255, h⟩ := gb h
            dsimp only at h
            refine ec_callV0 (k' := 38) (n := 3) (rc := 2) (a := a0) (as := [.int (1 : Int32), .int (1 : Int32)]) ⟨rfl, rfl⟩ rfl rfl (Nat.le_of_ble_eq_true rfl) (Nat.le_of_ble_eq_true rfl) (Nat.le_of_ble_eq_true rfl) g1 rfl (t_38 e255) ?_
            refine en_iload rfl rfl ?_
            refine ec_iconst cst_209 rfl ?_
            rcases gi h with ⟨c256, h⟩ | ⟨c256, h⟩
            · refine en_icmp_ne_t c256 rfl ?_
              refine en_aload rfl rfl ?_
              obtain ⟨⟨q257, C258⟩, e259, h⟩ := gb h
              dsimp only at h
              refine ec_callV1 (k' := 23) (n := 1) (rc := 2) (a := a0) (as := []) ⟨rfl, rfl⟩ rfl rfl (Nat.le_of_ble_eq_true rfl) (Nat.le_of_ble_eq_true rfl) (Nat.le_of_ble_eq_true rfl) g1 rfl (t_23 e259) ?_
              refine ec_iconst cst_207 rfl ?_
              rcases gi h with ⟨c260, h⟩ | ⟨c260, h⟩
              · refine en_icmp_ne_t c260 rfl ?_
                refine en_aload rfl rfl ?_
                refine ec_iconst cst_59 rfl ?_
                obtain ⟨⟨q261, C262⟩, e263, h⟩ := gb h
                dsimp only at h
                refine ec_callV1 (k' := 26) (n := 2) (rc := 2) (a := a0) (as := [.int (59 : Int32)]) ⟨rfl, rfl⟩ rfl rfl (Nat.le_of_ble_eq_true rfl) (Nat.le_of_ble_eq_true rfl) (Nat.le_of_ble_eq_true rfl) g1 rfl (t_26 e263) ?_
                obtain ⟨g264, h⟩ := gd h
                cases h
                exact en_zret g264 rfl
              · refine en_icmp_ne_f c260 rfl ?_
                refine en_aload rfl rfl ?_
                refine en_dup rfl rfl ?_
                refine ec_getI (ci := 2) (j := 4) ⟨rfl, rfl, rfl⟩ g1 rfl ?_
                refine ec_iconst cst_1 rfl ?_
                refine en_iadd rfl ?_
                refine ec_putI (ci := 2) (j := 4) ⟨rfl, rfl, rfl⟩ g1 rfl ?_
                refine en_aload rfl rfl ?_
                refine ec_iconst cst_1 rfl ?_
                refine ec_putZ (ci := 8) (j := 1) ⟨rfl, rfl, rfl⟩ g5 (Or.inr rfl) rfl ?_
                refine en_aload rfl rfl ?_
                refine ec_iconst cst_1 rfl ?_
                refine ec_iconst cst_0 rfl ?_
                obtain ⟨⟨q265, C266⟩, e267, h⟩ := gb h
                dsimp only at h
                refine ec_callV0 (k' := 38) (n := 3) (rc := 2) (a := a0) (as := [.int (1 : Int32), .int (0 : Int32)]) ⟨rfl, rfl⟩ rfl rfl (Nat.le_of_ble_eq_true rfl) (Nat.le_of_ble_eq_true rfl) (Nat.le_of_ble_eq_true rfl) g1 rfl (t_38 e267) ?_
                refine en_aload rfl rfl ?_
                refine en_aload rfl rfl ?_
                obtain ⟨⟨q268, C269⟩, e270, h⟩ := gb h
                dsimp only at h
                refine ec_callV1 (k' := 40) (n := 2) (rc := 2) (a := a0) (as := [.ref q2]) ⟨rfl, rfl⟩ rfl rfl (Nat.le_of_ble_eq_true rfl) (Nat.le_of_ble_eq_true rfl) (Nat.le_of_ble_eq_true rfl) g1 rfl (t_40 e270) ?_
                rcases gi h with ⟨c271, h⟩ | ⟨c271, h⟩
                · refine en_if_ne_t c271 rfl ?_
                  refine en_aload rfl rfl ?_
                  refine ec_iconst cst_59 rfl ?_
                  obtain ⟨⟨q272, C273⟩, e274, h⟩ := gb h
                  dsimp only at h
                  refine ec_callV1 (k' := 26) (n := 2) (rc := 2) (a := a0) (as := [.int (59 : Int32)]) ⟨rfl, rfl⟩ rfl rfl (Nat.le_of_ble_eq_true rfl) (Nat.le_of_ble_eq_true rfl) (Nat.le_of_ble_eq_true rfl) g1 rfl (t_26 e274) ?_
                  obtain ⟨g275, h⟩ := gd h
                  cases h
                  exact en_zret g275 rfl
                · refine en_if_ne_f c271 rfl ?_
                  refine ec_iconst cst_0 rfl ?_
                  cases h
                  exact en_zret (Or.inl rfl) rfl
            · refine en_icmp_ne_f c256 rfl ?_
              refine en_aload rfl rfl ?_
              refine en_aload rfl rfl ?_
              obtain ⟨⟨q276, C277⟩, e278, h⟩ := gb h
              dsimp only at h
              refine ec_callV1 (k' := 39) (n := 2) (rc := 2) (a := a0) (as := [.ref q2]) ⟨rfl, rfl⟩ rfl rfl (Nat.le_of_ble_eq_true rfl) (Nat.le_of_ble_eq_true rfl) (Nat.le_of_ble_eq_true rfl) g1 rfl (t_39 e278) ?_
              rcases gi h with ⟨c279, h⟩ | ⟨c279, h⟩
              · refine en_if_ne_t c279 rfl ?_
                refine en_aload rfl rfl ?_
                obtain ⟨⟨q280, C281⟩, e282, h⟩ := gb h
                dsimp only at h
                refine ec_callV1 (k' := 23) (n := 1) (rc := 2) (a := a0) (as := []) ⟨rfl, rfl⟩ rfl rfl (Nat.le_of_ble_eq_true rfl) (Nat.le_of_ble_eq_true rfl) (Nat.le_of_ble_eq_true rfl) g1 rfl (t_23 e282) ?_
                refine ec_iconst cst_207 rfl ?_
                rcases gi h with ⟨c283, h⟩ | ⟨c283, h⟩
                · refine en_icmp_ne_t c283 rfl ?_
                  refine en_aload rfl rfl ?_
                  refine ec_iconst cst_59 rfl ?_
                  obtain ⟨⟨q284, C285⟩, e286, h⟩ := gb h
                  dsimp only at h
                  refine ec_callV1 (k' := 26) (n := 2) (rc := 2) (a := a0) (as := [.int (59 : Int32)]) ⟨rfl, rfl⟩ rfl rfl (Nat.le_of_ble_eq_true rfl) (Nat.le_of_ble_eq_true rfl) (Nat.le_of_ble_eq_true rfl) g1 rfl (t_26 e286) ?_
                  obtain ⟨g287, h⟩ := gd h
                  cases h
                  exact en_zret g287 rfl
                · refine en_icmp_ne_f c283 rfl ?_
                  refine en_aload rfl rfl ?_
                  refine en_dup rfl rfl ?_
                  refine ec_getI (ci := 2) (j := 4) ⟨rfl, rfl, rfl⟩ g1 rfl ?_
                  refine ec_iconst cst_1 rfl ?_
                  refine en_iadd rfl ?_
                  refine ec_putI (ci := 2) (j := 4) ⟨rfl, rfl, rfl⟩ g1 rfl ?_
                  refine en_aload rfl rfl ?_
                  refine ec_iconst cst_1 rfl ?_
                  refine ec_putZ (ci := 8) (j := 1) ⟨rfl, rfl, rfl⟩ g5 (Or.inr rfl) rfl ?_
                  refine en_aload rfl rfl ?_
                  refine ec_iconst cst_1 rfl ?_
                  refine ec_iconst cst_0 rfl ?_
                  obtain ⟨⟨q288, C289⟩, e290, h⟩ := gb h
                  dsimp only at h
                  refine ec_callV0 (k' := 38) (n := 3) (rc := 2) (a := a0) (as := [.int (1 : Int32), .int (0 : Int32)]) ⟨rfl, rfl⟩ rfl rfl (Nat.le_of_ble_eq_true rfl) (Nat.le_of_ble_eq_true rfl) (Nat.le_of_ble_eq_true rfl) g1 rfl (t_38 e290) ?_
                  refine en_aload rfl rfl ?_
                  refine en_aload rfl rfl ?_
                  obtain ⟨⟨q291, C292⟩, e293, h⟩ := gb h
                  dsimp only at h
                  refine ec_callV1 (k' := 40) (n := 2) (rc := 2) (a := a0) (as := [.ref q2]) ⟨rfl, rfl⟩ rfl rfl (Nat.le_of_ble_eq_true rfl) (Nat.le_of_ble_eq_true rfl) (Nat.le_of_ble_eq_true rfl) g1 rfl (t_40 e293) ?_
                  rcases gi h with ⟨c294, h⟩ | ⟨c294, h⟩
                  · refine en_if_ne_t c294 rfl ?_
                    refine en_aload rfl rfl ?_
                    refine ec_iconst cst_59 rfl ?_
                    obtain ⟨⟨q295, C296⟩, e297, h⟩ := gb h
                    dsimp only at h
                    refine ec_callV1 (k' := 26) (n := 2) (rc := 2) (a := a0) (as := [.int (59 : Int32)]) ⟨rfl, rfl⟩ rfl rfl (Nat.le_of_ble_eq_true rfl) (Nat.le_of_ble_eq_true rfl) (Nat.le_of_ble_eq_true rfl) g1 rfl (t_26 e297) ?_
                    obtain ⟨g298, h⟩ := gd h
                    cases h
                    exact en_zret g298 rfl
                  · refine en_if_ne_f c294 rfl ?_
                    refine ec_iconst cst_0 rfl ?_
                    cases h
                    exact en_zret (Or.inl rfl) rfl
              · refine en_if_ne_f c279 rfl ?_
                refine ec_iconst cst_0 rfl ?_
                cases h
                exact en_zret (Or.inl rfl) rfl
        · refine en_icmp_eq_f c158 rfl ?_
          refine en_iload rfl rfl ?_
          refine ec_iconst cst_210 rfl ?_
          rcases gi h with ⟨c299, h⟩ | ⟨c299, h⟩
          · refine en_icmp_eq_t c299 rfl ?_
            refine en_aload rfl rfl ?_
            refine en_dup rfl rfl ?_
            refine ec_getI (ci := 2) (j := 4) ⟨rfl, rfl, rfl⟩ g1 rfl ?_
            refine ec_iconst cst_1 rfl ?_
            refine en_iadd rfl ?_
            refine ec_putI (ci := 2) (j := 4) ⟨rfl, rfl, rfl⟩ g1 rfl ?_
            refine en_aload rfl rfl ?_
            refine en_iload rfl rfl ?_
            refine ec_iconst cst_209 rfl ?_
            rcases gi h with ⟨c300, h⟩ | ⟨c300, h⟩
            · refine en_icmp_ne_t c300 rfl ?_
              refine en_iload rfl rfl ?_
              refine ec_iconst cst_206 rfl ?_
              rcases gi h with ⟨c301, h⟩ | ⟨c301, h⟩
              · refine en_icmp_ne_t c301 rfl ?_
                refine ec_iconst cst_2 rfl ?_
                refine ec_putI (ci := 8) (j := 2) ⟨rfl, rfl, rfl⟩ g5 rfl ?_
                refine en_aload rfl rfl ?_
                refine ec_iconst cst_1 rfl ?_
                refine ec_iconst cst_1 rfl ?_
                obtain ⟨⟨q302, C303⟩, e304, h⟩ := gb h
                dsimp only at h
                refine ec_callV0 (k' := 38) (n := 3) (rc := 2) (a := a0) (as := [.int (1 : Int32), .int (1 : Int32)]) ⟨rfl, rfl⟩ rfl rfl (Nat.le_of_ble_eq_true rfl) (Nat.le_of_ble_eq_true rfl) (Nat.le_of_ble_eq_true rfl) g1 rfl (t_38 e304) ?_
                refine en_iload rfl rfl ?_
                refine ec_iconst cst_209 rfl ?_
                rcases gi h with ⟨c305, h⟩ | ⟨c305, h⟩
                · refine en_icmp_ne_t c305 rfl ?_
                  refine en_aload rfl rfl ?_
                  obtain ⟨⟨q306, C307⟩, e308, h⟩ := gb h
                  dsimp only at h
                  refine ec_callV1 (k' := 23) (n := 1) (rc := 2) (a := a0) (as := []) ⟨rfl, rfl⟩ rfl rfl (Nat.le_of_ble_eq_true rfl) (Nat.le_of_ble_eq_true rfl) (Nat.le_of_ble_eq_true rfl) g1 rfl (t_23 e308) ?_
                  refine ec_iconst cst_207 rfl ?_
                  rcases gi h with ⟨c309, h⟩ | ⟨c309, h⟩
                  · refine en_icmp_ne_t c309 rfl ?_
                    refine en_aload rfl rfl ?_
                    refine ec_iconst cst_59 rfl ?_
                    obtain ⟨⟨q310, C311⟩, e312, h⟩ := gb h
                    dsimp only at h
                    refine ec_callV1 (k' := 26) (n := 2) (rc := 2) (a := a0) (as := [.int (59 : Int32)]) ⟨rfl, rfl⟩ rfl rfl (Nat.le_of_ble_eq_true rfl) (Nat.le_of_ble_eq_true rfl) (Nat.le_of_ble_eq_true rfl) g1 rfl (t_26 e312) ?_
                    obtain ⟨g313, h⟩ := gd h
                    cases h
                    exact en_zret g313 rfl
                  · refine en_icmp_ne_f c309 rfl ?_
                    refine en_aload rfl rfl ?_
                    refine en_dup rfl rfl ?_
                    refine ec_getI (ci := 2) (j := 4) ⟨rfl, rfl, rfl⟩ g1 rfl ?_
                    refine ec_iconst cst_1 rfl ?_
                    refine en_iadd rfl ?_
                    refine ec_putI (ci := 2) (j := 4) ⟨rfl, rfl, rfl⟩ g1 rfl ?_
                    refine en_aload rfl rfl ?_
                    refine ec_iconst cst_1 rfl ?_
                    refine ec_putZ (ci := 8) (j := 1) ⟨rfl, rfl, rfl⟩ g5 (Or.inr rfl) rfl ?_
                    refine en_aload rfl rfl ?_
                    refine ec_iconst cst_1 rfl ?_
                    refine ec_iconst cst_0 rfl ?_
                    obtain ⟨⟨q314, C315⟩, e316, h⟩ := gb h
                    dsimp only at h
                    refine ec_callV0 (k' := 38) (n := 3) (rc := 2) (a := a0) (as := [.int (1 : Int32), .int (0 : Int32)]) ⟨rfl, rfl⟩ rfl rfl (Nat.le_of_ble_eq_true rfl) (Nat.le_of_ble_eq_true rfl) (Nat.le_of_ble_eq_true rfl) g1 rfl (t_38 e316) ?_
                    refine en_aload rfl rfl ?_
                    refine en_aload rfl rfl ?_
                    obtain ⟨⟨q317, C318⟩, e319, h⟩ := gb h
                    dsimp only at h
                    refine ec_callV1 (k' := 40) (n := 2) (rc := 2) (a := a0) (as := [.ref q2]) ⟨rfl, rfl⟩ rfl rfl (Nat.le_of_ble_eq_true rfl) (Nat.le_of_ble_eq_true rfl) (Nat.le_of_ble_eq_true rfl) g1 rfl (t_40 e319) ?_
                    rcases gi h with ⟨c320, h⟩ | ⟨c320, h⟩
                    · refine en_if_ne_t c320 rfl ?_
                      refine en_aload rfl rfl ?_
                      refine ec_iconst cst_59 rfl ?_
                      obtain ⟨⟨q321, C322⟩, e323, h⟩ := gb h
                      dsimp only at h
                      refine ec_callV1 (k' := 26) (n := 2) (rc := 2) (a := a0) (as := [.int (59 : Int32)]) ⟨rfl, rfl⟩ rfl rfl (Nat.le_of_ble_eq_true rfl) (Nat.le_of_ble_eq_true rfl) (Nat.le_of_ble_eq_true rfl) g1 rfl (t_26 e323) ?_
                      obtain ⟨g324, h⟩ := gd h
                      cases h
                      exact en_zret g324 rfl
                    · refine en_if_ne_f c320 rfl ?_
                      refine ec_iconst cst_0 rfl ?_
                      cases h
                      exact en_zret (Or.inl rfl) rfl
                · refine en_icmp_ne_f c305 rfl ?_
                  refine en_aload rfl rfl ?_
                  refine en_aload rfl rfl ?_
                  obtain ⟨⟨q325, C326⟩, e327, h⟩ := gb h
                  dsimp only at h
                  refine ec_callV1 (k' := 39) (n := 2) (rc := 2) (a := a0) (as := [.ref q2]) ⟨rfl, rfl⟩ rfl rfl (Nat.le_of_ble_eq_true rfl) (Nat.le_of_ble_eq_true rfl) (Nat.le_of_ble_eq_true rfl) g1 rfl (t_39 e327) ?_
                  rcases gi h with ⟨c328, h⟩ | ⟨c328, h⟩
                  · refine en_if_ne_t c328 rfl ?_
                    refine en_aload rfl rfl ?_
                    obtain ⟨⟨q329, C330⟩, e331, h⟩ := gb h
                    dsimp only at h
                    refine ec_callV1 (k' := 23) (n := 1) (rc := 2) (a := a0) (as := []) ⟨rfl, rfl⟩ rfl rfl (Nat.le_of_ble_eq_true rfl) (Nat.le_of_ble_eq_true rfl) (Nat.le_of_ble_eq_true rfl) g1 rfl (t_23 e331) ?_
                    refine ec_iconst cst_207 rfl ?_
                    rcases gi h with ⟨c332, h⟩ | ⟨c332, h⟩
                    · refine en_icmp_ne_t c332 rfl ?_
                      refine en_aload rfl rfl ?_
                      refine ec_iconst cst_59 rfl ?_
                      obtain ⟨⟨q333, C334⟩, e335, h⟩ := gb h
                      dsimp only at h
                      refine ec_callV1 (k' := 26) (n := 2) (rc := 2) (a := a0) (as := [.int (59 : Int32)]) ⟨rfl, rfl⟩ rfl rfl (Nat.le_of_ble_eq_true rfl) (Nat.le_of_ble_eq_true rfl) (Nat.le_of_ble_eq_true rfl) g1 rfl (t_26 e335) ?_
                      obtain ⟨g336, h⟩ := gd h
                      cases h
                      exact en_zret g336 rfl
                    · refine en_icmp_ne_f c332 rfl ?_
                      refine en_aload rfl rfl ?_
                      refine en_dup rfl rfl ?_
                      refine ec_getI (ci := 2) (j := 4) ⟨rfl, rfl, rfl⟩ g1 rfl ?_
                      refine ec_iconst cst_1 rfl ?_
                      refine en_iadd rfl ?_
                      refine ec_putI (ci := 2) (j := 4) ⟨rfl, rfl, rfl⟩ g1 rfl ?_
                      refine en_aload rfl rfl ?_
                      refine ec_iconst cst_1 rfl ?_
                      refine ec_putZ (ci := 8) (j := 1) ⟨rfl, rfl, rfl⟩ g5 (Or.inr rfl) rfl ?_
                      refine en_aload rfl rfl ?_
                      refine ec_iconst cst_1 rfl ?_
                      refine ec_iconst cst_0 rfl ?_
                      obtain ⟨⟨q337, C338⟩, e339, h⟩ := gb h
                      dsimp only at h
                      refine ec_callV0 (k' := 38) (n := 3) (rc := 2) (a := a0) (as := [.int (1 : Int32), .int (0 : Int32)]) ⟨rfl, rfl⟩ rfl rfl (Nat.le_of_ble_eq_true rfl) (Nat.le_of_ble_eq_true rfl) (Nat.le_of_ble_eq_true rfl) g1 rfl (t_38 e339) ?_
                      refine en_aload rfl rfl ?_
                      refine en_aload rfl rfl ?_
                      obtain ⟨⟨q340, C341⟩, e342, h⟩ := gb h
                      dsimp only at h
                      refine ec_callV1 (k' := 40) (n := 2) (rc := 2) (a := a0) (as := [.ref q2]) ⟨rfl, rfl⟩ rfl rfl (Nat.le_of_ble_eq_true rfl) (Nat.le_of_ble_eq_true rfl) (Nat.le_of_ble_eq_true rfl) g1 rfl (t_40 e342) ?_
                      rcases gi h with ⟨c343, h⟩ | ⟨c343, h⟩
                      · refine en_if_ne_t c343 rfl ?_
                        refine en_aload rfl rfl ?_
                        refine ec_iconst cst_59 rfl ?_
                        obtain ⟨⟨q344, C345⟩, e346, h⟩ := gb h
                        dsimp only at h
                        refine ec_callV1 (k' := 26) (n := 2) (rc := 2) (a := a0) (as := [.int (59 : Int32)]) ⟨rfl, rfl⟩ rfl rfl (Nat.le_of_ble_eq_true rfl) (Nat.le_of_ble_eq_true rfl) (Nat.le_of_ble_eq_true rfl) g1 rfl (t_26 e346) ?_
                        obtain ⟨g347, h⟩ := gd h
                        cases h
                        exact en_zret g347 rfl
                      · refine en_if_ne_f c343 rfl ?_
                        refine ec_iconst cst_0 rfl ?_
                        cases h
                        exact en_zret (Or.inl rfl) rfl
                  · refine en_if_ne_f c328 rfl ?_
                    refine ec_iconst cst_0 rfl ?_
                    cases h
                    exact en_zret (Or.inl rfl) rfl
              · refine en_icmp_ne_f c301 rfl ?_
                refine ec_iconst cst_1 rfl ?_
                refine en_goto rfl ?_
                refine ec_putI (ci := 8) (j := 2) ⟨rfl, rfl, rfl⟩ g5 rfl ?_
                refine en_aload rfl rfl ?_
                refine ec_iconst cst_1 rfl ?_
                refine ec_iconst cst_1 rfl ?_
                obtain ⟨⟨q348, C349⟩, e350, h⟩ := gb h
                dsimp only at h
                refine ec_callV0 (k' := 38) (n := 3) (rc := 2) (a := a0) (as := [.int (1 : Int32), .int (1 : Int32)]) ⟨rfl, rfl⟩ rfl rfl (Nat.le_of_ble_eq_true rfl) (Nat.le_of_ble_eq_true rfl) (Nat.le_of_ble_eq_true rfl) g1 rfl (t_38 e350) ?_
                refine en_iload rfl rfl ?_
                refine ec_iconst cst_209 rfl ?_
                rcases gi h with ⟨c351, h⟩ | ⟨c351, h⟩
                · refine en_icmp_ne_t c351 rfl ?_
                  refine en_aload rfl rfl ?_
                  obtain ⟨⟨q352, C353⟩, e354, h⟩ := gb h
                  dsimp only at h
                  refine ec_callV1 (k' := 23) (n := 1) (rc := 2) (a := a0) (as := []) ⟨rfl, rfl⟩ rfl rfl (Nat.le_of_ble_eq_true rfl) (Nat.le_of_ble_eq_true rfl) (Nat.le_of_ble_eq_true rfl) g1 rfl (t_23 e354) ?_
                  refine ec_iconst cst_207 rfl ?_
                  rcases gi h with ⟨c355, h⟩ | ⟨c355, h⟩
                  · refine en_icmp_ne_t c355 rfl ?_
                    refine en_aload rfl rfl ?_
                    refine ec_iconst cst_59 rfl ?_
                    obtain ⟨⟨q356, C357⟩, e358, h⟩ := gb h
                    dsimp only at h
                    refine ec_callV1 (k' := 26) (n := 2) (rc := 2) (a := a0) (as := [.int (59 : Int32)]) ⟨rfl, rfl⟩ rfl rfl (Nat.le_of_ble_eq_true rfl) (Nat.le_of_ble_eq_true rfl) (Nat.le_of_ble_eq_true rfl) g1 rfl (t_26 e358) ?_
                    obtain ⟨g359, h⟩ := gd h
                    cases h
                    exact en_zret g359 rfl
                  · refine en_icmp_ne_f c355 rfl ?_
                    refine en_aload rfl rfl ?_
                    refine en_dup rfl rfl ?_
                    refine ec_getI (ci := 2) (j := 4) ⟨rfl, rfl, rfl⟩ g1 rfl ?_
                    refine ec_iconst cst_1 rfl ?_
                    refine en_iadd rfl ?_
                    refine ec_putI (ci := 2) (j := 4) ⟨rfl, rfl, rfl⟩ g1 rfl ?_
                    refine en_aload rfl rfl ?_
                    refine ec_iconst cst_1 rfl ?_
                    refine ec_putZ (ci := 8) (j := 1) ⟨rfl, rfl, rfl⟩ g5 (Or.inr rfl) rfl ?_
                    refine en_aload rfl rfl ?_
                    refine ec_iconst cst_1 rfl ?_
                    refine ec_iconst cst_0 rfl ?_
                    obtain ⟨⟨q360, C361⟩, e362, h⟩ := gb h
                    dsimp only at h
                    refine ec_callV0 (k' := 38) (n := 3) (rc := 2) (a := a0) (as := [.int (1 : Int32), .int (0 : Int32)]) ⟨rfl, rfl⟩ rfl rfl (Nat.le_of_ble_eq_true rfl) (Nat.le_of_ble_eq_true rfl) (Nat.le_of_ble_eq_true rfl) g1 rfl (t_38 e362) ?_
                    refine en_aload rfl rfl ?_
                    refine en_aload rfl rfl ?_
                    obtain ⟨⟨q363, C364⟩, e365, h⟩ := gb h
                    dsimp only at h
                    refine ec_callV1 (k' := 40) (n := 2) (rc := 2) (a := a0) (as := [.ref q2]) ⟨rfl, rfl⟩ rfl rfl (Nat.le_of_ble_eq_true rfl) (Nat.le_of_ble_eq_true rfl) (Nat.le_of_ble_eq_true rfl) g1 rfl (t_40 e365) ?_
                    rcases gi h with ⟨c366, h⟩ | ⟨c366, h⟩
                    · refine en_if_ne_t c366 rfl ?_
                      refine en_aload rfl rfl ?_
                      refine ec_iconst cst_59 rfl ?_
                      obtain ⟨⟨q367, C368⟩, e369, h⟩ := gb h
                      dsimp only at h
                      refine ec_callV1 (k' := 26) (n := 2) (rc := 2) (a := a0) (as := [.int (59 : Int32)]) ⟨rfl, rfl⟩ rfl rfl (Nat.le_of_ble_eq_true rfl) (Nat.le_of_ble_eq_true rfl) (Nat.le_of_ble_eq_true rfl) g1 rfl (t_26 e369) ?_
                      obtain ⟨g370, h⟩ := gd h
                      cases h
                      exact en_zret g370 rfl
                    · refine en_if_ne_f c366 rfl ?_
                      refine ec_iconst cst_0 rfl ?_
                      cases h
                      exact en_zret (Or.inl rfl) rfl
                · refine en_icmp_ne_f c351 rfl ?_
                  refine en_aload rfl rfl ?_
                  refine en_aload rfl rfl ?_
                  obtain ⟨⟨q371, C372⟩, e373, h⟩ := gb h
                  dsimp only at h
                  refine ec_callV1 (k' := 39) (n := 2) (rc := 2) (a := a0) (as := [.ref q2]) ⟨rfl, rfl⟩ rfl rfl (Nat.le_of_ble_eq_true rfl) (Nat.le_of_ble_eq_true rfl) (Nat.le_of_ble_eq_true rfl) g1 rfl (t_39 e373) ?_
                  rcases gi h with ⟨c374, h⟩ | ⟨c374, h⟩
                  · refine en_if_ne_t c374 rfl ?_
                    refine en_aload rfl rfl ?_
                    obtain ⟨⟨q375, C376⟩, e377, h⟩ := gb h
                    dsimp only at h
                    refine ec_callV1 (k' := 23) (n := 1) (rc := 2) (a := a0) (as := []) ⟨rfl, rfl⟩ rfl rfl (Nat.le_of_ble_eq_true rfl) (Nat.le_of_ble_eq_true rfl) (Nat.le_of_ble_eq_true rfl) g1 rfl (t_23 e377) ?_
                    refine ec_iconst cst_207 rfl ?_
                    rcases gi h with ⟨c378, h⟩ | ⟨c378, h⟩
                    · refine en_icmp_ne_t c378 rfl ?_
                      refine en_aload rfl rfl ?_
                      refine ec_iconst cst_59 rfl ?_
                      obtain ⟨⟨q379, C380⟩, e381, h⟩ := gb h
                      dsimp only at h
                      refine ec_callV1 (k' := 26) (n := 2) (rc := 2) (a := a0) (as := [.int (59 : Int32)]) ⟨rfl, rfl⟩ rfl rfl (Nat.le_of_ble_eq_true rfl) (Nat.le_of_ble_eq_true rfl) (Nat.le_of_ble_eq_true rfl) g1 rfl (t_26 e381) ?_
                      obtain ⟨g382, h⟩ := gd h
                      cases h
                      exact en_zret g382 rfl
                    · refine en_icmp_ne_f c378 rfl ?_
                      refine en_aload rfl rfl ?_
                      refine en_dup rfl rfl ?_
                      refine ec_getI (ci := 2) (j := 4) ⟨rfl, rfl, rfl⟩ g1 rfl ?_
                      refine ec_iconst cst_1 rfl ?_
                      refine en_iadd rfl ?_
                      refine ec_putI (ci := 2) (j := 4) ⟨rfl, rfl, rfl⟩ g1 rfl ?_
                      refine en_aload rfl rfl ?_
                      refine ec_iconst cst_1 rfl ?_
                      refine ec_putZ (ci := 8) (j := 1) ⟨rfl, rfl, rfl⟩ g5 (Or.inr rfl) rfl ?_
                      refine en_aload rfl rfl ?_
                      refine ec_iconst cst_1 rfl ?_
                      refine ec_iconst cst_0 rfl ?_
                      obtain ⟨⟨q383, C384⟩, e385, h⟩ := gb h
                      dsimp only at h
                      refine ec_callV0 (k' := 38) (n := 3) (rc := 2) (a := a0) (as := [.int (1 : Int32), .int (0 : Int32)]) ⟨rfl, rfl⟩ rfl rfl (Nat.le_of_ble_eq_true rfl) (Nat.le_of_ble_eq_true rfl) (Nat.le_of_ble_eq_true rfl) g1 rfl (t_38 e385) ?_
                      refine en_aload rfl rfl ?_
                      refine en_aload rfl rfl ?_
                      obtain ⟨⟨q386, C387⟩, e388, h⟩ := gb h
                      dsimp only at h
                      refine ec_callV1 (k' := 40) (n := 2) (rc := 2) (a := a0) (as := [.ref q2]) ⟨rfl, rfl⟩ rfl rfl (Nat.le_of_ble_eq_true rfl) (Nat.le_of_ble_eq_true rfl) (Nat.le_of_ble_eq_true rfl) g1 rfl (t_40 e388) ?_
                      rcases gi h with ⟨c389, h⟩ | ⟨c389, h⟩
                      · refine en_if_ne_t c389 rfl ?_
                        refine en_aload rfl rfl ?_
                        refine ec_iconst cst_59 rfl ?_
                        obtain ⟨⟨q390, C391⟩, e392, h⟩ := gb h
                        dsimp only at h
                        refine ec_callV1 (k' := 26) (n := 2) (rc := 2) (a := a0) (as := [.int (59 : Int32)]) ⟨rfl, rfl⟩ rfl rfl (Nat.le_of_ble_eq_true rfl) (Nat.le_of_ble_eq_true rfl) (Nat.le_of_ble_eq_true rfl) g1 rfl (t_26 e392) ?_
                        obtain ⟨g393, h⟩ := gd h
                        cases h
                        exact en_zret g393 rfl
                      · refine en_if_ne_f c389 rfl ?_
                        refine ec_iconst cst_0 rfl ?_
                        cases h
                        exact en_zret (Or.inl rfl) rfl
                  · refine en_if_ne_f c374 rfl ?_
                    refine ec_iconst cst_0 rfl ?_
                    cases h
                    exact en_zret (Or.inl rfl) rfl
            · refine en_icmp_ne_f c300 rfl ?_
              refine ec_iconst cst_0 rfl ?_
              refine en_goto rfl ?_
              refine ec_putI (ci := 8) (j := 2) ⟨rfl, rfl, rfl⟩ g5 rfl ?_
              refine en_aload rfl rfl ?_
              refine ec_iconst cst_1 rfl ?_
              refine ec_iconst cst_1 rfl ?_
              obtain ⟨⟨q394, C395⟩, e396, h⟩ := gb h
              dsimp only at h
              refine ec_callV0 (k' := 38) (n := 3) (rc := 2) (a := a0) (as := [.int (1 : Int32), .int (1 : Int32)]) ⟨rfl, rfl⟩ rfl rfl (Nat.le_of_ble_eq_true rfl) (Nat.le_of_ble_eq_true rfl) (Nat.le_of_ble_eq_true rfl) g1 rfl (t_38 e396) ?_
              refine en_iload rfl rfl ?_
              refine ec_iconst cst_209 rfl ?_
              rcases gi h with ⟨c397, h⟩ | ⟨c397, h⟩
              · refine en_icmp_ne_t c397 rfl ?_
                refine en_aload rfl rfl ?_
                obtain ⟨⟨q398, C399⟩, e400, h⟩ := gb h
                dsimp only at h
                refine ec_callV1 (k' := 23) (n := 1) (rc := 2) (a := a0) (as := []) ⟨rfl, rfl⟩ rfl rfl (Nat.le_of_ble_eq_true rfl) (Nat.le_of_ble_eq_true rfl) (Nat.le_of_ble_eq_true rfl) g1 rfl (t_23 e400) ?_
                refine ec_iconst cst_207 rfl ?_
                rcases gi h with ⟨c401, h⟩ | ⟨c401, h⟩
                · refine en_icmp_ne_t c401 rfl ?_
                  refine en_aload rfl rfl ?_
                  refine ec_iconst cst_59 rfl ?_
                  obtain ⟨⟨q402, C403⟩, e404, h⟩ := gb h
                  dsimp only at h
                  refine ec_callV1 (k' := 26) (n := 2) (rc := 2) (a := a0) (as := [.int (59 : Int32)]) ⟨rfl, rfl⟩ rfl rfl (Nat.le_of_ble_eq_true rfl) (Nat.le_of_ble_eq_true rfl) (Nat.le_of_ble_eq_true rfl) g1 rfl (t_26 e404) ?_
                  obtain ⟨g405, h⟩ := gd h
                  cases h
                  exact en_zret g405 rfl
                · refine en_icmp_ne_f c401 rfl ?_
                  refine en_aload rfl rfl ?_
                  refine en_dup rfl rfl ?_
                  refine ec_getI (ci := 2) (j := 4) ⟨rfl, rfl, rfl⟩ g1 rfl ?_
                  refine ec_iconst cst_1 rfl ?_
                  refine en_iadd rfl ?_
                  refine ec_putI (ci := 2) (j := 4) ⟨rfl, rfl, rfl⟩ g1 rfl ?_
                  refine en_aload rfl rfl ?_
                  refine ec_iconst cst_1 rfl ?_
                  refine ec_putZ (ci := 8) (j := 1) ⟨rfl, rfl, rfl⟩ g5 (Or.inr rfl) rfl ?_
                  refine en_aload rfl rfl ?_
                  refine ec_iconst cst_1 rfl ?_
                  refine ec_iconst cst_0 rfl ?_
                  obtain ⟨⟨q406, C407⟩, e408, h⟩ := gb h
                  dsimp only at h
                  refine ec_callV0 (k' := 38) (n := 3) (rc := 2) (a := a0) (as := [.int (1 : Int32), .int (0 : Int32)]) ⟨rfl, rfl⟩ rfl rfl (Nat.le_of_ble_eq_true rfl) (Nat.le_of_ble_eq_true rfl) (Nat.le_of_ble_eq_true rfl) g1 rfl (t_38 e408) ?_
                  refine en_aload rfl rfl ?_
                  refine en_aload rfl rfl ?_
                  obtain ⟨⟨q409, C410⟩, e411, h⟩ := gb h
                  dsimp only at h
                  refine ec_callV1 (k' := 40) (n := 2) (rc := 2) (a := a0) (as := [.ref q2]) ⟨rfl, rfl⟩ rfl rfl (Nat.le_of_ble_eq_true rfl) (Nat.le_of_ble_eq_true rfl) (Nat.le_of_ble_eq_true rfl) g1 rfl (t_40 e411) ?_
                  rcases gi h with ⟨c412, h⟩ | ⟨c412, h⟩
                  · refine en_if_ne_t c412 rfl ?_
                    refine en_aload rfl rfl ?_
                    refine ec_iconst cst_59 rfl ?_
                    obtain ⟨⟨q413, C414⟩, e415, h⟩ := gb h
                    dsimp only at h
                    refine ec_callV1 (k' := 26) (n := 2) (rc := 2) (a := a0) (as := [.int (59 : Int32)]) ⟨rfl, rfl⟩ rfl rfl (Nat.le_of_ble_eq_true rfl) (Nat.le_of_ble_eq_true rfl) (Nat.le_of_ble_eq_true rfl) g1 rfl (t_26 e415) ?_
                    obtain ⟨g416, h⟩ := gd h
                    cases h
                    exact en_zret g416 rfl
                  · refine en_if_ne_f c412 rfl ?_
                    refine ec_iconst cst_0 rfl ?_
                    cases h
                    exact en_zret (Or.inl rfl) rfl
              · refine en_icmp_ne_f c397 rfl ?_
                refine en_aload rfl rfl ?_
                refine en_aload rfl rfl ?_
                obtain ⟨⟨q417, C418⟩, e419, h⟩ := gb h
                dsimp only at h
                refine ec_callV1 (k' := 39) (n := 2) (rc := 2) (a := a0) (as := [.ref q2]) ⟨rfl, rfl⟩ rfl rfl (Nat.le_of_ble_eq_true rfl) (Nat.le_of_ble_eq_true rfl) (Nat.le_of_ble_eq_true rfl) g1 rfl (t_39 e419) ?_
                rcases gi h with ⟨c420, h⟩ | ⟨c420, h⟩
                · refine en_if_ne_t c420 rfl ?_
                  refine en_aload rfl rfl ?_
                  obtain ⟨⟨q421, C422⟩, e423, h⟩ := gb h
                  dsimp only at h
                  refine ec_callV1 (k' := 23) (n := 1) (rc := 2) (a := a0) (as := []) ⟨rfl, rfl⟩ rfl rfl (Nat.le_of_ble_eq_true rfl) (Nat.le_of_ble_eq_true rfl) (Nat.le_of_ble_eq_true rfl) g1 rfl (t_23 e423) ?_
                  refine ec_iconst cst_207 rfl ?_
                  rcases gi h with ⟨c424, h⟩ | ⟨c424, h⟩
                  · refine en_icmp_ne_t c424 rfl ?_
                    refine en_aload rfl rfl ?_
                    refine ec_iconst cst_59 rfl ?_
                    obtain ⟨⟨q425, C426⟩, e427, h⟩ := gb h
                    dsimp only at h
                    refine ec_callV1 (k' := 26) (n := 2) (rc := 2) (a := a0) (as := [.int (59 : Int32)]) ⟨rfl, rfl⟩ rfl rfl (Nat.le_of_ble_eq_true rfl) (Nat.le_of_ble_eq_true rfl) (Nat.le_of_ble_eq_true rfl) g1 rfl (t_26 e427) ?_
                    obtain ⟨g428, h⟩ := gd h
                    cases h
                    exact en_zret g428 rfl
                  · refine en_icmp_ne_f c424 rfl ?_
                    refine en_aload rfl rfl ?_
                    refine en_dup rfl rfl ?_
                    refine ec_getI (ci := 2) (j := 4) ⟨rfl, rfl, rfl⟩ g1 rfl ?_
                    refine ec_iconst cst_1 rfl ?_
                    refine en_iadd rfl ?_
                    refine ec_putI (ci := 2) (j := 4) ⟨rfl, rfl, rfl⟩ g1 rfl ?_
                    refine en_aload rfl rfl ?_
                    refine ec_iconst cst_1 rfl ?_
                    refine ec_putZ (ci := 8) (j := 1) ⟨rfl, rfl, rfl⟩ g5 (Or.inr rfl) rfl ?_
                    refine en_aload rfl rfl ?_
                    refine ec_iconst cst_1 rfl ?_
                    refine ec_iconst cst_0 rfl ?_
                    obtain ⟨⟨q429, C430⟩, e431, h⟩ := gb h
                    dsimp only at h
                    refine ec_callV0 (k' := 38) (n := 3) (rc := 2) (a := a0) (as := [.int (1 : Int32), .int (0 : Int32)]) ⟨rfl, rfl⟩ rfl rfl (Nat.le_of_ble_eq_true rfl) (Nat.le_of_ble_eq_true rfl) (Nat.le_of_ble_eq_true rfl) g1 rfl (t_38 e431) ?_
                    refine en_aload rfl rfl ?_
                    refine en_aload rfl rfl ?_
                    obtain ⟨⟨q432, C433⟩, e434, h⟩ := gb h
                    dsimp only at h
                    refine ec_callV1 (k' := 40) (n := 2) (rc := 2) (a := a0) (as := [.ref q2]) ⟨rfl, rfl⟩ rfl rfl (Nat.le_of_ble_eq_true rfl) (Nat.le_of_ble_eq_true rfl) (Nat.le_of_ble_eq_true rfl) g1 rfl (t_40 e434) ?_
                    rcases gi h with ⟨c435, h⟩ | ⟨c435, h⟩
                    · refine en_if_ne_t c435 rfl ?_
                      refine en_aload rfl rfl ?_
                      refine ec_iconst cst_59 rfl ?_
                      obtain ⟨⟨q436, C437⟩, e438, h⟩ := gb h
                      dsimp only at h
                      refine ec_callV1 (k' := 26) (n := 2) (rc := 2) (a := a0) (as := [.int (59 : Int32)]) ⟨rfl, rfl⟩ rfl rfl (Nat.le_of_ble_eq_true rfl) (Nat.le_of_ble_eq_true rfl) (Nat.le_of_ble_eq_true rfl) g1 rfl (t_26 e438) ?_
                      obtain ⟨g439, h⟩ := gd h
                      cases h
                      exact en_zret g439 rfl
                    · refine en_if_ne_f c435 rfl ?_
                      refine ec_iconst cst_0 rfl ?_
                      cases h
                      exact en_zret (Or.inl rfl) rfl
                · refine en_if_ne_f c420 rfl ?_
                  refine ec_iconst cst_0 rfl ?_
                  cases h
                  exact en_zret (Or.inl rfl) rfl
          · refine en_icmp_eq_f c299 rfl ?_
            refine en_aload rfl rfl ?_
            refine ec_iconst cst_1 rfl ?_
            obtain ⟨⟨q440, C441⟩, e442, h⟩ := gb h
            dsimp only at h
            refine ec_callV1 (k' := 25) (n := 2) (rc := 2) (a := a0) (as := [.int (1 : Int32)]) ⟨rfl, rfl⟩ rfl rfl (Nat.le_of_ble_eq_true rfl) (Nat.le_of_ble_eq_true rfl) (Nat.le_of_ble_eq_true rfl) g1 rfl (t_25 e442) ?_
            obtain ⟨g443, h⟩ := gd h
            cases h
            exact en_zret g443 rfl
    · refine en_if_ne_f c13 rfl ?_
      refine ec_iconst cst_0 rfl ?_
      cases h
      exact en_zret (Or.inl rfl) rfl
  · refine en_if_ne_f c9 rfl ?_
    refine ec_iconst cst_0 rfl ?_
    cases h
    exact en_zret (Or.inl rfl) rfl
def lp_14_26 : Nat → Nat → Int32 → Int32 → AmC → Option (((Nat)) × AmC)
  | 0, _, _, _, _ => none
  | n + 1, p0, p4, p5, C => (if (900 : Int32) < p5 then some (p0, C) else (if p4 = 0 then some (p0, C) else if isK p0 2 = true then (f_23 n p0 C).bind (fun z => match z with | (q15, C16) => (if q15 = (132 : Int32) then some (p0, C16) else (cP C16 p0 5).bind (fun r19 => if isK r19 6 = true then (if (cI C16 r19 8) < (8 : Int32) then (f_23 n p0 C16).bind (fun z => match z with | (q23, C24) => (if q23 = (200 : Int32) then (if ¬ p5 = 0 then (f_27 n p0 (0 : Int32) C24).bind (fun z => match z with | (q36, C37) => lp_14_26 n p0 q36 (p5 + (1 : Int32)) C37) else (f_27 n p0 (1 : Int32) C24).bind (fun z => match z with | (q39, C40) => lp_14_26 n p0 q39 (p5 + (1 : Int32)) C40)) else if q23 = (201 : Int32) then (f_28 n p0 C24).bind (fun z => match z with | (q42, C43) => lp_14_26 n p0 q42 (p5 + (1 : Int32)) C43) else if q23 = (202 : Int32) then (f_29 n p0 C24).bind (fun z => match z with | (q45, C46) => lp_14_26 n p0 q45 (p5 + (1 : Int32)) C46) else if q23 = (203 : Int32) then (f_32 n p0 (1 : Int32) C24).bind (fun z => match z with | (q48, C49) => lp_14_26 n p0 q48 (p5 + (1 : Int32)) C49) else if q23 = (204 : Int32) then (f_32 n p0 (0 : Int32) C24).bind (fun z => match z with | (q51, C52) => lp_14_26 n p0 q51 (p5 + (1 : Int32)) C52) else if q23 = (205 : Int32) then (f_34 n p0 C24).bind (fun z => match z with | (q54, C55) => lp_14_26 n p0 q54 (p5 + (1 : Int32)) C55) else if q23 = (206 : Int32) then (f_35 n p0 C24).bind (fun z => match z with | (q57, C58) => lp_14_26 n p0 q57 (p5 + (1 : Int32)) C58) else if q23 = (207 : Int32) then (f_36 n p0 C24).bind (fun z => match z with | (q60, C61) => lp_14_26 n p0 q60 (p5 + (1 : Int32)) C61) else if q23 = (208 : Int32) then (f_37 n p0 C24).bind (fun z => match z with | (q63, C64) => lp_14_26 n p0 q63 (p5 + (1 : Int32)) C64) else (f_25 n p0 (1 : Int32) C24).bind (fun z => match z with | (q66, C67) => lp_14_26 n p0 q66 (p5 + (1 : Int32)) C67))) else (f_23 n p0 C16).bind (fun z => match z with | (q69, C70) => (if q69 < (205 : Int32) then (f_23 n p0 C70).bind (fun z => match z with | (q73, C74) => (if q73 = (200 : Int32) then (if ¬ p5 = 0 then (f_27 n p0 (0 : Int32) C74).bind (fun z => match z with | (q86, C87) => lp_14_26 n p0 q86 (p5 + (1 : Int32)) C87) else (f_27 n p0 (1 : Int32) C74).bind (fun z => match z with | (q89, C90) => lp_14_26 n p0 q89 (p5 + (1 : Int32)) C90)) else if q73 = (201 : Int32) then (f_28 n p0 C74).bind (fun z => match z with | (q92, C93) => lp_14_26 n p0 q92 (p5 + (1 : Int32)) C93) else if q73 = (202 : Int32) then (f_29 n p0 C74).bind (fun z => match z with | (q95, C96) => lp_14_26 n p0 q95 (p5 + (1 : Int32)) C96) else if q73 = (203 : Int32) then (f_32 n p0 (1 : Int32) C74).bind (fun z => match z with | (q98, C99) => lp_14_26 n p0 q98 (p5 + (1 : Int32)) C99) else if q73 = (204 : Int32) then (f_32 n p0 (0 : Int32) C74).bind (fun z => match z with | (q101, C102) => lp_14_26 n p0 q101 (p5 + (1 : Int32)) C102) else if q73 = (205 : Int32) then (f_34 n p0 C74).bind (fun z => match z with | (q104, C105) => lp_14_26 n p0 q104 (p5 + (1 : Int32)) C105) else if q73 = (206 : Int32) then (f_35 n p0 C74).bind (fun z => match z with | (q107, C108) => lp_14_26 n p0 q107 (p5 + (1 : Int32)) C108) else if q73 = (207 : Int32) then (f_36 n p0 C74).bind (fun z => match z with | (q110, C111) => lp_14_26 n p0 q110 (p5 + (1 : Int32)) C111) else if q73 = (208 : Int32) then (f_37 n p0 C74).bind (fun z => match z with | (q113, C114) => lp_14_26 n p0 q113 (p5 + (1 : Int32)) C114) else (f_25 n p0 (1 : Int32) C74).bind (fun z => match z with | (q116, C117) => lp_14_26 n p0 q116 (p5 + (1 : Int32)) C117))) else (f_23 n p0 C70).bind (fun z => match z with | (q119, C120) => (if (208 : Int32) < q119 then (f_23 n p0 C120).bind (fun z => match z with | (q123, C124) => (if q123 = (200 : Int32) then (if ¬ p5 = 0 then (f_27 n p0 (0 : Int32) C124).bind (fun z => match z with | (q136, C137) => lp_14_26 n p0 q136 (p5 + (1 : Int32)) C137) else (f_27 n p0 (1 : Int32) C124).bind (fun z => match z with | (q139, C140) => lp_14_26 n p0 q139 (p5 + (1 : Int32)) C140)) else if q123 = (201 : Int32) then (f_28 n p0 C124).bind (fun z => match z with | (q142, C143) => lp_14_26 n p0 q142 (p5 + (1 : Int32)) C143) else if q123 = (202 : Int32) then (f_29 n p0 C124).bind (fun z => match z with | (q145, C146) => lp_14_26 n p0 q145 (p5 + (1 : Int32)) C146) else if q123 = (203 : Int32) then (f_32 n p0 (1 : Int32) C124).bind (fun z => match z with | (q148, C149) => lp_14_26 n p0 q148 (p5 + (1 : Int32)) C149) else if q123 = (204 : Int32) then (f_32 n p0 (0 : Int32) C124).bind (fun z => match z with | (q151, C152) => lp_14_26 n p0 q151 (p5 + (1 : Int32)) C152) else if q123 = (205 : Int32) then (f_34 n p0 C124).bind (fun z => match z with | (q154, C155) => lp_14_26 n p0 q154 (p5 + (1 : Int32)) C155) else if q123 = (206 : Int32) then (f_35 n p0 C124).bind (fun z => match z with | (q157, C158) => lp_14_26 n p0 q157 (p5 + (1 : Int32)) C158) else if q123 = (207 : Int32) then (f_36 n p0 C124).bind (fun z => match z with | (q160, C161) => lp_14_26 n p0 q160 (p5 + (1 : Int32)) C161) else if q123 = (208 : Int32) then (f_37 n p0 C124).bind (fun z => match z with | (q163, C164) => lp_14_26 n p0 q163 (p5 + (1 : Int32)) C164) else (f_25 n p0 (1 : Int32) C124).bind (fun z => match z with | (q166, C167) => lp_14_26 n p0 q166 (p5 + (1 : Int32)) C167))) else (f_25 n p0 (2 : Int32) C120).bind (fun z => match z with | (q169, C170) => lp_14_26 n p0 q169 (p5 + (1 : Int32)) C170)))))) else none))) else none))
set_option maxRecDepth 20000 in
set_option maxHeartbeats 4000000 in
theorem lt_14_26 : ∀ (n : Nat) (p0 : Nat) (p4 : Int32) (p5 : Int32) (C : AmC) (r : ((Nat)) × AmC), lp_14_26 n p0 p4 p5 C = some r → ∀ (o : AmO) (M' : AmM), (match r with
        | (w0, C') => En false 14 105 [(0, .ref w0)] [] (mkM C') o M') → En false 14 26 [(0, .ref p0), (4, .int p4), (5, .int p5)] [] (mkM C) o M' := by
  intro n
  induction n with
  | zero => intro p0 p4 p5 C r h; cases h
  | succ n ih =>
    intro p0 p4 p5 C r h o M' hk
    unfold lp_14_26 at h
    refine en_iload rfl rfl ?_
    refine ec_iconst cst_900 rfl ?_
    rcases gi h with ⟨c12, h⟩ | ⟨c12, h⟩
    · refine en_icmp_gt_t c12 rfl ?_
      cases h
      exact en_sub [0] rfl rfl hk
    · refine en_icmp_gt_f c12 rfl ?_
      refine en_iload rfl rfl ?_
      rcases gi h with ⟨c13, h⟩ | ⟨c13, h⟩
      · refine en_if_eq_t c13 rfl ?_
        cases h
        exact en_sub [0] rfl rfl hk
      · refine en_if_eq_f c13 rfl ?_
        refine en_aload rfl rfl ?_
        obtain ⟨g14, h⟩ := gd h
        obtain ⟨⟨q15, C16⟩, e17, h⟩ := gb h
        dsimp only at h
        refine ec_callV1 (k' := 23) (n := 1) (rc := 2) (a := p0) (as := []) ⟨rfl, rfl⟩ rfl rfl (Nat.le_of_ble_eq_true rfl) (Nat.le_of_ble_eq_true rfl) (Nat.le_of_ble_eq_true rfl) g14 rfl (t_23 e17) ?_
        refine ec_iconst cst_132 rfl ?_
        rcases gi h with ⟨c18, h⟩ | ⟨c18, h⟩
        · refine en_icmp_eq_t c18 rfl ?_
          cases h
          exact en_sub [0] rfl rfl hk
        · refine en_icmp_eq_f c18 rfl ?_
          refine en_aload rfl rfl ?_
          obtain ⟨r19, e20, h⟩ := gb h
          refine ec_getP (ci := 2) (j := 5) ⟨rfl, rfl, rfl⟩ g14 e20 rfl ?_
          obtain ⟨g21, h⟩ := gd h
          refine ec_getI (ci := 6) (j := 8) ⟨rfl, rfl, rfl⟩ g21 rfl ?_
          refine ec_iconst cst_8 rfl ?_
          rcases gi h with ⟨c22, h⟩ | ⟨c22, h⟩
          · refine en_icmp_lt_t c22 rfl ?_
            refine en_aload rfl rfl ?_
            obtain ⟨⟨q23, C24⟩, e25, h⟩ := gb h
            dsimp only at h
            refine ec_callV1 (k' := 23) (n := 1) (rc := 2) (a := p0) (as := []) ⟨rfl, rfl⟩ rfl rfl (Nat.le_of_ble_eq_true rfl) (Nat.le_of_ble_eq_true rfl) (Nat.le_of_ble_eq_true rfl) g14 rfl (t_23 e25) ?_
            rcases gi h with ⟨c26, h⟩ | ⟨c26, h⟩
            · refine en_tab_i (t := 56) (by rw [c26]; decide) (by rw [c26]; rfl) rfl ?_
              refine en_aload rfl rfl ?_
              refine en_iload rfl rfl ?_
              rcases gi h with ⟨c35, h⟩ | ⟨c35, h⟩
              · refine en_if_ne_t c35 rfl ?_
                refine ec_iconst cst_0 rfl ?_
                obtain ⟨⟨q36, C37⟩, e38, h⟩ := gb h
                dsimp only at h
                refine ec_callV1 (k' := 27) (n := 2) (rc := 2) (a := p0) (as := [.int (0 : Int32)]) ⟨rfl, rfl⟩ rfl rfl (Nat.le_of_ble_eq_true rfl) (Nat.le_of_ble_eq_true rfl) (Nat.le_of_ble_eq_true rfl) g14 rfl (t_27 e38) ?_
                refine en_istore (l' := [(4, .int q36), (0, .ref p0), (5, .int p5)]) rfl rfl ?_
                refine en_goto rfl ?_
                refine ec_iinc (l' := [(5, .int (p5 + (1 : Int32))), (4, .int q36), (0, .ref p0)]) rfl cst_1 rfl rfl ?_
                refine en_goto rfl ?_
                refine en_sub [2, 1, 0] rfl rfl ?_
                exact ih _ _ _ _ _ h o M' hk
              · refine en_if_ne_f c35 rfl ?_
                refine ec_iconst cst_1 rfl ?_
                refine en_goto rfl ?_
                obtain ⟨⟨q39, C40⟩, e41, h⟩ := gb h
                dsimp only at h
                refine ec_callV1 (k' := 27) (n := 2) (rc := 2) (a := p0) (as := [.int (1 : Int32)]) ⟨rfl, rfl⟩ rfl rfl (Nat.le_of_ble_eq_true rfl) (Nat.le_of_ble_eq_true rfl) (Nat.le_of_ble_eq_true rfl) g14 rfl (t_27 e41) ?_
                refine en_istore (l' := [(4, .int q39), (0, .ref p0), (5, .int p5)]) rfl rfl ?_
                refine en_goto rfl ?_
                refine ec_iinc (l' := [(5, .int (p5 + (1 : Int32))), (4, .int q39), (0, .ref p0)]) rfl cst_1 rfl rfl ?_
                refine en_goto rfl ?_
                refine en_sub [2, 1, 0] rfl rfl ?_
                exact ih _ _ _ _ _ h o M' hk
            ·
              rcases gi h with ⟨c27, h⟩ | ⟨c27, h⟩
              · refine en_tab_i (t := 65) (by rw [c27]; decide) (by rw [c27]; rfl) rfl ?_
                refine en_aload rfl rfl ?_
                obtain ⟨⟨q42, C43⟩, e44, h⟩ := gb h
                dsimp only at h
                refine ec_callV1 (k' := 28) (n := 1) (rc := 2) (a := p0) (as := []) ⟨rfl, rfl⟩ rfl rfl (Nat.le_of_ble_eq_true rfl) (Nat.le_of_ble_eq_true rfl) (Nat.le_of_ble_eq_true rfl) g14 rfl (t_28 e44) ?_
                refine en_istore (l' := [(4, .int q42), (0, .ref p0), (5, .int p5)]) rfl rfl ?_
                refine en_goto rfl ?_
                refine ec_iinc (l' := [(5, .int (p5 + (1 : Int32))), (4, .int q42), (0, .ref p0)]) rfl cst_1 rfl rfl ?_
                refine en_goto rfl ?_
                refine en_sub [2, 1, 0] rfl rfl ?_
                exact ih _ _ _ _ _ h o M' hk
              ·
                rcases gi h with ⟨c28, h⟩ | ⟨c28, h⟩
                · refine en_tab_i (t := 69) (by rw [c28]; decide) (by rw [c28]; rfl) rfl ?_
                  refine en_aload rfl rfl ?_
                  obtain ⟨⟨q45, C46⟩, e47, h⟩ := gb h
                  dsimp only at h
                  refine ec_callV1 (k' := 29) (n := 1) (rc := 2) (a := p0) (as := []) ⟨rfl, rfl⟩ rfl rfl (Nat.le_of_ble_eq_true rfl) (Nat.le_of_ble_eq_true rfl) (Nat.le_of_ble_eq_true rfl) g14 rfl (t_29 e47) ?_
                  refine en_istore (l' := [(4, .int q45), (0, .ref p0), (5, .int p5)]) rfl rfl ?_
                  refine en_goto rfl ?_
                  refine ec_iinc (l' := [(5, .int (p5 + (1 : Int32))), (4, .int q45), (0, .ref p0)]) rfl cst_1 rfl rfl ?_
                  refine en_goto rfl ?_
                  refine en_sub [2, 1, 0] rfl rfl ?_
                  exact ih _ _ _ _ _ h o M' hk
                ·
                  rcases gi h with ⟨c29, h⟩ | ⟨c29, h⟩
                  · refine en_tab_i (t := 73) (by rw [c29]; decide) (by rw [c29]; rfl) rfl ?_
                    refine en_aload rfl rfl ?_
                    refine ec_iconst cst_1 rfl ?_
                    obtain ⟨⟨q48, C49⟩, e50, h⟩ := gb h
                    dsimp only at h
                    refine ec_callV1 (k' := 32) (n := 2) (rc := 2) (a := p0) (as := [.int (1 : Int32)]) ⟨rfl, rfl⟩ rfl rfl (Nat.le_of_ble_eq_true rfl) (Nat.le_of_ble_eq_true rfl) (Nat.le_of_ble_eq_true rfl) g14 rfl (t_32 e50) ?_
                    refine en_istore (l' := [(4, .int q48), (0, .ref p0), (5, .int p5)]) rfl rfl ?_
                    refine en_goto rfl ?_
                    refine ec_iinc (l' := [(5, .int (p5 + (1 : Int32))), (4, .int q48), (0, .ref p0)]) rfl cst_1 rfl rfl ?_
                    refine en_goto rfl ?_
                    refine en_sub [2, 1, 0] rfl rfl ?_
                    exact ih _ _ _ _ _ h o M' hk
                  ·
                    rcases gi h with ⟨c30, h⟩ | ⟨c30, h⟩
                    · refine en_tab_i (t := 78) (by rw [c30]; decide) (by rw [c30]; rfl) rfl ?_
                      refine en_aload rfl rfl ?_
                      refine ec_iconst cst_0 rfl ?_
                      obtain ⟨⟨q51, C52⟩, e53, h⟩ := gb h
                      dsimp only at h
                      refine ec_callV1 (k' := 32) (n := 2) (rc := 2) (a := p0) (as := [.int (0 : Int32)]) ⟨rfl, rfl⟩ rfl rfl (Nat.le_of_ble_eq_true rfl) (Nat.le_of_ble_eq_true rfl) (Nat.le_of_ble_eq_true rfl) g14 rfl (t_32 e53) ?_
                      refine en_istore (l' := [(4, .int q51), (0, .ref p0), (5, .int p5)]) rfl rfl ?_
                      refine en_goto rfl ?_
                      refine ec_iinc (l' := [(5, .int (p5 + (1 : Int32))), (4, .int q51), (0, .ref p0)]) rfl cst_1 rfl rfl ?_
                      refine en_goto rfl ?_
                      refine en_sub [2, 1, 0] rfl rfl ?_
                      exact ih _ _ _ _ _ h o M' hk
                    ·
                      rcases gi h with ⟨c31, h⟩ | ⟨c31, h⟩
                      · refine en_tab_i (t := 83) (by rw [c31]; decide) (by rw [c31]; rfl) rfl ?_
                        refine en_aload rfl rfl ?_
                        obtain ⟨⟨q54, C55⟩, e56, h⟩ := gb h
                        dsimp only at h
                        refine ec_callV1 (k' := 34) (n := 1) (rc := 2) (a := p0) (as := []) ⟨rfl, rfl⟩ rfl rfl (Nat.le_of_ble_eq_true rfl) (Nat.le_of_ble_eq_true rfl) (Nat.le_of_ble_eq_true rfl) g14 rfl (t_34 e56) ?_
                        refine en_istore (l' := [(4, .int q54), (0, .ref p0), (5, .int p5)]) rfl rfl ?_
                        refine en_goto rfl ?_
                        refine ec_iinc (l' := [(5, .int (p5 + (1 : Int32))), (4, .int q54), (0, .ref p0)]) rfl cst_1 rfl rfl ?_
                        refine en_goto rfl ?_
                        refine en_sub [2, 1, 0] rfl rfl ?_
                        exact ih _ _ _ _ _ h o M' hk
                      ·
                        rcases gi h with ⟨c32, h⟩ | ⟨c32, h⟩
                        · refine en_tab_i (t := 87) (by rw [c32]; decide) (by rw [c32]; rfl) rfl ?_
                          refine en_aload rfl rfl ?_
                          obtain ⟨⟨q57, C58⟩, e59, h⟩ := gb h
                          dsimp only at h
                          refine ec_callV1 (k' := 35) (n := 1) (rc := 2) (a := p0) (as := []) ⟨rfl, rfl⟩ rfl rfl (Nat.le_of_ble_eq_true rfl) (Nat.le_of_ble_eq_true rfl) (Nat.le_of_ble_eq_true rfl) g14 rfl (t_35 e59) ?_
                          refine en_istore (l' := [(4, .int q57), (0, .ref p0), (5, .int p5)]) rfl rfl ?_
                          refine en_goto rfl ?_
                          refine ec_iinc (l' := [(5, .int (p5 + (1 : Int32))), (4, .int q57), (0, .ref p0)]) rfl cst_1 rfl rfl ?_
                          refine en_goto rfl ?_
                          refine en_sub [2, 1, 0] rfl rfl ?_
                          exact ih _ _ _ _ _ h o M' hk
                        ·
                          rcases gi h with ⟨c33, h⟩ | ⟨c33, h⟩
                          · refine en_tab_i (t := 91) (by rw [c33]; decide) (by rw [c33]; rfl) rfl ?_
                            refine en_aload rfl rfl ?_
                            obtain ⟨⟨q60, C61⟩, e62, h⟩ := gb h
                            dsimp only at h
                            refine ec_callV1 (k' := 36) (n := 1) (rc := 2) (a := p0) (as := []) ⟨rfl, rfl⟩ rfl rfl (Nat.le_of_ble_eq_true rfl) (Nat.le_of_ble_eq_true rfl) (Nat.le_of_ble_eq_true rfl) g14 rfl (t_36 e62) ?_
                            refine en_istore (l' := [(4, .int q60), (0, .ref p0), (5, .int p5)]) rfl rfl ?_
                            refine en_goto rfl ?_
                            refine ec_iinc (l' := [(5, .int (p5 + (1 : Int32))), (4, .int q60), (0, .ref p0)]) rfl cst_1 rfl rfl ?_
                            refine en_goto rfl ?_
                            refine en_sub [2, 1, 0] rfl rfl ?_
                            exact ih _ _ _ _ _ h o M' hk
                          ·
                            rcases gi h with ⟨c34, h⟩ | ⟨c34, h⟩
                            · refine en_tab_i (t := 95) (by rw [c34]; decide) (by rw [c34]; rfl) rfl ?_
                              refine en_aload rfl rfl ?_
                              obtain ⟨⟨q63, C64⟩, e65, h⟩ := gb h
                              dsimp only at h
                              refine ec_callV1 (k' := 37) (n := 1) (rc := 2) (a := p0) (as := []) ⟨rfl, rfl⟩ rfl rfl (Nat.le_of_ble_eq_true rfl) (Nat.le_of_ble_eq_true rfl) (Nat.le_of_ble_eq_true rfl) g14 rfl (t_37 e65) ?_
                              refine en_istore (l' := [(4, .int q63), (0, .ref p0), (5, .int p5)]) rfl rfl ?_
                              refine en_goto rfl ?_
                              refine ec_iinc (l' := [(5, .int (p5 + (1 : Int32))), (4, .int q63), (0, .ref p0)]) rfl cst_1 rfl rfl ?_
                              refine en_goto rfl ?_
                              refine en_sub [2, 1, 0] rfl rfl ?_
                              exact ih _ _ _ _ _ h o M' hk
                            ·
                              refine en_tab_o (by have z0 := ne_toInt c26 (v := 200) (by decide); have z1 := ne_toInt c27 (v := 201) (by decide); have z2 := ne_toInt c28 (v := 202) (by decide); have z3 := ne_toInt c29 (v := 203) (by decide); have z4 := ne_toInt c30 (v := 204) (by decide); have z5 := ne_toInt c31 (v := 205) (by decide); have z6 := ne_toInt c32 (v := 206) (by decide); have z7 := ne_toInt c33 (v := 207) (by decide); have z8 := ne_toInt c34 (v := 208) (by decide); omega) rfl ?_
                              refine en_aload rfl rfl ?_
                              refine ec_iconst cst_1 rfl ?_
                              obtain ⟨⟨q66, C67⟩, e68, h⟩ := gb h
                              dsimp only at h
                              refine ec_callV1 (k' := 25) (n := 2) (rc := 2) (a := p0) (as := [.int (1 : Int32)]) ⟨rfl, rfl⟩ rfl rfl (Nat.le_of_ble_eq_true rfl) (Nat.le_of_ble_eq_true rfl) (Nat.le_of_ble_eq_true rfl) g14 rfl (t_25 e68) ?_
                              refine en_istore (l' := [(4, .int q66), (0, .ref p0), (5, .int p5)]) rfl rfl ?_
                              refine ec_iinc (l' := [(5, .int (p5 + (1 : Int32))), (4, .int q66), (0, .ref p0)]) rfl cst_1 rfl rfl ?_
                              refine en_goto rfl ?_
                              refine en_sub [2, 1, 0] rfl rfl ?_
                              exact ih _ _ _ _ _ h o M' hk
          · refine en_icmp_lt_f c22 rfl ?_
            refine en_aload rfl rfl ?_
            obtain ⟨⟨q69, C70⟩, e71, h⟩ := gb h
            dsimp only at h
            refine ec_callV1 (k' := 23) (n := 1) (rc := 2) (a := p0) (as := []) ⟨rfl, rfl⟩ rfl rfl (Nat.le_of_ble_eq_true rfl) (Nat.le_of_ble_eq_true rfl) (Nat.le_of_ble_eq_true rfl) g14 rfl (t_23 e71) ?_
            refine ec_iconst cst_205 rfl ?_
            rcases gi h with ⟨c72, h⟩ | ⟨c72, h⟩
            · refine en_icmp_lt_t c72 rfl ?_
              refine en_aload rfl rfl ?_
              obtain ⟨⟨q73, C74⟩, e75, h⟩ := gb h
              dsimp only at h
              refine ec_callV1 (k' := 23) (n := 1) (rc := 2) (a := p0) (as := []) ⟨rfl, rfl⟩ rfl rfl (Nat.le_of_ble_eq_true rfl) (Nat.le_of_ble_eq_true rfl) (Nat.le_of_ble_eq_true rfl) g14 rfl (t_23 e75) ?_
              rcases gi h with ⟨c76, h⟩ | ⟨c76, h⟩
              · refine en_tab_i (t := 56) (by rw [c76]; decide) (by rw [c76]; rfl) rfl ?_
                refine en_aload rfl rfl ?_
                refine en_iload rfl rfl ?_
                rcases gi h with ⟨c85, h⟩ | ⟨c85, h⟩
                · refine en_if_ne_t c85 rfl ?_
                  refine ec_iconst cst_0 rfl ?_
                  obtain ⟨⟨q86, C87⟩, e88, h⟩ := gb h
                  dsimp only at h
                  refine ec_callV1 (k' := 27) (n := 2) (rc := 2) (a := p0) (as := [.int (0 : Int32)]) ⟨rfl, rfl⟩ rfl rfl (Nat.le_of_ble_eq_true rfl) (Nat.le_of_ble_eq_true rfl) (Nat.le_of_ble_eq_true rfl) g14 rfl (t_27 e88) ?_
                  refine en_istore (l' := [(4, .int q86), (0, .ref p0), (5, .int p5)]) rfl rfl ?_
                  refine en_goto rfl ?_
                  refine ec_iinc (l' := [(5, .int (p5 + (1 : Int32))), (4, .int q86), (0, .ref p0)]) rfl cst_1 rfl rfl ?_
                  refine en_goto rfl ?_
                  refine en_sub [2, 1, 0] rfl rfl ?_
                  exact ih _ _ _ _ _ h o M' hk
                · refine en_if_ne_f c85 rfl ?_
                  refine ec_iconst cst_1 rfl ?_
                  refine en_goto rfl ?_
                  obtain ⟨⟨q89, C90⟩, e91, h⟩ := gb h
                  dsimp only at h
                  refine ec_callV1 (k' := 27) (n := 2) (rc := 2) (a := p0) (as := [.int (1 : Int32)]) ⟨rfl, rfl⟩ rfl rfl (Nat.le_of_ble_eq_true rfl) (Nat.le_of_ble_eq_true rfl) (Nat.le_of_ble_eq_true rfl) g14 rfl (t_27 e91) ?_
                  refine en_istore (l' := [(4, .int q89), (0, .ref p0), (5, .int p5)]) rfl rfl ?_
                  refine en_goto rfl ?_
                  refine ec_iinc (l' := [(5, .int (p5 + (1 : Int32))), (4, .int q89), (0, .ref p0)]) rfl cst_1 rfl rfl ?_
                  refine en_goto rfl ?_
                  refine en_sub [2, 1, 0] rfl rfl ?_
                  exact ih _ _ _ _ _ h o M' hk
              ·
                rcases gi h with ⟨c77, h⟩ | ⟨c77, h⟩
                · refine en_tab_i (t := 65) (by rw [c77]; decide) (by rw [c77]; rfl) rfl ?_
                  refine en_aload rfl rfl ?_
                  obtain ⟨⟨q92, C93⟩, e94, h⟩ := gb h
                  dsimp only at h
                  refine ec_callV1 (k' := 28) (n := 1) (rc := 2) (a := p0) (as := []) ⟨rfl, rfl⟩ rfl rfl (Nat.le_of_ble_eq_true rfl) (Nat.le_of_ble_eq_true rfl) (Nat.le_of_ble_eq_true rfl) g14 rfl (t_28 e94) ?_
                  refine en_istore (l' := [(4, .int q92), (0, .ref p0), (5, .int p5)]) rfl rfl ?_
                  refine en_goto rfl ?_
                  refine ec_iinc (l' := [(5, .int (p5 + (1 : Int32))), (4, .int q92), (0, .ref p0)]) rfl cst_1 rfl rfl ?_
                  refine en_goto rfl ?_
                  refine en_sub [2, 1, 0] rfl rfl ?_
                  exact ih _ _ _ _ _ h o M' hk
                ·
                  rcases gi h with ⟨c78, h⟩ | ⟨c78, h⟩
                  · refine en_tab_i (t := 69) (by rw [c78]; decide) (by rw [c78]; rfl) rfl ?_
                    refine en_aload rfl rfl ?_
                    obtain ⟨⟨q95, C96⟩, e97, h⟩ := gb h
                    dsimp only at h
                    refine ec_callV1 (k' := 29) (n := 1) (rc := 2) (a := p0) (as := []) ⟨rfl, rfl⟩ rfl rfl (Nat.le_of_ble_eq_true rfl) (Nat.le_of_ble_eq_true rfl) (Nat.le_of_ble_eq_true rfl) g14 rfl (t_29 e97) ?_
                    refine en_istore (l' := [(4, .int q95), (0, .ref p0), (5, .int p5)]) rfl rfl ?_
                    refine en_goto rfl ?_
                    refine ec_iinc (l' := [(5, .int (p5 + (1 : Int32))), (4, .int q95), (0, .ref p0)]) rfl cst_1 rfl rfl ?_
                    refine en_goto rfl ?_
                    refine en_sub [2, 1, 0] rfl rfl ?_
                    exact ih _ _ _ _ _ h o M' hk
                  ·
                    rcases gi h with ⟨c79, h⟩ | ⟨c79, h⟩
                    · refine en_tab_i (t := 73) (by rw [c79]; decide) (by rw [c79]; rfl) rfl ?_
                      refine en_aload rfl rfl ?_
                      refine ec_iconst cst_1 rfl ?_
                      obtain ⟨⟨q98, C99⟩, e100, h⟩ := gb h
                      dsimp only at h
                      refine ec_callV1 (k' := 32) (n := 2) (rc := 2) (a := p0) (as := [.int (1 : Int32)]) ⟨rfl, rfl⟩ rfl rfl (Nat.le_of_ble_eq_true rfl) (Nat.le_of_ble_eq_true rfl) (Nat.le_of_ble_eq_true rfl) g14 rfl (t_32 e100) ?_
                      refine en_istore (l' := [(4, .int q98), (0, .ref p0), (5, .int p5)]) rfl rfl ?_
                      refine en_goto rfl ?_
                      refine ec_iinc (l' := [(5, .int (p5 + (1 : Int32))), (4, .int q98), (0, .ref p0)]) rfl cst_1 rfl rfl ?_
                      refine en_goto rfl ?_
                      refine en_sub [2, 1, 0] rfl rfl ?_
                      exact ih _ _ _ _ _ h o M' hk
                    ·
                      rcases gi h with ⟨c80, h⟩ | ⟨c80, h⟩
                      · refine en_tab_i (t := 78) (by rw [c80]; decide) (by rw [c80]; rfl) rfl ?_
                        refine en_aload rfl rfl ?_
                        refine ec_iconst cst_0 rfl ?_
                        obtain ⟨⟨q101, C102⟩, e103, h⟩ := gb h
                        dsimp only at h
                        refine ec_callV1 (k' := 32) (n := 2) (rc := 2) (a := p0) (as := [.int (0 : Int32)]) ⟨rfl, rfl⟩ rfl rfl (Nat.le_of_ble_eq_true rfl) (Nat.le_of_ble_eq_true rfl) (Nat.le_of_ble_eq_true rfl) g14 rfl (t_32 e103) ?_
                        refine en_istore (l' := [(4, .int q101), (0, .ref p0), (5, .int p5)]) rfl rfl ?_
                        refine en_goto rfl ?_
                        refine ec_iinc (l' := [(5, .int (p5 + (1 : Int32))), (4, .int q101), (0, .ref p0)]) rfl cst_1 rfl rfl ?_
                        refine en_goto rfl ?_
                        refine en_sub [2, 1, 0] rfl rfl ?_
                        exact ih _ _ _ _ _ h o M' hk
                      ·
                        rcases gi h with ⟨c81, h⟩ | ⟨c81, h⟩
                        · refine en_tab_i (t := 83) (by rw [c81]; decide) (by rw [c81]; rfl) rfl ?_
                          refine en_aload rfl rfl ?_
                          obtain ⟨⟨q104, C105⟩, e106, h⟩ := gb h
                          dsimp only at h
                          refine ec_callV1 (k' := 34) (n := 1) (rc := 2) (a := p0) (as := []) ⟨rfl, rfl⟩ rfl rfl (Nat.le_of_ble_eq_true rfl) (Nat.le_of_ble_eq_true rfl) (Nat.le_of_ble_eq_true rfl) g14 rfl (t_34 e106) ?_
                          refine en_istore (l' := [(4, .int q104), (0, .ref p0), (5, .int p5)]) rfl rfl ?_
                          refine en_goto rfl ?_
                          refine ec_iinc (l' := [(5, .int (p5 + (1 : Int32))), (4, .int q104), (0, .ref p0)]) rfl cst_1 rfl rfl ?_
                          refine en_goto rfl ?_
                          refine en_sub [2, 1, 0] rfl rfl ?_
                          exact ih _ _ _ _ _ h o M' hk
                        ·
                          rcases gi h with ⟨c82, h⟩ | ⟨c82, h⟩
                          · refine en_tab_i (t := 87) (by rw [c82]; decide) (by rw [c82]; rfl) rfl ?_
                            refine en_aload rfl rfl ?_
                            obtain ⟨⟨q107, C108⟩, e109, h⟩ := gb h
                            dsimp only at h
                            refine ec_callV1 (k' := 35) (n := 1) (rc := 2) (a := p0) (as := []) ⟨rfl, rfl⟩ rfl rfl (Nat.le_of_ble_eq_true rfl) (Nat.le_of_ble_eq_true rfl) (Nat.le_of_ble_eq_true rfl) g14 rfl (t_35 e109) ?_
                            refine en_istore (l' := [(4, .int q107), (0, .ref p0), (5, .int p5)]) rfl rfl ?_
                            refine en_goto rfl ?_
                            refine ec_iinc (l' := [(5, .int (p5 + (1 : Int32))), (4, .int q107), (0, .ref p0)]) rfl cst_1 rfl rfl ?_
                            refine en_goto rfl ?_
                            refine en_sub [2, 1, 0] rfl rfl ?_
                            exact ih _ _ _ _ _ h o M' hk
                          ·
                            rcases gi h with ⟨c83, h⟩ | ⟨c83, h⟩
                            · refine en_tab_i (t := 91) (by rw [c83]; decide) (by rw [c83]; rfl) rfl ?_
                              refine en_aload rfl rfl ?_
                              obtain ⟨⟨q110, C111⟩, e112, h⟩ := gb h
                              dsimp only at h
                              refine ec_callV1 (k' := 36) (n := 1) (rc := 2) (a := p0) (as := []) ⟨rfl, rfl⟩ rfl rfl (Nat.le_of_ble_eq_true rfl) (Nat.le_of_ble_eq_true rfl) (Nat.le_of_ble_eq_true rfl) g14 rfl (t_36 e112) ?_
                              refine en_istore (l' := [(4, .int q110), (0, .ref p0), (5, .int p5)]) rfl rfl ?_
                              refine en_goto rfl ?_
                              refine ec_iinc (l' := [(5, .int (p5 + (1 : Int32))), (4, .int q110), (0, .ref p0)]) rfl cst_1 rfl rfl ?_
                              refine en_goto rfl ?_
                              refine en_sub [2, 1, 0] rfl rfl ?_
                              exact ih _ _ _ _ _ h o M' hk
                            ·
                              rcases gi h with ⟨c84, h⟩ | ⟨c84, h⟩
                              · refine en_tab_i (t := 95) (by rw [c84]; decide) (by rw [c84]; rfl) rfl ?_
                                refine en_aload rfl rfl ?_
                                obtain ⟨⟨q113, C114⟩, e115, h⟩ := gb h
                                dsimp only at h
                                refine ec_callV1 (k' := 37) (n := 1) (rc := 2) (a := p0) (as := []) ⟨rfl, rfl⟩ rfl rfl (Nat.le_of_ble_eq_true rfl) (Nat.le_of_ble_eq_true rfl) (Nat.le_of_ble_eq_true rfl) g14 rfl (t_37 e115) ?_
                                refine en_istore (l' := [(4, .int q113), (0, .ref p0), (5, .int p5)]) rfl rfl ?_
                                refine en_goto rfl ?_
                                refine ec_iinc (l' := [(5, .int (p5 + (1 : Int32))), (4, .int q113), (0, .ref p0)]) rfl cst_1 rfl rfl ?_
                                refine en_goto rfl ?_
                                refine en_sub [2, 1, 0] rfl rfl ?_
                                exact ih _ _ _ _ _ h o M' hk
                              ·
                                refine en_tab_o (by have z0 := ne_toInt c76 (v := 200) (by decide); have z1 := ne_toInt c77 (v := 201) (by decide); have z2 := ne_toInt c78 (v := 202) (by decide); have z3 := ne_toInt c79 (v := 203) (by decide); have z4 := ne_toInt c80 (v := 204) (by decide); have z5 := ne_toInt c81 (v := 205) (by decide); have z6 := ne_toInt c82 (v := 206) (by decide); have z7 := ne_toInt c83 (v := 207) (by decide); have z8 := ne_toInt c84 (v := 208) (by decide); omega) rfl ?_
                                refine en_aload rfl rfl ?_
                                refine ec_iconst cst_1 rfl ?_
                                obtain ⟨⟨q116, C117⟩, e118, h⟩ := gb h
                                dsimp only at h
                                refine ec_callV1 (k' := 25) (n := 2) (rc := 2) (a := p0) (as := [.int (1 : Int32)]) ⟨rfl, rfl⟩ rfl rfl (Nat.le_of_ble_eq_true rfl) (Nat.le_of_ble_eq_true rfl) (Nat.le_of_ble_eq_true rfl) g14 rfl (t_25 e118) ?_
                                refine en_istore (l' := [(4, .int q116), (0, .ref p0), (5, .int p5)]) rfl rfl ?_
                                refine ec_iinc (l' := [(5, .int (p5 + (1 : Int32))), (4, .int q116), (0, .ref p0)]) rfl cst_1 rfl rfl ?_
                                refine en_goto rfl ?_
                                refine en_sub [2, 1, 0] rfl rfl ?_
                                exact ih _ _ _ _ _ h o M' hk
            · refine en_icmp_lt_f c72 rfl ?_
              refine en_aload rfl rfl ?_
              obtain ⟨⟨q119, C120⟩, e121, h⟩ := gb h
              dsimp only at h
              refine ec_callV1 (k' := 23) (n := 1) (rc := 2) (a := p0) (as := []) ⟨rfl, rfl⟩ rfl rfl (Nat.le_of_ble_eq_true rfl) (Nat.le_of_ble_eq_true rfl) (Nat.le_of_ble_eq_true rfl) g14 rfl (t_23 e121) ?_
              refine ec_iconst cst_208 rfl ?_
              rcases gi h with ⟨c122, h⟩ | ⟨c122, h⟩
              · refine en_icmp_gt_t c122 rfl ?_
                refine en_aload rfl rfl ?_
                obtain ⟨⟨q123, C124⟩, e125, h⟩ := gb h
                dsimp only at h
                refine ec_callV1 (k' := 23) (n := 1) (rc := 2) (a := p0) (as := []) ⟨rfl, rfl⟩ rfl rfl (Nat.le_of_ble_eq_true rfl) (Nat.le_of_ble_eq_true rfl) (Nat.le_of_ble_eq_true rfl) g14 rfl (t_23 e125) ?_
                rcases gi h with ⟨c126, h⟩ | ⟨c126, h⟩
                · refine en_tab_i (t := 56) (by rw [c126]; decide) (by rw [c126]; rfl) rfl ?_
                  refine en_aload rfl rfl ?_
                  refine en_iload rfl rfl ?_
                  rcases gi h with ⟨c135, h⟩ | ⟨c135, h⟩
                  · refine en_if_ne_t c135 rfl ?_
                    refine ec_iconst cst_0 rfl ?_
                    obtain ⟨⟨q136, C137⟩, e138, h⟩ := gb h
                    dsimp only at h
                    refine ec_callV1 (k' := 27) (n := 2) (rc := 2) (a := p0) (as := [.int (0 : Int32)]) ⟨rfl, rfl⟩ rfl rfl (Nat.le_of_ble_eq_true rfl) (Nat.le_of_ble_eq_true rfl) (Nat.le_of_ble_eq_true rfl) g14 rfl (t_27 e138) ?_
                    refine en_istore (l' := [(4, .int q136), (0, .ref p0), (5, .int p5)]) rfl rfl ?_
                    refine en_goto rfl ?_
                    refine ec_iinc (l' := [(5, .int (p5 + (1 : Int32))), (4, .int q136), (0, .ref p0)]) rfl cst_1 rfl rfl ?_
                    refine en_goto rfl ?_
                    refine en_sub [2, 1, 0] rfl rfl ?_
                    exact ih _ _ _ _ _ h o M' hk
                  · refine en_if_ne_f c135 rfl ?_
                    refine ec_iconst cst_1 rfl ?_
                    refine en_goto rfl ?_
                    obtain ⟨⟨q139, C140⟩, e141, h⟩ := gb h
                    dsimp only at h
                    refine ec_callV1 (k' := 27) (n := 2) (rc := 2) (a := p0) (as := [.int (1 : Int32)]) ⟨rfl, rfl⟩ rfl rfl (Nat.le_of_ble_eq_true rfl) (Nat.le_of_ble_eq_true rfl) (Nat.le_of_ble_eq_true rfl) g14 rfl (t_27 e141) ?_
                    refine en_istore (l' := [(4, .int q139), (0, .ref p0), (5, .int p5)]) rfl rfl ?_
                    refine en_goto rfl ?_
                    refine ec_iinc (l' := [(5, .int (p5 + (1 : Int32))), (4, .int q139), (0, .ref p0)]) rfl cst_1 rfl rfl ?_
                    refine en_goto rfl ?_
                    refine en_sub [2, 1, 0] rfl rfl ?_
                    exact ih _ _ _ _ _ h o M' hk
                ·
                  rcases gi h with ⟨c127, h⟩ | ⟨c127, h⟩
                  · refine en_tab_i (t := 65) (by rw [c127]; decide) (by rw [c127]; rfl) rfl ?_
                    refine en_aload rfl rfl ?_
                    obtain ⟨⟨q142, C143⟩, e144, h⟩ := gb h
                    dsimp only at h
                    refine ec_callV1 (k' := 28) (n := 1) (rc := 2) (a := p0) (as := []) ⟨rfl, rfl⟩ rfl rfl (Nat.le_of_ble_eq_true rfl) (Nat.le_of_ble_eq_true rfl) (Nat.le_of_ble_eq_true rfl) g14 rfl (t_28 e144) ?_
                    refine en_istore (l' := [(4, .int q142), (0, .ref p0), (5, .int p5)]) rfl rfl ?_
                    refine en_goto rfl ?_
                    refine ec_iinc (l' := [(5, .int (p5 + (1 : Int32))), (4, .int q142), (0, .ref p0)]) rfl cst_1 rfl rfl ?_
                    refine en_goto rfl ?_
                    refine en_sub [2, 1, 0] rfl rfl ?_
                    exact ih _ _ _ _ _ h o M' hk
                  ·
                    rcases gi h with ⟨c128, h⟩ | ⟨c128, h⟩
                    · refine en_tab_i (t := 69) (by rw [c128]; decide) (by rw [c128]; rfl) rfl ?_
                      refine en_aload rfl rfl ?_
                      obtain ⟨⟨q145, C146⟩, e147, h⟩ := gb h
                      dsimp only at h
                      refine ec_callV1 (k' := 29) (n := 1) (rc := 2) (a := p0) (as := []) ⟨rfl, rfl⟩ rfl rfl (Nat.le_of_ble_eq_true rfl) (Nat.le_of_ble_eq_true rfl) (Nat.le_of_ble_eq_true rfl) g14 rfl (t_29 e147) ?_
                      refine en_istore (l' := [(4, .int q145), (0, .ref p0), (5, .int p5)]) rfl rfl ?_
                      refine en_goto rfl ?_
                      refine ec_iinc (l' := [(5, .int (p5 + (1 : Int32))), (4, .int q145), (0, .ref p0)]) rfl cst_1 rfl rfl ?_
                      refine en_goto rfl ?_
                      refine en_sub [2, 1, 0] rfl rfl ?_
                      exact ih _ _ _ _ _ h o M' hk
                    ·
                      rcases gi h with ⟨c129, h⟩ | ⟨c129, h⟩
                      · refine en_tab_i (t := 73) (by rw [c129]; decide) (by rw [c129]; rfl) rfl ?_
                        refine en_aload rfl rfl ?_
                        refine ec_iconst cst_1 rfl ?_
                        obtain ⟨⟨q148, C149⟩, e150, h⟩ := gb h
                        dsimp only at h
                        refine ec_callV1 (k' := 32) (n := 2) (rc := 2) (a := p0) (as := [.int (1 : Int32)]) ⟨rfl, rfl⟩ rfl rfl (Nat.le_of_ble_eq_true rfl) (Nat.le_of_ble_eq_true rfl) (Nat.le_of_ble_eq_true rfl) g14 rfl (t_32 e150) ?_
                        refine en_istore (l' := [(4, .int q148), (0, .ref p0), (5, .int p5)]) rfl rfl ?_
                        refine en_goto rfl ?_
                        refine ec_iinc (l' := [(5, .int (p5 + (1 : Int32))), (4, .int q148), (0, .ref p0)]) rfl cst_1 rfl rfl ?_
                        refine en_goto rfl ?_
                        refine en_sub [2, 1, 0] rfl rfl ?_
                        exact ih _ _ _ _ _ h o M' hk
                      ·
                        rcases gi h with ⟨c130, h⟩ | ⟨c130, h⟩
                        · refine en_tab_i (t := 78) (by rw [c130]; decide) (by rw [c130]; rfl) rfl ?_
                          refine en_aload rfl rfl ?_
                          refine ec_iconst cst_0 rfl ?_
                          obtain ⟨⟨q151, C152⟩, e153, h⟩ := gb h
                          dsimp only at h
                          refine ec_callV1 (k' := 32) (n := 2) (rc := 2) (a := p0) (as := [.int (0 : Int32)]) ⟨rfl, rfl⟩ rfl rfl (Nat.le_of_ble_eq_true rfl) (Nat.le_of_ble_eq_true rfl) (Nat.le_of_ble_eq_true rfl) g14 rfl (t_32 e153) ?_
                          refine en_istore (l' := [(4, .int q151), (0, .ref p0), (5, .int p5)]) rfl rfl ?_
                          refine en_goto rfl ?_
                          refine ec_iinc (l' := [(5, .int (p5 + (1 : Int32))), (4, .int q151), (0, .ref p0)]) rfl cst_1 rfl rfl ?_
                          refine en_goto rfl ?_
                          refine en_sub [2, 1, 0] rfl rfl ?_
                          exact ih _ _ _ _ _ h o M' hk
                        ·
                          rcases gi h with ⟨c131, h⟩ | ⟨c131, h⟩
                          · refine en_tab_i (t := 83) (by rw [c131]; decide) (by rw [c131]; rfl) rfl ?_
                            refine en_aload rfl rfl ?_
                            obtain ⟨⟨q154, C155⟩, e156, h⟩ := gb h
                            dsimp only at h
                            refine ec_callV1 (k' := 34) (n := 1) (rc := 2) (a := p0) (as := []) ⟨rfl, rfl⟩ rfl rfl (Nat.le_of_ble_eq_true rfl) (Nat.le_of_ble_eq_true rfl) (Nat.le_of_ble_eq_true rfl) g14 rfl (t_34 e156) ?_
                            refine en_istore (l' := [(4, .int q154), (0, .ref p0), (5, .int p5)]) rfl rfl ?_
                            refine en_goto rfl ?_
                            refine ec_iinc (l' := [(5, .int (p5 + (1 : Int32))), (4, .int q154), (0, .ref p0)]) rfl cst_1 rfl rfl ?_
                            refine en_goto rfl ?_
                            refine en_sub [2, 1, 0] rfl rfl ?_
                            exact ih _ _ _ _ _ h o M' hk
                          ·
                            rcases gi h with ⟨c132, h⟩ | ⟨c132, h⟩
                            · refine en_tab_i (t := 87) (by rw [c132]; decide) (by rw [c132]; rfl) rfl ?_
                              refine en_aload rfl rfl ?_
                              obtain ⟨⟨q157, C158⟩, e159, h⟩ := gb h
                              dsimp only at h
                              refine ec_callV1 (k' := 35) (n := 1) (rc := 2) (a := p0) (as := []) ⟨rfl, rfl⟩ rfl rfl (Nat.le_of_ble_eq_true rfl) (Nat.le_of_ble_eq_true rfl) (Nat.le_of_ble_eq_true rfl) g14 rfl (t_35 e159) ?_
                              refine en_istore (l' := [(4, .int q157), (0, .ref p0), (5, .int p5)]) rfl rfl ?_
                              refine en_goto rfl ?_
                              refine ec_iinc (l' := [(5, .int (p5 + (1 : Int32))), (4, .int q157), (0, .ref p0)]) rfl cst_1 rfl rfl ?_
                              refine en_goto rfl ?_
                              refine en_sub [2, 1, 0] rfl rfl ?_
                              exact ih _ _ _ _ _ h o M' hk
                            ·
                              rcases gi h with ⟨c133, h⟩ | ⟨c133, h⟩
                              · refine en_tab_i (t := 91) (by rw [c133]; decide) (by rw [c133]; rfl) rfl ?_
                                refine en_aload rfl rfl ?_
                                obtain ⟨⟨q160, C161⟩, e162, h⟩ := gb h
                                dsimp only at h
                                refine ec_callV1 (k' := 36) (n := 1) (rc := 2) (a := p0) (as := []) ⟨rfl, rfl⟩ rfl rfl (Nat.le_of_ble_eq_true rfl) (Nat.le_of_ble_eq_true rfl) (Nat.le_of_ble_eq_true rfl) g14 rfl (t_36 e162) ?_
                                refine en_istore (l' := [(4, .int q160), (0, .ref p0), (5, .int p5)]) rfl rfl ?_
                                refine en_goto rfl ?_
                                refine ec_iinc (l' := [(5, .int (p5 + (1 : Int32))), (4, .int q160), (0, .ref p0)]) rfl cst_1 rfl rfl ?_
                                refine en_goto rfl ?_
                                refine en_sub [2, 1, 0] rfl rfl ?_
                                exact ih _ _ _ _ _ h o M' hk
                              ·
                                rcases gi h with ⟨c134, h⟩ | ⟨c134, h⟩
                                · refine en_tab_i (t := 95) (by rw [c134]; decide) (by rw [c134]; rfl) rfl ?_
                                  refine en_aload rfl rfl ?_
                                  obtain ⟨⟨q163, C164⟩, e165, h⟩ := gb h
                                  dsimp only at h
                                  refine ec_callV1 (k' := 37) (n := 1) (rc := 2) (a := p0) (as := []) ⟨rfl, rfl⟩ rfl rfl (Nat.le_of_ble_eq_true rfl) (Nat.le_of_ble_eq_true rfl) (Nat.le_of_ble_eq_true rfl) g14 rfl (t_37 e165) ?_
                                  refine en_istore (l' := [(4, .int q163), (0, .ref p0), (5, .int p5)]) rfl rfl ?_
                                  refine en_goto rfl ?_
                                  refine ec_iinc (l' := [(5, .int (p5 + (1 : Int32))), (4, .int q163), (0, .ref p0)]) rfl cst_1 rfl rfl ?_
                                  refine en_goto rfl ?_
                                  refine en_sub [2, 1, 0] rfl rfl ?_
                                  exact ih _ _ _ _ _ h o M' hk
                                ·
                                  refine en_tab_o (by have z0 := ne_toInt c126 (v := 200) (by decide); have z1 := ne_toInt c127 (v := 201) (by decide); have z2 := ne_toInt c128 (v := 202) (by decide); have z3 := ne_toInt c129 (v := 203) (by decide); have z4 := ne_toInt c130 (v := 204) (by decide); have z5 := ne_toInt c131 (v := 205) (by decide); have z6 := ne_toInt c132 (v := 206) (by decide); have z7 := ne_toInt c133 (v := 207) (by decide); have z8 := ne_toInt c134 (v := 208) (by decide); omega) rfl ?_
                                  refine en_aload rfl rfl ?_
                                  refine ec_iconst cst_1 rfl ?_
                                  obtain ⟨⟨q166, C167⟩, e168, h⟩ := gb h
                                  dsimp only at h
                                  refine ec_callV1 (k' := 25) (n := 2) (rc := 2) (a := p0) (as := [.int (1 : Int32)]) ⟨rfl, rfl⟩ rfl rfl (Nat.le_of_ble_eq_true rfl) (Nat.le_of_ble_eq_true rfl) (Nat.le_of_ble_eq_true rfl) g14 rfl (t_25 e168) ?_
                                  refine en_istore (l' := [(4, .int q166), (0, .ref p0), (5, .int p5)]) rfl rfl ?_
                                  refine ec_iinc (l' := [(5, .int (p5 + (1 : Int32))), (4, .int q166), (0, .ref p0)]) rfl cst_1 rfl rfl ?_
                                  refine en_goto rfl ?_
                                  refine en_sub [2, 1, 0] rfl rfl ?_
                                  exact ih _ _ _ _ _ h o M' hk
              · refine en_icmp_gt_f c122 rfl ?_
                refine en_aload rfl rfl ?_
                refine ec_iconst cst_2 rfl ?_
                obtain ⟨⟨q169, C170⟩, e171, h⟩ := gb h
                dsimp only at h
                refine ec_callV1 (k' := 25) (n := 2) (rc := 2) (a := p0) (as := [.int (2 : Int32)]) ⟨rfl, rfl⟩ rfl rfl (Nat.le_of_ble_eq_true rfl) (Nat.le_of_ble_eq_true rfl) (Nat.le_of_ble_eq_true rfl) g14 rfl (t_25 e171) ?_
                refine en_istore (l' := [(4, .int q169), (0, .ref p0), (5, .int p5)]) rfl rfl ?_
                refine en_goto rfl ?_
                refine ec_iinc (l' := [(5, .int (p5 + (1 : Int32))), (4, .int q169), (0, .ref p0)]) rfl cst_1 rfl rfl ?_
                refine en_goto rfl ?_
                refine en_sub [2, 1, 0] rfl rfl ?_
                exact ih _ _ _ _ _ h o M' hk
/-- BulkWriter$Parser.parse([BILBulkWriter$Script;)I -/
def f_14 (n : Nat) (a0 : Nat) (a1 : Nat) (a2 : Int32) (a3 : Nat) (C : AmC) : Option (Int32 × AmC) := if isK a1 11 = true then if isK a0 2 = true then (f_15 n a0 a1 (if (Int32.ofNat (aLen a1)) < a2 then (Int32.ofNat (aLen a1)) else a2) C).bind (fun z => match z with | (_, C4) => (cP (uP C4 a0 5 a3) a0 5).bind (fun r6 => if isK r6 6 = true then (f_86 n r6 (uP C4 a0 5 a3)).bind (fun z => match z with | (_, C10) => (lp_14_26 n a0 (1 : Int32) (0 : Int32) (uI (uI (uI C10 a0 4 (0 : Int32)) a0 6 (0 : Int32)) a0 7 (-1 : Int32))).bind (fun q => match q with | (u175, C174) => if isK u175 2 = true then some ((cI C174 u175 6), C174) else none)) else none)) else none else none
set_option maxRecDepth 20000 in
set_option maxHeartbeats 4000000 in
theorem t_14 {n : Nat} {a0 : Nat} {a1 : Nat} {a2 : Int32} {a3 : Nat} {C : AmC} {r : Int32} {C' : AmC} (h : f_14 n a0 a1 a2 a3 C = some (r, C')) : En false 14 0 [(0, .ref a0), (1, .ref a1), (2, .int a2), (3, .ref a3)] [] (mkM C) (.inl (some (.int r))) (mkM C') := by
  unfold f_14 at h
  refine en_aload rfl rfl ?_
  refine en_aload rfl rfl ?_
  refine en_iload rfl rfl ?_
  refine en_aload rfl rfl ?_
  obtain ⟨g1, h⟩ := gd h
  refine ec_alen g1 (by decide) rfl ?_
  refine en_min (Nat.le_of_ble_eq_true rfl) rfl ?_
  obtain ⟨g2, h⟩ := gd h
  obtain ⟨⟨q3, C4⟩, e5, h⟩ := gb h
  dsimp only at h
  refine ec_callV0 (k' := 15) (n := 3) (rc := 2) (a := a0) (as := [.ref a1, .int (if (Int32.ofNat (aLen a1)) < a2 then (Int32.ofNat (aLen a1)) else a2)]) ⟨rfl, rfl⟩ rfl rfl (Nat.le_of_ble_eq_true rfl) (Nat.le_of_ble_eq_true rfl) (Nat.le_of_ble_eq_true rfl) g2 rfl (t_15 e5) ?_
  refine en_aload rfl rfl ?_
  refine en_aload rfl rfl ?_
  refine ec_putP (ci := 2) (j := 5) ⟨rfl, rfl, rfl⟩ g2 rfl ?_
  refine en_aload rfl rfl ?_
  obtain ⟨r6, e7, h⟩ := gb h
  refine ec_getP (ci := 2) (j := 5) ⟨rfl, rfl, rfl⟩ g2 e7 rfl ?_
  obtain ⟨g8, h⟩ := gd h
  obtain ⟨⟨q9, C10⟩, e11, h⟩ := gb h
  dsimp only at h
  refine ec_callV0 (k' := 86) (n := 1) (rc := 6) (a := r6) (as := []) ⟨rfl, rfl⟩ rfl rfl (Nat.le_of_ble_eq_true rfl) (Nat.le_of_ble_eq_true rfl) (Nat.le_of_ble_eq_true rfl) g8 rfl (t_86 e11) ?_
  refine en_aload rfl rfl ?_
  refine ec_iconst cst_0 rfl ?_
  refine ec_putI (ci := 2) (j := 4) ⟨rfl, rfl, rfl⟩ g2 rfl ?_
  refine en_aload rfl rfl ?_
  refine ec_iconst cst_0 rfl ?_
  refine ec_putI (ci := 2) (j := 6) ⟨rfl, rfl, rfl⟩ g2 rfl ?_
  refine en_aload rfl rfl ?_
  refine ec_iconst cst_m1 rfl ?_
  refine ec_putI (ci := 2) (j := 7) ⟨rfl, rfl, rfl⟩ g2 rfl ?_
  refine ec_iconst cst_1 rfl ?_
  refine en_istore (l' := [(4, .int (1 : Int32)), (0, .ref a0), (1, .ref a1), (2, .int a2), (3, .ref a3)]) rfl rfl ?_
  refine ec_iconst cst_0 rfl ?_
  refine en_istore (l' := [(5, .int (0 : Int32)), (4, .int (1 : Int32)), (0, .ref a0), (1, .ref a1), (2, .int a2), (3, .ref a3)]) rfl rfl ?_
  obtain ⟨⟨q172, C174⟩, e173, h⟩ := gb h
  refine en_sub [2, 1, 0] rfl rfl (lt_14_26 n _ _ _ _ _ e173 _ _ ?_)
  revert h e173; revert q172; intro u175 e173 h
  dsimp only at h ⊢
  refine en_aload rfl rfl ?_
  obtain ⟨g176, h⟩ := gd h
  refine ec_getI (ci := 2) (j := 6) ⟨rfl, rfl, rfl⟩ g176 rfl ?_
  cases h
  exact en_iret rfl
/-- BulkWriter$Rows.copyFrom(LBulkWriter$Rows;)V -/
def f_72 (n : Nat) (a0 : Nat) (a1 : Nat) (C : AmC) : Option (Unit × AmC) := if isK a1 5 = true then (cP C a1 0).bind (fun r2 => if isK a0 5 = true then (cP C a0 0).bind (fun r5 => (cP C a0 0).bind (fun r7 => if isK r7 12 = true then if isK r2 12 = true then if isK r5 12 = true then if ¬ (0 : Int32) < 0 ∧ ¬ (0 : Int32) < 0 ∧ ¬ (Int32.ofNat (aLen r7)) < 0 ∧ Int32.toNatClampNeg (0 : Int32) + Int32.toNatClampNeg (Int32.ofNat (aLen r7)) ≤ aLen r2 ∧ Int32.toNatClampNeg (0 : Int32) + Int32.toNatClampNeg (Int32.ofNat (aLen r7)) ≤ aLen r5 then some ((), uI (uA C r5 (va_cpy (cI C r2) (cI C r5) (Int32.toNatClampNeg (0 : Int32)) (Int32.toNatClampNeg (0 : Int32)) (Int32.toNatClampNeg (Int32.ofNat (aLen r7))))) a0 1 (cI (uA C r5 (va_cpy (cI C r2) (cI C r5) (Int32.toNatClampNeg (0 : Int32)) (Int32.toNatClampNeg (0 : Int32)) (Int32.toNatClampNeg (Int32.ofNat (aLen r7))))) a1 1)) else none else none else none else none)) else none) else none
set_option maxRecDepth 20000 in
set_option maxHeartbeats 4000000 in
theorem t_72 {n : Nat} {a0 : Nat} {a1 : Nat} {C : AmC} {r : Unit} {C' : AmC} (h : f_72 n a0 a1 C = some (r, C')) : En false 72 0 [(0, .ref a0), (1, .ref a1)] [] (mkM C) (.inl none) (mkM C') := by
  unfold f_72 at h
  refine en_aload rfl rfl ?_
  obtain ⟨g1, h⟩ := gd h
  obtain ⟨r2, e3, h⟩ := gb h
  refine ec_getP (ci := 5) (j := 0) ⟨rfl, rfl, rfl⟩ g1 e3 rfl ?_
  refine ec_iconst cst_0 rfl ?_
  refine en_aload rfl rfl ?_
  obtain ⟨g4, h⟩ := gd h
  obtain ⟨r5, e6, h⟩ := gb h
  refine ec_getP (ci := 5) (j := 0) ⟨rfl, rfl, rfl⟩ g4 e6 rfl ?_
  refine ec_iconst cst_0 rfl ?_
  refine en_aload rfl rfl ?_
  obtain ⟨r7, e8, h⟩ := gb h
  refine ec_getP (ci := 5) (j := 0) ⟨rfl, rfl, rfl⟩ g4 e8 rfl ?_
  obtain ⟨g9, h⟩ := gd h
  refine ec_alen g9 (by decide) rfl ?_
  obtain ⟨g10, h⟩ := gd h
  obtain ⟨g11, h⟩ := gd h
  obtain ⟨g12, h⟩ := gd h
  refine ec_copy g10 g11 g12 (Nat.le_of_ble_eq_true rfl) rfl ?_
  refine en_aload rfl rfl ?_
  refine en_aload rfl rfl ?_
  refine ec_getI (ci := 5) (j := 1) ⟨rfl, rfl, rfl⟩ g1 rfl ?_
  refine ec_putI (ci := 5) (j := 1) ⟨rfl, rfl, rfl⟩ g4 rfl ?_
  cases h
  exact en_vret rfl
/-- BulkWriter$Pass.finish(III)V -/
def f_48 (n : Nat) (a0 : Nat) (a1 : Int32) (a2 : Int32) (a3 : Int32) (C : AmC) : Option (Unit × AmC) := if isK a0 3 = true then some ((), uI (uI (uI C a0 11 a1) a0 12 a2) a0 13 a3) else none
set_option maxRecDepth 20000 in
set_option maxHeartbeats 4000000 in
theorem t_48 {n : Nat} {a0 : Nat} {a1 : Int32} {a2 : Int32} {a3 : Int32} {C : AmC} {r : Unit} {C' : AmC} (h : f_48 n a0 a1 a2 a3 C = some (r, C')) : En false 48 0 [(0, .ref a0), (1, .int a1), (2, .int a2), (3, .int a3)] [] (mkM C) (.inl none) (mkM C') := by
  unfold f_48 at h
  refine en_aload rfl rfl ?_
  refine en_iload rfl rfl ?_
  obtain ⟨g1, h⟩ := gd h
  refine ec_putI (ci := 3) (j := 11) ⟨rfl, rfl, rfl⟩ g1 rfl ?_
  refine en_aload rfl rfl ?_
  refine en_iload rfl rfl ?_
  refine ec_putI (ci := 3) (j := 12) ⟨rfl, rfl, rfl⟩ g1 rfl ?_
  refine en_aload rfl rfl ?_
  refine en_iload rfl rfl ?_
  refine ec_putI (ci := 3) (j := 13) ⟨rfl, rfl, rfl⟩ g1 rfl ?_
  cases h
  exact en_vret rfl
/-- BulkWriter$Script.otherNumber(II)I -/
def f_95 (n : Nat) (a0 : Nat) (a1 : Int32) (a2 : Int32) (C : AmC) : Option (Int32 × AmC) := (if a1 < 0 then some ((0 : Int32), C) else (if (10 : Int32) ≤ a1 then some ((0 : Int32), C) else (if a2 < 0 then some ((0 : Int32), C) else (if a2 < (4 : Int32) then if isK a0 6 = true then (cP C a0 7).bind (fun r6 => if isK r6 12 = true then if amIn ((a1 * (4 : Int32)) + a2) (aLen r6) = true then some ((cI C r6 (Int32.toNatClampNeg ((a1 * (4 : Int32)) + a2))), C) else none else none) else none else some ((0 : Int32), C)))))
set_option maxRecDepth 20000 in
set_option maxHeartbeats 4000000 in
theorem t_95 {n : Nat} {a0 : Nat} {a1 : Int32} {a2 : Int32} {C : AmC} {r : Int32} {C' : AmC} (h : f_95 n a0 a1 a2 C = some (r, C')) : En false 95 0 [(0, .ref a0), (1, .int a1), (2, .int a2)] [] (mkM C) (.inl (some (.int r))) (mkM C') := by
  unfold f_95 at h
  refine en_iload rfl rfl ?_
  rcases gi h with ⟨c1, h⟩ | ⟨c1, h⟩
  · refine en_if_lt_t c1 rfl ?_
    refine ec_iconst cst_0 rfl ?_
    cases h
    exact en_iret rfl
  · refine en_if_lt_f c1 rfl ?_
    refine en_iload rfl rfl ?_
    refine ec_iconst cst_10 rfl ?_
    rcases gi h with ⟨c2, h⟩ | ⟨c2, h⟩
    · refine en_icmp_ge_t c2 rfl ?_
      refine ec_iconst cst_0 rfl ?_
      cases h
      exact en_iret rfl
    · refine en_icmp_ge_f c2 rfl ?_
      refine en_iload rfl rfl ?_
      rcases gi h with ⟨c3, h⟩ | ⟨c3, h⟩
      · refine en_if_lt_t c3 rfl ?_
        refine ec_iconst cst_0 rfl ?_
        cases h
        exact en_iret rfl
      · refine en_if_lt_f c3 rfl ?_
        refine en_iload rfl rfl ?_
        refine ec_iconst cst_4 rfl ?_
        rcases gi h with ⟨c4, h⟩ | ⟨c4, h⟩
        · refine en_icmp_lt_t c4 rfl ?_
          refine en_aload rfl rfl ?_
          obtain ⟨g5, h⟩ := gd h
          obtain ⟨r6, e7, h⟩ := gb h
          refine ec_getP (ci := 6) (j := 7) ⟨rfl, rfl, rfl⟩ g5 e7 rfl ?_
          refine en_iload rfl rfl ?_
          refine ec_iconst cst_4 rfl ?_
          refine en_imul rfl ?_
          refine en_iload rfl rfl ?_
          refine en_iadd rfl ?_
          obtain ⟨g8, h⟩ := gd h
          obtain ⟨g9, h⟩ := gd h
          refine ec_iaload g8 g9 rfl ?_
          cases h
          exact en_iret rfl
        · refine en_icmp_lt_f c4 rfl ?_
          refine ec_iconst cst_0 rfl ?_
          cases h
          exact en_iret rfl
def lp_50_12 : Nat → Nat → Int32 → Int32 → Int32 → Int32 → AmC → Option (((Unit)) × AmC)
  | 0, _, _, _, _, _, _ => none
  | n + 1, p0, p1, p2, p3, p4, C => if isK p0 3 = true then (cP C p0 6).bind (fun r12 => if isK r12 6 = true then (if (cI C r12 6) ≤ p4 then some ((), C) else (if ¬ (cI C p0 11) = 0 then some ((), C) else (cP C p0 6).bind (fun r17 => (cP C p0 7).bind (fun r19 => if isK r19 8 = true then if isK r17 6 = true then (f_95 n r17 p4 (cI C r19 4) C).bind (fun z => match z with | (q23, C24) => (if q23 = p2 then (if ¬ p3 = (-1 : Int32) then (f_48 n p0 (1 : Int32) p1 (((100 : Int32) * p3) + p4) C24).bind (fun z => match z with | (_, C29) => lp_50_12 n p0 p1 p2 p3 (p4 + (1 : Int32)) C29) else lp_50_12 n p0 p1 p2 p4 (p4 + (1 : Int32)) C24) else lp_50_12 n p0 p1 p2 p3 (p4 + (1 : Int32)) C24)) else none else none)))) else none) else none
set_option maxRecDepth 20000 in
set_option maxHeartbeats 4000000 in
theorem lt_50_12 : ∀ (n : Nat) (p0 : Nat) (p1 : Int32) (p2 : Int32) (p3 : Int32) (p4 : Int32) (C : AmC) (r : ((Unit)) × AmC), lp_50_12 n p0 p1 p2 p3 p4 C = some r → ∀ (o : AmO) (M' : AmM), (match r with
        | (_, C') => En false 50 47 [] [] (mkM C') o M') → En false 50 12 [(0, .ref p0), (1, .int p1), (2, .int p2), (3, .int p3), (4, .int p4)] [] (mkM C) o M' := by
  intro n
  induction n with
  | zero => intro p0 p1 p2 p3 p4 C r h; cases h
  | succ n ih =>
    intro p0 p1 p2 p3 p4 C r h o M' hk
    unfold lp_50_12 at h
    refine en_iload rfl rfl ?_
    refine en_aload rfl rfl ?_
    obtain ⟨g11, h⟩ := gd h
    obtain ⟨r12, e13, h⟩ := gb h
    refine ec_getP (ci := 3) (j := 6) ⟨rfl, rfl, rfl⟩ g11 e13 rfl ?_
    obtain ⟨g14, h⟩ := gd h
    refine ec_getI (ci := 6) (j := 6) ⟨rfl, rfl, rfl⟩ g14 rfl ?_
    rcases gi h with ⟨c15, h⟩ | ⟨c15, h⟩
    · refine en_icmp_ge_t c15 rfl ?_
      cases h
      exact en_sub [] rfl rfl hk
    · refine en_icmp_ge_f c15 rfl ?_
      refine en_aload rfl rfl ?_
      refine ec_getI (ci := 3) (j := 11) ⟨rfl, rfl, rfl⟩ g11 rfl ?_
      rcases gi h with ⟨c16, h⟩ | ⟨c16, h⟩
      · refine en_if_ne_t c16 rfl ?_
        cases h
        exact en_sub [] rfl rfl hk
      · refine en_if_ne_f c16 rfl ?_
        refine en_aload rfl rfl ?_
        obtain ⟨r17, e18, h⟩ := gb h
        refine ec_getP (ci := 3) (j := 6) ⟨rfl, rfl, rfl⟩ g11 e18 rfl ?_
        refine en_iload rfl rfl ?_
        refine en_aload rfl rfl ?_
        obtain ⟨r19, e20, h⟩ := gb h
        refine ec_getP (ci := 3) (j := 7) ⟨rfl, rfl, rfl⟩ g11 e20 rfl ?_
        obtain ⟨g21, h⟩ := gd h
        refine ec_getI (ci := 8) (j := 4) ⟨rfl, rfl, rfl⟩ g21 rfl ?_
        obtain ⟨g22, h⟩ := gd h
        obtain ⟨⟨q23, C24⟩, e25, h⟩ := gb h
        dsimp only at h
        refine ec_callV1 (k' := 95) (n := 3) (rc := 6) (a := r17) (as := [.int p4, .int (cI C r19 4)]) ⟨rfl, rfl⟩ rfl rfl (Nat.le_of_ble_eq_true rfl) (Nat.le_of_ble_eq_true rfl) (Nat.le_of_ble_eq_true rfl) g22 rfl (t_95 e25) ?_
        refine en_iload rfl rfl ?_
        rcases gi h with ⟨c26, h⟩ | ⟨c26, h⟩
        · refine en_icmp_eq_t c26 rfl ?_
          refine en_iload rfl rfl ?_
          refine ec_iconst cst_m1 rfl ?_
          rcases gi h with ⟨c27, h⟩ | ⟨c27, h⟩
          · refine en_icmp_ne_t c27 rfl ?_
            refine en_aload rfl rfl ?_
            refine ec_iconst cst_1 rfl ?_
            refine en_iload rfl rfl ?_
            refine ec_iconst cst_100 rfl ?_
            refine en_iload rfl rfl ?_
            refine en_imul rfl ?_
            refine en_iload rfl rfl ?_
            refine en_iadd rfl ?_
            obtain ⟨⟨q28, C29⟩, e30, h⟩ := gb h
            dsimp only at h
            refine ec_callV0 (k' := 48) (n := 4) (rc := 3) (a := p0) (as := [.int (1 : Int32), .int p1, .int (((100 : Int32) * p3) + p4)]) ⟨rfl, rfl⟩ rfl rfl (Nat.le_of_ble_eq_true rfl) (Nat.le_of_ble_eq_true rfl) (Nat.le_of_ble_eq_true rfl) g11 rfl (t_48 e30) ?_
            refine ec_iinc (l' := [(4, .int (p4 + (1 : Int32))), (0, .ref p0), (1, .int p1), (2, .int p2), (3, .int p3)]) rfl cst_1 rfl rfl ?_
            refine en_goto rfl ?_
            refine en_sub [1, 2, 3, 4, 0] rfl rfl ?_
            exact ih _ _ _ _ _ _ _ h o M' hk
          · refine en_icmp_ne_f c27 rfl ?_
            refine en_iload rfl rfl ?_
            refine en_istore (l' := [(3, .int p4), (0, .ref p0), (1, .int p1), (2, .int p2), (4, .int p4)]) rfl rfl ?_
            refine en_goto rfl ?_
            refine ec_iinc (l' := [(4, .int (p4 + (1 : Int32))), (3, .int p4), (0, .ref p0), (1, .int p1), (2, .int p2)]) rfl cst_1 rfl rfl ?_
            refine en_goto rfl ?_
            refine en_sub [2, 3, 4, 1, 0] rfl rfl ?_
            exact ih _ _ _ _ _ _ _ h o M' hk
        · refine en_icmp_eq_f c26 rfl ?_
          refine en_goto rfl ?_
          refine ec_iinc (l' := [(4, .int (p4 + (1 : Int32))), (0, .ref p0), (1, .int p1), (2, .int p2), (3, .int p3)]) rfl cst_1 rfl rfl ?_
          refine en_goto rfl ?_
          refine en_sub [1, 2, 3, 4, 0] rfl rfl ?_
          exact ih _ _ _ _ _ _ _ h o M' hk
/-- BulkWriter$Pass.findDoubleAt(I)V -/
def f_50 (n : Nat) (a0 : Nat) (a1 : Int32) (C : AmC) : Option (Unit × AmC) := if isK a0 3 = true then (cP C a0 0).bind (fun r2 => (cP C a0 7).bind (fun r4 => if isK r4 8 = true then if isK r2 5 = true then (f_76 n r2 a1 (cI C r4 3) C).bind (fun z => match z with | (q8, C9) => (lp_50_12 n a0 a1 q8 (-1 : Int32) (0 : Int32) C9).bind (fun q => match q with | (_, C33) => some ((), C33))) else none else none)) else none
set_option maxRecDepth 20000 in
set_option maxHeartbeats 4000000 in
theorem t_50 {n : Nat} {a0 : Nat} {a1 : Int32} {C : AmC} {r : Unit} {C' : AmC} (h : f_50 n a0 a1 C = some (r, C')) : En false 50 0 [(0, .ref a0), (1, .int a1)] [] (mkM C) (.inl none) (mkM C') := by
  unfold f_50 at h
  refine en_aload rfl rfl ?_
  obtain ⟨g1, h⟩ := gd h
  obtain ⟨r2, e3, h⟩ := gb h
  refine ec_getP (ci := 3) (j := 0) ⟨rfl, rfl, rfl⟩ g1 e3 rfl ?_
  refine en_iload rfl rfl ?_
  refine en_aload rfl rfl ?_
  obtain ⟨r4, e5, h⟩ := gb h
  refine ec_getP (ci := 3) (j := 7) ⟨rfl, rfl, rfl⟩ g1 e5 rfl ?_
  obtain ⟨g6, h⟩ := gd h
  refine ec_getI (ci := 8) (j := 3) ⟨rfl, rfl, rfl⟩ g6 rfl ?_
  obtain ⟨g7, h⟩ := gd h
  obtain ⟨⟨q8, C9⟩, e10, h⟩ := gb h
  dsimp only at h
  refine ec_callV1 (k' := 76) (n := 3) (rc := 5) (a := r2) (as := [.int a1, .int (cI C r4 3)]) ⟨rfl, rfl⟩ rfl rfl (Nat.le_of_ble_eq_true rfl) (Nat.le_of_ble_eq_true rfl) (Nat.le_of_ble_eq_true rfl) g7 rfl (t_76 e10) ?_
  refine en_istore (l' := [(2, .int q8), (0, .ref a0), (1, .int a1)]) rfl rfl ?_
  refine ec_iconst cst_m1 rfl ?_
  refine en_istore (l' := [(3, .int (-1 : Int32)), (2, .int q8), (0, .ref a0), (1, .int a1)]) rfl rfl ?_
  refine ec_iconst cst_0 rfl ?_
  refine en_istore (l' := [(4, .int (0 : Int32)), (3, .int (-1 : Int32)), (2, .int q8), (0, .ref a0), (1, .int a1)]) rfl rfl ?_
  obtain ⟨⟨q31, C33⟩, e32, h⟩ := gb h
  refine en_sub [3, 4, 2, 1, 0] rfl rfl (lt_50_12 n _ _ _ _ _ _ _ e32 _ _ ?_)
  dsimp only at h ⊢
  cases h
  exact en_vret rfl
def lp_49_8 : Nat → Nat → Int32 → AmC → Option (((Unit)) × AmC)
  | 0, _, _, _ => none
  | n + 1, p0, p1, C => (if (30 : Int32) ≤ p1 then some ((), C) else if isK p0 3 = true then (if ¬ (cI C p0 11) = 0 then some ((), C) else (cP C p0 0).bind (fun r9 => if isK r9 5 = true then (f_75 n r9 p1 C).bind (fun z => match z with | (q12, C13) => (if q12 = 0 then lp_49_8 n p0 (p1 + (1 : Int32)) C13 else (f_50 n p0 p1 C13).bind (fun z => match z with | (_, C17) => lp_49_8 n p0 (p1 + (1 : Int32)) C17))) else none)) else none)
set_option maxRecDepth 20000 in
set_option maxHeartbeats 4000000 in
theorem lt_49_8 : ∀ (n : Nat) (p0 : Nat) (p1 : Int32) (C : AmC) (r : ((Unit)) × AmC), lp_49_8 n p0 p1 C = some r → ∀ (o : AmO) (M' : AmM), (match r with
        | (_, C') => En false 49 24 [] [] (mkM C') o M') → En false 49 8 [(0, .ref p0), (1, .int p1)] [] (mkM C) o M' := by
  intro n
  induction n with
  | zero => intro p0 p1 C r h; cases h
  | succ n ih =>
    intro p0 p1 C r h o M' hk
    unfold lp_49_8 at h
    refine en_iload rfl rfl ?_
    refine ec_iconst cst_30 rfl ?_
    rcases gi h with ⟨c6, h⟩ | ⟨c6, h⟩
    · refine en_icmp_ge_t c6 rfl ?_
      cases h
      exact en_sub [] rfl rfl hk
    · refine en_icmp_ge_f c6 rfl ?_
      refine en_aload rfl rfl ?_
      obtain ⟨g7, h⟩ := gd h
      refine ec_getI (ci := 3) (j := 11) ⟨rfl, rfl, rfl⟩ g7 rfl ?_
      rcases gi h with ⟨c8, h⟩ | ⟨c8, h⟩
      · refine en_if_ne_t c8 rfl ?_
        cases h
        exact en_sub [] rfl rfl hk
      · refine en_if_ne_f c8 rfl ?_
        refine en_aload rfl rfl ?_
        obtain ⟨r9, e10, h⟩ := gb h
        refine ec_getP (ci := 3) (j := 0) ⟨rfl, rfl, rfl⟩ g7 e10 rfl ?_
        refine en_iload rfl rfl ?_
        obtain ⟨g11, h⟩ := gd h
        obtain ⟨⟨q12, C13⟩, e14, h⟩ := gb h
        dsimp only at h
        refine ec_callV1 (k' := 75) (n := 2) (rc := 5) (a := r9) (as := [.int p1]) ⟨rfl, rfl⟩ rfl rfl (Nat.le_of_ble_eq_true rfl) (Nat.le_of_ble_eq_true rfl) (Nat.le_of_ble_eq_true rfl) g11 rfl (t_75 e14) ?_
        rcases gi h with ⟨c15, h⟩ | ⟨c15, h⟩
        · refine en_if_eq_t c15 rfl ?_
          refine ec_iinc (l' := [(1, .int (p1 + (1 : Int32))), (0, .ref p0)]) rfl cst_1 rfl rfl ?_
          refine en_goto rfl ?_
          refine en_sub [1, 0] rfl rfl ?_
          exact ih _ _ _ _ h o M' hk
        · refine en_if_eq_f c15 rfl ?_
          refine en_aload rfl rfl ?_
          refine en_iload rfl rfl ?_
          obtain ⟨⟨q16, C17⟩, e18, h⟩ := gb h
          dsimp only at h
          refine ec_callV0 (k' := 50) (n := 2) (rc := 3) (a := p0) (as := [.int p1]) ⟨rfl, rfl⟩ rfl rfl (Nat.le_of_ble_eq_true rfl) (Nat.le_of_ble_eq_true rfl) (Nat.le_of_ble_eq_true rfl) g7 rfl (t_50 e18) ?_
          refine ec_iinc (l' := [(1, .int (p1 + (1 : Int32))), (0, .ref p0)]) rfl cst_1 rfl rfl ?_
          refine en_goto rfl ?_
          refine en_sub [1, 0] rfl rfl ?_
          exact ih _ _ _ _ h o M' hk
/-- BulkWriter$Pass.findDouble()V -/
def f_49 (n : Nat) (a0 : Nat) (C : AmC) : Option (Unit × AmC) := if isK a0 3 = true then (cP C a0 7).bind (fun r2 => if isK r2 8 = true then (if ¬ (cI C r2 2) = (2 : Int32) then (lp_49_8 n a0 (0 : Int32) C).bind (fun q => match q with | (_, C21) => some ((), C21)) else some ((), C)) else none) else none
set_option maxRecDepth 20000 in
set_option maxHeartbeats 4000000 in
theorem t_49 {n : Nat} {a0 : Nat} {C : AmC} {r : Unit} {C' : AmC} (h : f_49 n a0 C = some (r, C')) : En false 49 0 [(0, .ref a0)] [] (mkM C) (.inl none) (mkM C') := by
  unfold f_49 at h
  refine en_aload rfl rfl ?_
  obtain ⟨g1, h⟩ := gd h
  obtain ⟨r2, e3, h⟩ := gb h
  refine ec_getP (ci := 3) (j := 7) ⟨rfl, rfl, rfl⟩ g1 e3 rfl ?_
  obtain ⟨g4, h⟩ := gd h
  refine ec_getI (ci := 8) (j := 2) ⟨rfl, rfl, rfl⟩ g4 rfl ?_
  refine ec_iconst cst_2 rfl ?_
  rcases gi h with ⟨c5, h⟩ | ⟨c5, h⟩
  · refine en_icmp_ne_t c5 rfl ?_
    refine ec_iconst cst_0 rfl ?_
    refine en_istore (l' := [(1, .int (0 : Int32)), (0, .ref a0)]) rfl rfl ?_
    obtain ⟨⟨q19, C21⟩, e20, h⟩ := gb h
    refine en_sub [1, 0] rfl rfl (lt_49_8 n _ _ _ _ e20 _ _ ?_)
    dsimp only at h ⊢
    cases h
    exact en_vret rfl
  · refine en_icmp_ne_f c5 rfl ?_
    cases h
    exact en_vret rfl
def lp_82_13 : Nat → Nat → Int32 → Int32 → Int32 → Int32 → Int32 → AmC → Option (((Int32)) × AmC)
  | 0, _, _, _, _, _, _, _ => none
  | n + 1, p0, p1, p2, p3, p4, p5, C => (if (30 : Int32) ≤ p5 then some (p3, C) else if isK p0 5 = true then (if ¬ (((Int32.toUInt32 (cI C p0 1) >>> (Int32.toUInt32 p5 &&& Int32.toUInt32 31)).toInt32) &&& (1 : Int32)) = 0 then (cP C p0 0).bind (fun r6 => if isK r6 12 = true then if amIn ((p5 * (4 : Int32)) + p2) (aLen r6) = true then (if ¬ p1 = (214 : Int32) then (if ¬ p1 = (211 : Int32) then (if ¬ p4 = 0 then lp_82_13 n p0 p1 p2 (cI C r6 (Int32.toNatClampNeg ((p5 * (4 : Int32)) + p2))) (0 : Int32) (p5 + (1 : Int32)) C else (if ¬ p1 = (212 : Int32) then (if (cI C r6 (Int32.toNatClampNeg ((p5 * (4 : Int32)) + p2))) ≤ p3 then lp_82_13 n p0 p1 p2 p3 (0 : Int32) (p5 + (1 : Int32)) C else lp_82_13 n p0 p1 p2 (cI C r6 (Int32.toNatClampNeg ((p5 * (4 : Int32)) + p2))) (0 : Int32) (p5 + (1 : Int32)) C) else (if p3 ≤ (cI C r6 (Int32.toNatClampNeg ((p5 * (4 : Int32)) + p2))) then lp_82_13 n p0 p1 p2 p3 (0 : Int32) (p5 + (1 : Int32)) C else lp_82_13 n p0 p1 p2 (cI C r6 (Int32.toNatClampNeg ((p5 * (4 : Int32)) + p2))) (0 : Int32) (p5 + (1 : Int32)) C))) else lp_82_13 n p0 p1 p2 (p3 + (cI C r6 (Int32.toNatClampNeg ((p5 * (4 : Int32)) + p2)))) (0 : Int32) (p5 + (1 : Int32)) C) else lp_82_13 n p0 p1 p2 (p3 + (1 : Int32)) (0 : Int32) (p5 + (1 : Int32)) C) else none else none) else lp_82_13 n p0 p1 p2 p3 p4 (p5 + (1 : Int32)) C) else none)
set_option maxRecDepth 20000 in
set_option maxHeartbeats 4000000 in
theorem lt_82_13 : ∀ (n : Nat) (p0 : Nat) (p1 : Int32) (p2 : Int32) (p3 : Int32) (p4 : Int32) (p5 : Int32) (C : AmC) (r : ((Int32)) × AmC), lp_82_13 n p0 p1 p2 p3 p4 p5 C = some r → ∀ (o : AmO) (M' : AmM), (match r with
        | (w3, C') => En false 82 64 [(3, .int w3)] [] (mkM C') o M') → En false 82 13 [(0, .ref p0), (1, .int p1), (2, .int p2), (3, .int p3), (4, .int p4), (5, .int p5)] [] (mkM C) o M' := by
  intro n
  induction n with
  | zero => intro p0 p1 p2 p3 p4 p5 C r h; cases h
  | succ n ih =>
    intro p0 p1 p2 p3 p4 p5 C r h o M' hk
    unfold lp_82_13 at h
    refine en_iload rfl rfl ?_
    refine ec_iconst cst_30 rfl ?_
    rcases gi h with ⟨c3, h⟩ | ⟨c3, h⟩
    · refine en_icmp_ge_t c3 rfl ?_
      cases h
      exact en_sub [3] rfl rfl hk
    · refine en_icmp_ge_f c3 rfl ?_
      refine en_aload rfl rfl ?_
      obtain ⟨g4, h⟩ := gd h
      refine ec_getI (ci := 5) (j := 1) ⟨rfl, rfl, rfl⟩ g4 rfl ?_
      refine en_iload rfl rfl ?_
      refine en_iushr rfl ?_
      refine ec_iconst cst_1 rfl ?_
      refine en_iand rfl ?_
      rcases gi h with ⟨c5, h⟩ | ⟨c5, h⟩
      · refine en_if_ne_t c5 rfl ?_
        refine en_aload rfl rfl ?_
        obtain ⟨r6, e7, h⟩ := gb h
        refine ec_getP (ci := 5) (j := 0) ⟨rfl, rfl, rfl⟩ g4 e7 rfl ?_
        refine en_iload rfl rfl ?_
        refine ec_iconst cst_4 rfl ?_
        refine en_imul rfl ?_
        refine en_iload rfl rfl ?_
        refine en_iadd rfl ?_
        obtain ⟨g8, h⟩ := gd h
        obtain ⟨g9, h⟩ := gd h
        refine ec_iaload g8 g9 rfl ?_
        refine en_istore (l' := [(6, .int (cI C r6 (Int32.toNatClampNeg ((p5 * (4 : Int32)) + p2)))), (0, .ref p0), (1, .int p1), (2, .int p2), (3, .int p3), (4, .int p4), (5, .int p5)]) rfl rfl ?_
        refine en_iload rfl rfl ?_
        refine ec_iconst cst_214 rfl ?_
        rcases gi h with ⟨c10, h⟩ | ⟨c10, h⟩
        · refine en_icmp_ne_t c10 rfl ?_
          refine en_iload rfl rfl ?_
          refine ec_iconst cst_211 rfl ?_
          rcases gi h with ⟨c11, h⟩ | ⟨c11, h⟩
          · refine en_icmp_ne_t c11 rfl ?_
            refine en_iload rfl rfl ?_
            rcases gi h with ⟨c12, h⟩ | ⟨c12, h⟩
            · refine en_if_ne_t c12 rfl ?_
              refine en_iload rfl rfl ?_
              refine en_istore (l' := [(3, .int (cI C r6 (Int32.toNatClampNeg ((p5 * (4 : Int32)) + p2)))), (6, .int (cI C r6 (Int32.toNatClampNeg ((p5 * (4 : Int32)) + p2)))), (0, .ref p0), (1, .int p1), (2, .int p2), (4, .int p4), (5, .int p5)]) rfl rfl ?_
              refine ec_iconst cst_0 rfl ?_
              refine en_istore (l' := [(4, .int (0 : Int32)), (3, .int (cI C r6 (Int32.toNatClampNeg ((p5 * (4 : Int32)) + p2)))), (6, .int (cI C r6 (Int32.toNatClampNeg ((p5 * (4 : Int32)) + p2)))), (0, .ref p0), (1, .int p1), (2, .int p2), (5, .int p5)]) rfl rfl ?_
              refine ec_iinc (l' := [(5, .int (p5 + (1 : Int32))), (4, .int (0 : Int32)), (3, .int (cI C r6 (Int32.toNatClampNeg ((p5 * (4 : Int32)) + p2)))), (6, .int (cI C r6 (Int32.toNatClampNeg ((p5 * (4 : Int32)) + p2)))), (0, .ref p0), (1, .int p1), (2, .int p2)]) rfl cst_1 rfl rfl ?_
              refine en_goto rfl ?_
              refine en_sub [4, 5, 6, 2, 1, 0] rfl rfl ?_
              exact ih _ _ _ _ _ _ _ _ h o M' hk
            · refine en_if_ne_f c12 rfl ?_
              refine en_iload rfl rfl ?_
              refine ec_iconst cst_212 rfl ?_
              rcases gi h with ⟨c13, h⟩ | ⟨c13, h⟩
              · refine en_icmp_ne_t c13 rfl ?_
                refine en_iload rfl rfl ?_
                refine en_iload rfl rfl ?_
                rcases gi h with ⟨c14, h⟩ | ⟨c14, h⟩
                · refine en_icmp_le_t c14 rfl ?_
                  refine ec_iconst cst_0 rfl ?_
                  refine en_istore (l' := [(4, .int (0 : Int32)), (6, .int (cI C r6 (Int32.toNatClampNeg ((p5 * (4 : Int32)) + p2)))), (0, .ref p0), (1, .int p1), (2, .int p2), (3, .int p3), (5, .int p5)]) rfl rfl ?_
                  refine ec_iinc (l' := [(5, .int (p5 + (1 : Int32))), (4, .int (0 : Int32)), (6, .int (cI C r6 (Int32.toNatClampNeg ((p5 * (4 : Int32)) + p2)))), (0, .ref p0), (1, .int p1), (2, .int p2), (3, .int p3)]) rfl cst_1 rfl rfl ?_
                  refine en_goto rfl ?_
                  refine en_sub [3, 4, 5, 6, 1, 0] rfl rfl ?_
                  exact ih _ _ _ _ _ _ _ _ h o M' hk
                · refine en_icmp_le_f c14 rfl ?_
                  refine en_iload rfl rfl ?_
                  refine en_istore (l' := [(3, .int (cI C r6 (Int32.toNatClampNeg ((p5 * (4 : Int32)) + p2)))), (6, .int (cI C r6 (Int32.toNatClampNeg ((p5 * (4 : Int32)) + p2)))), (0, .ref p0), (1, .int p1), (2, .int p2), (4, .int p4), (5, .int p5)]) rfl rfl ?_
                  refine ec_iconst cst_0 rfl ?_
                  refine en_istore (l' := [(4, .int (0 : Int32)), (3, .int (cI C r6 (Int32.toNatClampNeg ((p5 * (4 : Int32)) + p2)))), (6, .int (cI C r6 (Int32.toNatClampNeg ((p5 * (4 : Int32)) + p2)))), (0, .ref p0), (1, .int p1), (2, .int p2), (5, .int p5)]) rfl rfl ?_
                  refine ec_iinc (l' := [(5, .int (p5 + (1 : Int32))), (4, .int (0 : Int32)), (3, .int (cI C r6 (Int32.toNatClampNeg ((p5 * (4 : Int32)) + p2)))), (6, .int (cI C r6 (Int32.toNatClampNeg ((p5 * (4 : Int32)) + p2)))), (0, .ref p0), (1, .int p1), (2, .int p2)]) rfl cst_1 rfl rfl ?_
                  refine en_goto rfl ?_
                  refine en_sub [4, 5, 6, 2, 1, 0] rfl rfl ?_
                  exact ih _ _ _ _ _ _ _ _ h o M' hk
              · refine en_icmp_ne_f c13 rfl ?_
                refine en_iload rfl rfl ?_
                refine en_iload rfl rfl ?_
                rcases gi h with ⟨c15, h⟩ | ⟨c15, h⟩
                · refine en_icmp_ge_t c15 rfl ?_
                  refine ec_iconst cst_0 rfl ?_
                  refine en_istore (l' := [(4, .int (0 : Int32)), (6, .int (cI C r6 (Int32.toNatClampNeg ((p5 * (4 : Int32)) + p2)))), (0, .ref p0), (1, .int p1), (2, .int p2), (3, .int p3), (5, .int p5)]) rfl rfl ?_
                  refine ec_iinc (l' := [(5, .int (p5 + (1 : Int32))), (4, .int (0 : Int32)), (6, .int (cI C r6 (Int32.toNatClampNeg ((p5 * (4 : Int32)) + p2)))), (0, .ref p0), (1, .int p1), (2, .int p2), (3, .int p3)]) rfl cst_1 rfl rfl ?_
                  refine en_goto rfl ?_
                  refine en_sub [3, 4, 5, 6, 1, 0] rfl rfl ?_
                  exact ih _ _ _ _ _ _ _ _ h o M' hk
                · refine en_icmp_ge_f c15 rfl ?_
                  refine en_goto rfl ?_
                  refine en_iload rfl rfl ?_
                  refine en_istore (l' := [(3, .int (cI C r6 (Int32.toNatClampNeg ((p5 * (4 : Int32)) + p2)))), (6, .int (cI C r6 (Int32.toNatClampNeg ((p5 * (4 : Int32)) + p2)))), (0, .ref p0), (1, .int p1), (2, .int p2), (4, .int p4), (5, .int p5)]) rfl rfl ?_
                  refine ec_iconst cst_0 rfl ?_
                  refine en_istore (l' := [(4, .int (0 : Int32)), (3, .int (cI C r6 (Int32.toNatClampNeg ((p5 * (4 : Int32)) + p2)))), (6, .int (cI C r6 (Int32.toNatClampNeg ((p5 * (4 : Int32)) + p2)))), (0, .ref p0), (1, .int p1), (2, .int p2), (5, .int p5)]) rfl rfl ?_
                  refine ec_iinc (l' := [(5, .int (p5 + (1 : Int32))), (4, .int (0 : Int32)), (3, .int (cI C r6 (Int32.toNatClampNeg ((p5 * (4 : Int32)) + p2)))), (6, .int (cI C r6 (Int32.toNatClampNeg ((p5 * (4 : Int32)) + p2)))), (0, .ref p0), (1, .int p1), (2, .int p2)]) rfl cst_1 rfl rfl ?_
                  refine en_goto rfl ?_
                  refine en_sub [4, 5, 6, 2, 1, 0] rfl rfl ?_
                  exact ih _ _ _ _ _ _ _ _ h o M' hk
          · refine en_icmp_ne_f c11 rfl ?_
            refine en_iload rfl rfl ?_
            refine en_iload rfl rfl ?_
            refine en_iadd rfl ?_
            refine en_istore (l' := [(3, .int (p3 + (cI C r6 (Int32.toNatClampNeg ((p5 * (4 : Int32)) + p2))))), (6, .int (cI C r6 (Int32.toNatClampNeg ((p5 * (4 : Int32)) + p2)))), (0, .ref p0), (1, .int p1), (2, .int p2), (4, .int p4), (5, .int p5)]) rfl rfl ?_
            refine en_goto rfl ?_
            refine ec_iconst cst_0 rfl ?_
            refine en_istore (l' := [(4, .int (0 : Int32)), (3, .int (p3 + (cI C r6 (Int32.toNatClampNeg ((p5 * (4 : Int32)) + p2))))), (6, .int (cI C r6 (Int32.toNatClampNeg ((p5 * (4 : Int32)) + p2)))), (0, .ref p0), (1, .int p1), (2, .int p2), (5, .int p5)]) rfl rfl ?_
            refine ec_iinc (l' := [(5, .int (p5 + (1 : Int32))), (4, .int (0 : Int32)), (3, .int (p3 + (cI C r6 (Int32.toNatClampNeg ((p5 * (4 : Int32)) + p2))))), (6, .int (cI C r6 (Int32.toNatClampNeg ((p5 * (4 : Int32)) + p2)))), (0, .ref p0), (1, .int p1), (2, .int p2)]) rfl cst_1 rfl rfl ?_
            refine en_goto rfl ?_
            refine en_sub [4, 5, 6, 2, 1, 0] rfl rfl ?_
            exact ih _ _ _ _ _ _ _ _ h o M' hk
        · refine en_icmp_ne_f c10 rfl ?_
          refine ec_iinc (l' := [(3, .int (p3 + (1 : Int32))), (6, .int (cI C r6 (Int32.toNatClampNeg ((p5 * (4 : Int32)) + p2)))), (0, .ref p0), (1, .int p1), (2, .int p2), (4, .int p4), (5, .int p5)]) rfl cst_1 rfl rfl ?_
          refine en_goto rfl ?_
          refine ec_iconst cst_0 rfl ?_
          refine en_istore (l' := [(4, .int (0 : Int32)), (3, .int (p3 + (1 : Int32))), (6, .int (cI C r6 (Int32.toNatClampNeg ((p5 * (4 : Int32)) + p2)))), (0, .ref p0), (1, .int p1), (2, .int p2), (5, .int p5)]) rfl rfl ?_
          refine ec_iinc (l' := [(5, .int (p5 + (1 : Int32))), (4, .int (0 : Int32)), (3, .int (p3 + (1 : Int32))), (6, .int (cI C r6 (Int32.toNatClampNeg ((p5 * (4 : Int32)) + p2)))), (0, .ref p0), (1, .int p1), (2, .int p2)]) rfl cst_1 rfl rfl ?_
          refine en_goto rfl ?_
          refine en_sub [4, 5, 6, 2, 1, 0] rfl rfl ?_
          exact ih _ _ _ _ _ _ _ _ h o M' hk
      · refine en_if_ne_f c5 rfl ?_
        refine en_goto rfl ?_
        refine ec_iinc (l' := [(5, .int (p5 + (1 : Int32))), (0, .ref p0), (1, .int p1), (2, .int p2), (3, .int p3), (4, .int p4)]) rfl cst_1 rfl rfl ?_
        refine en_goto rfl ?_
        refine en_sub [1, 2, 3, 4, 5, 0] rfl rfl ?_
        exact ih _ _ _ _ _ _ _ _ h o M' hk
/-- BulkWriter$Rows.whole(II)I -/
def f_82 (n : Nat) (a0 : Nat) (a1 : Int32) (a2 : Int32) (C : AmC) : Option (Int32 × AmC) := (if a2 < 0 then some ((0 : Int32), C) else (if a2 < (4 : Int32) then (lp_82_13 n a0 a1 a2 (0 : Int32) (1 : Int32) (0 : Int32) C).bind (fun q => match q with | (u19, C18) => some (u19, C18)) else some ((0 : Int32), C)))
set_option maxRecDepth 20000 in
set_option maxHeartbeats 4000000 in
theorem t_82 {n : Nat} {a0 : Nat} {a1 : Int32} {a2 : Int32} {C : AmC} {r : Int32} {C' : AmC} (h : f_82 n a0 a1 a2 C = some (r, C')) : En false 82 0 [(0, .ref a0), (1, .int a1), (2, .int a2)] [] (mkM C) (.inl (some (.int r))) (mkM C') := by
  unfold f_82 at h
  refine en_iload rfl rfl ?_
  rcases gi h with ⟨c1, h⟩ | ⟨c1, h⟩
  · refine en_if_lt_t c1 rfl ?_
    refine ec_iconst cst_0 rfl ?_
    cases h
    exact en_iret rfl
  · refine en_if_lt_f c1 rfl ?_
    refine en_iload rfl rfl ?_
    refine ec_iconst cst_4 rfl ?_
    rcases gi h with ⟨c2, h⟩ | ⟨c2, h⟩
    · refine en_icmp_lt_t c2 rfl ?_
      refine ec_iconst cst_0 rfl ?_
      refine en_istore (l' := [(3, .int (0 : Int32)), (0, .ref a0), (1, .int a1), (2, .int a2)]) rfl rfl ?_
      refine ec_iconst cst_1 rfl ?_
      refine en_istore (l' := [(4, .int (1 : Int32)), (3, .int (0 : Int32)), (0, .ref a0), (1, .int a1), (2, .int a2)]) rfl rfl ?_
      refine ec_iconst cst_0 rfl ?_
      refine en_istore (l' := [(5, .int (0 : Int32)), (4, .int (1 : Int32)), (3, .int (0 : Int32)), (0, .ref a0), (1, .int a1), (2, .int a2)]) rfl rfl ?_
      obtain ⟨⟨q16, C18⟩, e17, h⟩ := gb h
      refine en_sub [3, 4, 5, 2, 1, 0] rfl rfl (lt_82_13 n _ _ _ _ _ _ _ _ e17 _ _ ?_)
      revert h e17; revert q16; intro u19 e17 h
      dsimp only at h ⊢
      refine en_iload rfl rfl ?_
      cases h
      exact en_iret rfl
    · refine en_icmp_lt_f c2 rfl ?_
      refine ec_iconst cst_0 rfl ?_
      cases h
      exact en_iret rfl
def lp_102_18 : Nat → Nat → Int32 → Nat → Int32 → Int32 → Int32 → Int32 → AmC → Option (((Int32)) × AmC)
  | 0, _, _, _, _, _, _, _, _ => none
  | n + 1, p0, p1, p2, p3, p4, p5, p6, C => if isK p0 6 = true then (cP C p0 16).bind (fun r10 => if isK r10 12 = true then if amIn (p1 + (1 : Int32)) (aLen r10) = true then (if (cI C r10 (Int32.toNatClampNeg (p1 + (1 : Int32)))) ≤ p6 then some (p5, C) else (if (450 : Int32) ≤ p6 then some (p5, C) else (cP C p0 13).bind (fun r16 => if isK r16 12 = true then if amIn p6 (aLen r16) = true then (if (cI C r16 (Int32.toNatClampNeg p6)) = (128 : Int32) then (cP C p0 14).bind (fun r23 => if isK r23 12 = true then if amIn p6 (aLen r23) = true then (cP C p0 12).bind (fun r27 => if isK r27 12 = true then if amIn p6 (aLen r27) = true then (if ¬ (cI C r27 (Int32.toNatClampNeg p6)) = (42 : Int32) then (cP C p0 12).bind (fun r32 => if isK r32 12 = true then if amIn p6 (aLen r32) = true then (if ¬ (cI C r32 (Int32.toNatClampNeg p6)) = (45 : Int32) then lp_102_18 n p0 p1 p2 p3 p4 (p5 + (cI C r23 (Int32.toNatClampNeg p6))) (p6 + (1 : Int32)) C else lp_102_18 n p0 p1 p2 p3 p4 (p5 + (-(cI C r23 (Int32.toNatClampNeg p6)))) (p6 + (1 : Int32)) C) else none else none) else lp_102_18 n p0 p1 p2 p3 p4 (p5 * (cI C r23 (Int32.toNatClampNeg p6))) (p6 + (1 : Int32)) C) else none else none) else none else none) else if (cI C r16 (Int32.toNatClampNeg p6)) = (130 : Int32) then (cP C p0 14).bind (fun r37 => if isK r37 12 = true then if amIn p6 (aLen r37) = true then if isK p2 5 = true then (f_76 n p2 p3 (cI C r37 (Int32.toNatClampNeg p6)) C).bind (fun z => match z with | (q42, C43) => (cP C43 p0 12).bind (fun r45 => if isK r45 12 = true then if amIn p6 (aLen r45) = true then (if ¬ (cI C43 r45 (Int32.toNatClampNeg p6)) = (42 : Int32) then (cP C43 p0 12).bind (fun r50 => if isK r50 12 = true then if amIn p6 (aLen r50) = true then (if ¬ (cI C43 r50 (Int32.toNatClampNeg p6)) = (45 : Int32) then lp_102_18 n p0 p1 p2 p3 p4 (p5 + q42) (p6 + (1 : Int32)) C43 else lp_102_18 n p0 p1 p2 p3 p4 (p5 + (-q42)) (p6 + (1 : Int32)) C43) else none else none) else lp_102_18 n p0 p1 p2 p3 p4 (p5 * q42) (p6 + (1 : Int32)) C43) else none else none)) else none else none else none) else if (cI C r16 (Int32.toNatClampNeg p6)) = (202 : Int32) then (cP C p0 14).bind (fun r55 => if isK r55 12 = true then if amIn p6 (aLen r55) = true then (f_95 n p0 p4 (cI C r55 (Int32.toNatClampNeg p6)) C).bind (fun z => match z with | (q59, C60) => (cP C60 p0 12).bind (fun r62 => if isK r62 12 = true then if amIn p6 (aLen r62) = true then (if ¬ (cI C60 r62 (Int32.toNatClampNeg p6)) = (42 : Int32) then (cP C60 p0 12).bind (fun r67 => if isK r67 12 = true then if amIn p6 (aLen r67) = true then (if ¬ (cI C60 r67 (Int32.toNatClampNeg p6)) = (45 : Int32) then lp_102_18 n p0 p1 p2 p3 p4 (p5 + q59) (p6 + (1 : Int32)) C60 else lp_102_18 n p0 p1 p2 p3 p4 (p5 + (-q59)) (p6 + (1 : Int32)) C60) else none else none) else lp_102_18 n p0 p1 p2 p3 p4 (p5 * q59) (p6 + (1 : Int32)) C60) else none else none)) else none else none) else (cP C p0 13).bind (fun r72 => if isK r72 12 = true then if amIn p6 (aLen r72) = true then (cP C p0 14).bind (fun r76 => if isK r76 12 = true then if amIn p6 (aLen r76) = true then if isK p2 5 = true then (f_82 n p2 (cI C r72 (Int32.toNatClampNeg p6)) (cI C r76 (Int32.toNatClampNeg p6)) C).bind (fun z => match z with | (q81, C82) => (cP C82 p0 12).bind (fun r84 => if isK r84 12 = true then if amIn p6 (aLen r84) = true then (if ¬ (cI C82 r84 (Int32.toNatClampNeg p6)) = (42 : Int32) then (cP C82 p0 12).bind (fun r89 => if isK r89 12 = true then if amIn p6 (aLen r89) = true then (if ¬ (cI C82 r89 (Int32.toNatClampNeg p6)) = (45 : Int32) then lp_102_18 n p0 p1 p2 p3 p4 (p5 + q81) (p6 + (1 : Int32)) C82 else lp_102_18 n p0 p1 p2 p3 p4 (p5 + (-q81)) (p6 + (1 : Int32)) C82) else none else none) else lp_102_18 n p0 p1 p2 p3 p4 (p5 * q81) (p6 + (1 : Int32)) C82) else none else none)) else none else none else none) else none else none)) else none else none))) else none else none) else none
set_option maxRecDepth 20000 in
set_option maxHeartbeats 4000000 in
theorem lt_102_18 : ∀ (n : Nat) (p0 : Nat) (p1 : Int32) (p2 : Nat) (p3 : Int32) (p4 : Int32) (p5 : Int32) (p6 : Int32) (C : AmC) (r : ((Int32)) × AmC), lp_102_18 n p0 p1 p2 p3 p4 p5 p6 C = some r → ∀ (o : AmO) (M' : AmM), (match r with
        | (w5, C') => En false 102 95 [(5, .int w5)] [] (mkM C') o M') → En false 102 18 [(0, .ref p0), (1, .int p1), (2, .ref p2), (3, .int p3), (4, .int p4), (5, .int p5), (6, .int p6)] [] (mkM C) o M' := by
  intro n
  induction n with
  | zero => intro p0 p1 p2 p3 p4 p5 p6 C r h; cases h
  | succ n ih =>
    intro p0 p1 p2 p3 p4 p5 p6 C r h o M' hk
    unfold lp_102_18 at h
    refine en_iload rfl rfl ?_
    refine en_aload rfl rfl ?_
    obtain ⟨g9, h⟩ := gd h
    obtain ⟨r10, e11, h⟩ := gb h
    refine ec_getP (ci := 6) (j := 16) ⟨rfl, rfl, rfl⟩ g9 e11 rfl ?_
    refine en_iload rfl rfl ?_
    refine ec_iconst cst_1 rfl ?_
    refine en_iadd rfl ?_
    obtain ⟨g12, h⟩ := gd h
    obtain ⟨g13, h⟩ := gd h
    refine ec_iaload g12 g13 rfl ?_
    rcases gi h with ⟨c14, h⟩ | ⟨c14, h⟩
    · refine en_icmp_ge_t c14 rfl ?_
      cases h
      exact en_sub [5] rfl rfl hk
    · refine en_icmp_ge_f c14 rfl ?_
      refine en_iload rfl rfl ?_
      refine ec_iconst cst_450 rfl ?_
      rcases gi h with ⟨c15, h⟩ | ⟨c15, h⟩
      · refine en_icmp_ge_t c15 rfl ?_
        cases h
        exact en_sub [5] rfl rfl hk
      · refine en_icmp_ge_f c15 rfl ?_
        refine en_aload rfl rfl ?_
        obtain ⟨r16, e17, h⟩ := gb h
        refine ec_getP (ci := 6) (j := 13) ⟨rfl, rfl, rfl⟩ g9 e17 rfl ?_
        refine en_iload rfl rfl ?_
        obtain ⟨g18, h⟩ := gd h
        obtain ⟨g19, h⟩ := gd h
        refine ec_iaload g18 g19 rfl ?_
        rcases gi h with ⟨c20, h⟩ | ⟨c20, h⟩
        · refine en_look (t := 34) (by rw [c20]; rfl) rfl ?_
          refine en_aload rfl rfl ?_
          obtain ⟨r23, e24, h⟩ := gb h
          refine ec_getP (ci := 6) (j := 14) ⟨rfl, rfl, rfl⟩ g9 e24 rfl ?_
          refine en_iload rfl rfl ?_
          obtain ⟨g25, h⟩ := gd h
          obtain ⟨g26, h⟩ := gd h
          refine ec_iaload g25 g26 rfl ?_
          refine en_istore (l' := [(7, .int (cI C r23 (Int32.toNatClampNeg p6))), (0, .ref p0), (1, .int p1), (2, .ref p2), (3, .int p3), (4, .int p4), (5, .int p5), (6, .int p6)]) rfl rfl ?_
          refine en_goto rfl ?_
          refine en_aload rfl rfl ?_
          obtain ⟨r27, e28, h⟩ := gb h
          refine ec_getP (ci := 6) (j := 12) ⟨rfl, rfl, rfl⟩ g9 e28 rfl ?_
          refine en_iload rfl rfl ?_
          obtain ⟨g29, h⟩ := gd h
          obtain ⟨g30, h⟩ := gd h
          refine ec_iaload g29 g30 rfl ?_
          refine ec_iconst cst_42 rfl ?_
          rcases gi h with ⟨c31, h⟩ | ⟨c31, h⟩
          · refine en_icmp_ne_t c31 rfl ?_
            refine en_iload rfl rfl ?_
            refine en_aload rfl rfl ?_
            obtain ⟨r32, e33, h⟩ := gb h
            refine ec_getP (ci := 6) (j := 12) ⟨rfl, rfl, rfl⟩ g9 e33 rfl ?_
            refine en_iload rfl rfl ?_
            obtain ⟨g34, h⟩ := gd h
            obtain ⟨g35, h⟩ := gd h
            refine ec_iaload g34 g35 rfl ?_
            refine ec_iconst cst_45 rfl ?_
            rcases gi h with ⟨c36, h⟩ | ⟨c36, h⟩
            · refine en_icmp_ne_t c36 rfl ?_
              refine en_iload rfl rfl ?_
              refine en_iadd rfl ?_
              refine en_istore (l' := [(5, .int (p5 + (cI C r23 (Int32.toNatClampNeg p6)))), (7, .int (cI C r23 (Int32.toNatClampNeg p6))), (0, .ref p0), (1, .int p1), (2, .ref p2), (3, .int p3), (4, .int p4), (6, .int p6)]) rfl rfl ?_
              refine ec_iinc (l' := [(6, .int (p6 + (1 : Int32))), (5, .int (p5 + (cI C r23 (Int32.toNatClampNeg p6)))), (7, .int (cI C r23 (Int32.toNatClampNeg p6))), (0, .ref p0), (1, .int p1), (2, .ref p2), (3, .int p3), (4, .int p4)]) rfl cst_1 rfl rfl ?_
              refine en_goto rfl ?_
              refine en_sub [3, 4, 5, 6, 7, 1, 0] rfl rfl ?_
              exact ih _ _ _ _ _ _ _ _ _ h o M' hk
            · refine en_icmp_ne_f c36 rfl ?_
              refine en_iload rfl rfl ?_
              refine en_ineg rfl ?_
              refine en_goto rfl ?_
              refine en_iadd rfl ?_
              refine en_istore (l' := [(5, .int (p5 + (-(cI C r23 (Int32.toNatClampNeg p6))))), (7, .int (cI C r23 (Int32.toNatClampNeg p6))), (0, .ref p0), (1, .int p1), (2, .ref p2), (3, .int p3), (4, .int p4), (6, .int p6)]) rfl rfl ?_
              refine ec_iinc (l' := [(6, .int (p6 + (1 : Int32))), (5, .int (p5 + (-(cI C r23 (Int32.toNatClampNeg p6))))), (7, .int (cI C r23 (Int32.toNatClampNeg p6))), (0, .ref p0), (1, .int p1), (2, .ref p2), (3, .int p3), (4, .int p4)]) rfl cst_1 rfl rfl ?_
              refine en_goto rfl ?_
              refine en_sub [3, 4, 5, 6, 7, 1, 0] rfl rfl ?_
              exact ih _ _ _ _ _ _ _ _ _ h o M' hk
          · refine en_icmp_ne_f c31 rfl ?_
            refine en_iload rfl rfl ?_
            refine en_iload rfl rfl ?_
            refine en_imul rfl ?_
            refine en_istore (l' := [(5, .int (p5 * (cI C r23 (Int32.toNatClampNeg p6)))), (7, .int (cI C r23 (Int32.toNatClampNeg p6))), (0, .ref p0), (1, .int p1), (2, .ref p2), (3, .int p3), (4, .int p4), (6, .int p6)]) rfl rfl ?_
            refine en_goto rfl ?_
            refine ec_iinc (l' := [(6, .int (p6 + (1 : Int32))), (5, .int (p5 * (cI C r23 (Int32.toNatClampNeg p6)))), (7, .int (cI C r23 (Int32.toNatClampNeg p6))), (0, .ref p0), (1, .int p1), (2, .ref p2), (3, .int p3), (4, .int p4)]) rfl cst_1 rfl rfl ?_
            refine en_goto rfl ?_
            refine en_sub [3, 4, 5, 6, 7, 1, 0] rfl rfl ?_
            exact ih _ _ _ _ _ _ _ _ _ h o M' hk
        ·
          rcases gi h with ⟨c21, h⟩ | ⟨c21, h⟩
          · refine en_look (t := 40) (by rw [c21]; rfl) rfl ?_
            refine en_aload rfl rfl ?_
            refine en_iload rfl rfl ?_
            refine en_aload rfl rfl ?_
            obtain ⟨r37, e38, h⟩ := gb h
            refine ec_getP (ci := 6) (j := 14) ⟨rfl, rfl, rfl⟩ g9 e38 rfl ?_
            refine en_iload rfl rfl ?_
            obtain ⟨g39, h⟩ := gd h
            obtain ⟨g40, h⟩ := gd h
            refine ec_iaload g39 g40 rfl ?_
            obtain ⟨g41, h⟩ := gd h
            obtain ⟨⟨q42, C43⟩, e44, h⟩ := gb h
            dsimp only at h
            refine ec_callV1 (k' := 76) (n := 3) (rc := 5) (a := p2) (as := [.int p3, .int (cI C r37 (Int32.toNatClampNeg p6))]) ⟨rfl, rfl⟩ rfl rfl (Nat.le_of_ble_eq_true rfl) (Nat.le_of_ble_eq_true rfl) (Nat.le_of_ble_eq_true rfl) g41 rfl (t_76 e44) ?_
            refine en_istore (l' := [(7, .int q42), (0, .ref p0), (1, .int p1), (2, .ref p2), (3, .int p3), (4, .int p4), (5, .int p5), (6, .int p6)]) rfl rfl ?_
            refine en_goto rfl ?_
            refine en_aload rfl rfl ?_
            obtain ⟨r45, e46, h⟩ := gb h
            refine ec_getP (ci := 6) (j := 12) ⟨rfl, rfl, rfl⟩ g9 e46 rfl ?_
            refine en_iload rfl rfl ?_
            obtain ⟨g47, h⟩ := gd h
            obtain ⟨g48, h⟩ := gd h
            refine ec_iaload g47 g48 rfl ?_
            refine ec_iconst cst_42 rfl ?_
            rcases gi h with ⟨c49, h⟩ | ⟨c49, h⟩
            · refine en_icmp_ne_t c49 rfl ?_
              refine en_iload rfl rfl ?_
              refine en_aload rfl rfl ?_
              obtain ⟨r50, e51, h⟩ := gb h
              refine ec_getP (ci := 6) (j := 12) ⟨rfl, rfl, rfl⟩ g9 e51 rfl ?_
              refine en_iload rfl rfl ?_
              obtain ⟨g52, h⟩ := gd h
              obtain ⟨g53, h⟩ := gd h
              refine ec_iaload g52 g53 rfl ?_
              refine ec_iconst cst_45 rfl ?_
              rcases gi h with ⟨c54, h⟩ | ⟨c54, h⟩
              · refine en_icmp_ne_t c54 rfl ?_
                refine en_iload rfl rfl ?_
                refine en_iadd rfl ?_
                refine en_istore (l' := [(5, .int (p5 + q42)), (7, .int q42), (0, .ref p0), (1, .int p1), (2, .ref p2), (3, .int p3), (4, .int p4), (6, .int p6)]) rfl rfl ?_
                refine ec_iinc (l' := [(6, .int (p6 + (1 : Int32))), (5, .int (p5 + q42)), (7, .int q42), (0, .ref p0), (1, .int p1), (2, .ref p2), (3, .int p3), (4, .int p4)]) rfl cst_1 rfl rfl ?_
                refine en_goto rfl ?_
                refine en_sub [3, 4, 5, 6, 7, 1, 0] rfl rfl ?_
                exact ih _ _ _ _ _ _ _ _ _ h o M' hk
              · refine en_icmp_ne_f c54 rfl ?_
                refine en_iload rfl rfl ?_
                refine en_ineg rfl ?_
                refine en_goto rfl ?_
                refine en_iadd rfl ?_
                refine en_istore (l' := [(5, .int (p5 + (-q42))), (7, .int q42), (0, .ref p0), (1, .int p1), (2, .ref p2), (3, .int p3), (4, .int p4), (6, .int p6)]) rfl rfl ?_
                refine ec_iinc (l' := [(6, .int (p6 + (1 : Int32))), (5, .int (p5 + (-q42))), (7, .int q42), (0, .ref p0), (1, .int p1), (2, .ref p2), (3, .int p3), (4, .int p4)]) rfl cst_1 rfl rfl ?_
                refine en_goto rfl ?_
                refine en_sub [3, 4, 5, 6, 7, 1, 0] rfl rfl ?_
                exact ih _ _ _ _ _ _ _ _ _ h o M' hk
            · refine en_icmp_ne_f c49 rfl ?_
              refine en_iload rfl rfl ?_
              refine en_iload rfl rfl ?_
              refine en_imul rfl ?_
              refine en_istore (l' := [(5, .int (p5 * q42)), (7, .int q42), (0, .ref p0), (1, .int p1), (2, .ref p2), (3, .int p3), (4, .int p4), (6, .int p6)]) rfl rfl ?_
              refine en_goto rfl ?_
              refine ec_iinc (l' := [(6, .int (p6 + (1 : Int32))), (5, .int (p5 * q42)), (7, .int q42), (0, .ref p0), (1, .int p1), (2, .ref p2), (3, .int p3), (4, .int p4)]) rfl cst_1 rfl rfl ?_
              refine en_goto rfl ?_
              refine en_sub [3, 4, 5, 6, 7, 1, 0] rfl rfl ?_
              exact ih _ _ _ _ _ _ _ _ _ h o M' hk
          ·
            rcases gi h with ⟨c22, h⟩ | ⟨c22, h⟩
            · refine en_look (t := 49) (by rw [c22]; rfl) rfl ?_
              refine en_aload rfl rfl ?_
              refine en_iload rfl rfl ?_
              refine en_aload rfl rfl ?_
              obtain ⟨r55, e56, h⟩ := gb h
              refine ec_getP (ci := 6) (j := 14) ⟨rfl, rfl, rfl⟩ g9 e56 rfl ?_
              refine en_iload rfl rfl ?_
              obtain ⟨g57, h⟩ := gd h
              obtain ⟨g58, h⟩ := gd h
              refine ec_iaload g57 g58 rfl ?_
              obtain ⟨⟨q59, C60⟩, e61, h⟩ := gb h
              dsimp only at h
              refine ec_callV1 (k' := 95) (n := 3) (rc := 6) (a := p0) (as := [.int p4, .int (cI C r55 (Int32.toNatClampNeg p6))]) ⟨rfl, rfl⟩ rfl rfl (Nat.le_of_ble_eq_true rfl) (Nat.le_of_ble_eq_true rfl) (Nat.le_of_ble_eq_true rfl) g9 rfl (t_95 e61) ?_
              refine en_istore (l' := [(7, .int q59), (0, .ref p0), (1, .int p1), (2, .ref p2), (3, .int p3), (4, .int p4), (5, .int p5), (6, .int p6)]) rfl rfl ?_
              refine en_goto rfl ?_
              refine en_aload rfl rfl ?_
              obtain ⟨r62, e63, h⟩ := gb h
              refine ec_getP (ci := 6) (j := 12) ⟨rfl, rfl, rfl⟩ g9 e63 rfl ?_
              refine en_iload rfl rfl ?_
              obtain ⟨g64, h⟩ := gd h
              obtain ⟨g65, h⟩ := gd h
              refine ec_iaload g64 g65 rfl ?_
              refine ec_iconst cst_42 rfl ?_
              rcases gi h with ⟨c66, h⟩ | ⟨c66, h⟩
              · refine en_icmp_ne_t c66 rfl ?_
                refine en_iload rfl rfl ?_
                refine en_aload rfl rfl ?_
                obtain ⟨r67, e68, h⟩ := gb h
                refine ec_getP (ci := 6) (j := 12) ⟨rfl, rfl, rfl⟩ g9 e68 rfl ?_
                refine en_iload rfl rfl ?_
                obtain ⟨g69, h⟩ := gd h
                obtain ⟨g70, h⟩ := gd h
                refine ec_iaload g69 g70 rfl ?_
                refine ec_iconst cst_45 rfl ?_
                rcases gi h with ⟨c71, h⟩ | ⟨c71, h⟩
                · refine en_icmp_ne_t c71 rfl ?_
                  refine en_iload rfl rfl ?_
                  refine en_iadd rfl ?_
                  refine en_istore (l' := [(5, .int (p5 + q59)), (7, .int q59), (0, .ref p0), (1, .int p1), (2, .ref p2), (3, .int p3), (4, .int p4), (6, .int p6)]) rfl rfl ?_
                  refine ec_iinc (l' := [(6, .int (p6 + (1 : Int32))), (5, .int (p5 + q59)), (7, .int q59), (0, .ref p0), (1, .int p1), (2, .ref p2), (3, .int p3), (4, .int p4)]) rfl cst_1 rfl rfl ?_
                  refine en_goto rfl ?_
                  refine en_sub [3, 4, 5, 6, 7, 1, 0] rfl rfl ?_
                  exact ih _ _ _ _ _ _ _ _ _ h o M' hk
                · refine en_icmp_ne_f c71 rfl ?_
                  refine en_iload rfl rfl ?_
                  refine en_ineg rfl ?_
                  refine en_goto rfl ?_
                  refine en_iadd rfl ?_
                  refine en_istore (l' := [(5, .int (p5 + (-q59))), (7, .int q59), (0, .ref p0), (1, .int p1), (2, .ref p2), (3, .int p3), (4, .int p4), (6, .int p6)]) rfl rfl ?_
                  refine ec_iinc (l' := [(6, .int (p6 + (1 : Int32))), (5, .int (p5 + (-q59))), (7, .int q59), (0, .ref p0), (1, .int p1), (2, .ref p2), (3, .int p3), (4, .int p4)]) rfl cst_1 rfl rfl ?_
                  refine en_goto rfl ?_
                  refine en_sub [3, 4, 5, 6, 7, 1, 0] rfl rfl ?_
                  exact ih _ _ _ _ _ _ _ _ _ h o M' hk
              · refine en_icmp_ne_f c66 rfl ?_
                refine en_iload rfl rfl ?_
                refine en_iload rfl rfl ?_
                refine en_imul rfl ?_
                refine en_istore (l' := [(5, .int (p5 * q59)), (7, .int q59), (0, .ref p0), (1, .int p1), (2, .ref p2), (3, .int p3), (4, .int p4), (6, .int p6)]) rfl rfl ?_
                refine en_goto rfl ?_
                refine ec_iinc (l' := [(6, .int (p6 + (1 : Int32))), (5, .int (p5 * q59)), (7, .int q59), (0, .ref p0), (1, .int p1), (2, .ref p2), (3, .int p3), (4, .int p4)]) rfl cst_1 rfl rfl ?_
                refine en_goto rfl ?_
                refine en_sub [3, 4, 5, 6, 7, 1, 0] rfl rfl ?_
                exact ih _ _ _ _ _ _ _ _ _ h o M' hk
            ·
              refine en_look (t := 58) (by have z0 := ne_toInt c20 (v := 128) (by decide); have z1 := ne_toInt c21 (v := 130) (by decide); have z2 := ne_toInt c22 (v := 202) (by decide); simp [Op.lookupswitch.offset, z0, z0.symm, z1, z1.symm, z2, z2.symm]) rfl ?_
              refine en_aload rfl rfl ?_
              refine en_aload rfl rfl ?_
              obtain ⟨r72, e73, h⟩ := gb h
              refine ec_getP (ci := 6) (j := 13) ⟨rfl, rfl, rfl⟩ g9 e73 rfl ?_
              refine en_iload rfl rfl ?_
              obtain ⟨g74, h⟩ := gd h
              obtain ⟨g75, h⟩ := gd h
              refine ec_iaload g74 g75 rfl ?_
              refine en_aload rfl rfl ?_
              obtain ⟨r76, e77, h⟩ := gb h
              refine ec_getP (ci := 6) (j := 14) ⟨rfl, rfl, rfl⟩ g9 e77 rfl ?_
              refine en_iload rfl rfl ?_
              obtain ⟨g78, h⟩ := gd h
              obtain ⟨g79, h⟩ := gd h
              refine ec_iaload g78 g79 rfl ?_
              obtain ⟨g80, h⟩ := gd h
              obtain ⟨⟨q81, C82⟩, e83, h⟩ := gb h
              dsimp only at h
              refine ec_callV1 (k' := 82) (n := 3) (rc := 5) (a := p2) (as := [.int (cI C r72 (Int32.toNatClampNeg p6)), .int (cI C r76 (Int32.toNatClampNeg p6))]) ⟨rfl, rfl⟩ rfl rfl (Nat.le_of_ble_eq_true rfl) (Nat.le_of_ble_eq_true rfl) (Nat.le_of_ble_eq_true rfl) g80 rfl (t_82 e83) ?_
              refine en_istore (l' := [(7, .int q81), (0, .ref p0), (1, .int p1), (2, .ref p2), (3, .int p3), (4, .int p4), (5, .int p5), (6, .int p6)]) rfl rfl ?_
              refine en_aload rfl rfl ?_
              obtain ⟨r84, e85, h⟩ := gb h
              refine ec_getP (ci := 6) (j := 12) ⟨rfl, rfl, rfl⟩ g9 e85 rfl ?_
              refine en_iload rfl rfl ?_
              obtain ⟨g86, h⟩ := gd h
              obtain ⟨g87, h⟩ := gd h
              refine ec_iaload g86 g87 rfl ?_
              refine ec_iconst cst_42 rfl ?_
              rcases gi h with ⟨c88, h⟩ | ⟨c88, h⟩
              · refine en_icmp_ne_t c88 rfl ?_
                refine en_iload rfl rfl ?_
                refine en_aload rfl rfl ?_
                obtain ⟨r89, e90, h⟩ := gb h
                refine ec_getP (ci := 6) (j := 12) ⟨rfl, rfl, rfl⟩ g9 e90 rfl ?_
                refine en_iload rfl rfl ?_
                obtain ⟨g91, h⟩ := gd h
                obtain ⟨g92, h⟩ := gd h
                refine ec_iaload g91 g92 rfl ?_
                refine ec_iconst cst_45 rfl ?_
                rcases gi h with ⟨c93, h⟩ | ⟨c93, h⟩
                · refine en_icmp_ne_t c93 rfl ?_
                  refine en_iload rfl rfl ?_
                  refine en_iadd rfl ?_
                  refine en_istore (l' := [(5, .int (p5 + q81)), (7, .int q81), (0, .ref p0), (1, .int p1), (2, .ref p2), (3, .int p3), (4, .int p4), (6, .int p6)]) rfl rfl ?_
                  refine ec_iinc (l' := [(6, .int (p6 + (1 : Int32))), (5, .int (p5 + q81)), (7, .int q81), (0, .ref p0), (1, .int p1), (2, .ref p2), (3, .int p3), (4, .int p4)]) rfl cst_1 rfl rfl ?_
                  refine en_goto rfl ?_
                  refine en_sub [3, 4, 5, 6, 7, 1, 0] rfl rfl ?_
                  exact ih _ _ _ _ _ _ _ _ _ h o M' hk
                · refine en_icmp_ne_f c93 rfl ?_
                  refine en_iload rfl rfl ?_
                  refine en_ineg rfl ?_
                  refine en_goto rfl ?_
                  refine en_iadd rfl ?_
                  refine en_istore (l' := [(5, .int (p5 + (-q81))), (7, .int q81), (0, .ref p0), (1, .int p1), (2, .ref p2), (3, .int p3), (4, .int p4), (6, .int p6)]) rfl rfl ?_
                  refine ec_iinc (l' := [(6, .int (p6 + (1 : Int32))), (5, .int (p5 + (-q81))), (7, .int q81), (0, .ref p0), (1, .int p1), (2, .ref p2), (3, .int p3), (4, .int p4)]) rfl cst_1 rfl rfl ?_
                  refine en_goto rfl ?_
                  refine en_sub [3, 4, 5, 6, 7, 1, 0] rfl rfl ?_
                  exact ih _ _ _ _ _ _ _ _ _ h o M' hk
              · refine en_icmp_ne_f c88 rfl ?_
                refine en_iload rfl rfl ?_
                refine en_iload rfl rfl ?_
                refine en_imul rfl ?_
                refine en_istore (l' := [(5, .int (p5 * q81)), (7, .int q81), (0, .ref p0), (1, .int p1), (2, .ref p2), (3, .int p3), (4, .int p4), (6, .int p6)]) rfl rfl ?_
                refine en_goto rfl ?_
                refine ec_iinc (l' := [(6, .int (p6 + (1 : Int32))), (5, .int (p5 * q81)), (7, .int q81), (0, .ref p0), (1, .int p1), (2, .ref p2), (3, .int p3), (4, .int p4)]) rfl cst_1 rfl rfl ?_
                refine en_goto rfl ?_
                refine en_sub [3, 4, 5, 6, 7, 1, 0] rfl rfl ?_
                exact ih _ _ _ _ _ _ _ _ _ h o M' hk
/-- BulkWriter$Script.worth(ILBulkWriter$Rows;II)I -/
def f_102 (n : Nat) (a0 : Nat) (a1 : Int32) (a2 : Nat) (a3 : Int32) (a4 : Int32) (C : AmC) : Option (Int32 × AmC) := (if a1 < 0 then some ((0 : Int32), C) else if isK a0 6 = true then (if (cI C a0 15) ≤ a1 then some ((0 : Int32), C) else (if a1 < (450 : Int32) then (cP C a0 16).bind (fun r5 => if isK r5 12 = true then if amIn a1 (aLen r5) = true then (lp_102_18 n a0 a1 a2 a3 a4 (0 : Int32) (cI C r5 (Int32.toNatClampNeg a1)) C).bind (fun q => match q with | (u97, C96) => some (u97, C96)) else none else none) else some ((0 : Int32), C))) else none)
set_option maxRecDepth 20000 in
set_option maxHeartbeats 4000000 in
theorem t_102 {n : Nat} {a0 : Nat} {a1 : Int32} {a2 : Nat} {a3 : Int32} {a4 : Int32} {C : AmC} {r : Int32} {C' : AmC} (h : f_102 n a0 a1 a2 a3 a4 C = some (r, C')) : En false 102 0 [(0, .ref a0), (1, .int a1), (2, .ref a2), (3, .int a3), (4, .int a4)] [] (mkM C) (.inl (some (.int r))) (mkM C') := by
  unfold f_102 at h
  refine en_iload rfl rfl ?_
  rcases gi h with ⟨c1, h⟩ | ⟨c1, h⟩
  · refine en_if_lt_t c1 rfl ?_
    refine ec_iconst cst_0 rfl ?_
    cases h
    exact en_iret rfl
  · refine en_if_lt_f c1 rfl ?_
    refine en_iload rfl rfl ?_
    refine en_aload rfl rfl ?_
    obtain ⟨g2, h⟩ := gd h
    refine ec_getI (ci := 6) (j := 15) ⟨rfl, rfl, rfl⟩ g2 rfl ?_
    rcases gi h with ⟨c3, h⟩ | ⟨c3, h⟩
    · refine en_icmp_ge_t c3 rfl ?_
      refine ec_iconst cst_0 rfl ?_
      cases h
      exact en_iret rfl
    · refine en_icmp_ge_f c3 rfl ?_
      refine en_iload rfl rfl ?_
      refine ec_iconst cst_450 rfl ?_
      rcases gi h with ⟨c4, h⟩ | ⟨c4, h⟩
      · refine en_icmp_lt_t c4 rfl ?_
        refine ec_iconst cst_0 rfl ?_
        refine en_istore (l' := [(5, .int (0 : Int32)), (0, .ref a0), (1, .int a1), (2, .ref a2), (3, .int a3), (4, .int a4)]) rfl rfl ?_
        refine en_aload rfl rfl ?_
        obtain ⟨r5, e6, h⟩ := gb h
        refine ec_getP (ci := 6) (j := 16) ⟨rfl, rfl, rfl⟩ g2 e6 rfl ?_
        refine en_iload rfl rfl ?_
        obtain ⟨g7, h⟩ := gd h
        obtain ⟨g8, h⟩ := gd h
        refine ec_iaload g7 g8 rfl ?_
        refine en_istore (l' := [(6, .int (cI C r5 (Int32.toNatClampNeg a1))), (5, .int (0 : Int32)), (0, .ref a0), (1, .int a1), (2, .ref a2), (3, .int a3), (4, .int a4)]) rfl rfl ?_
        obtain ⟨⟨q94, C96⟩, e95, h⟩ := gb h
        refine en_sub [2, 3, 4, 5, 6, 1, 0] rfl rfl (lt_102_18 n _ _ _ _ _ _ _ _ _ e95 _ _ ?_)
        revert h e95; revert q94; intro u97 e95 h
        dsimp only at h ⊢
        refine en_iload rfl rfl ?_
        cases h
        exact en_iret rfl
      · refine en_icmp_lt_f c4 rfl ?_
        refine ec_iconst cst_0 rfl ?_
        cases h
        exact en_iret rfl
