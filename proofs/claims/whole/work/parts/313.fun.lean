def lp_219_55 : Nat → Nat → Int32 → AmC → Option (((Nat)) × AmC)
  | 0, _, _, _ => none
  | n + 1, p0, p5, C => (if (4 : Int32) ≤ p5 then some (p0, C) else if isK p0 10 = true then (cP C p0 79).bind (fun r25 => (cP C p0 75).bind (fun r27 => if isK r27 12 = true then if amIn p5 (aLen r27) = true then if isK r25 12 = true then if amIn (((4 : Int32) * (cI C p0 80)) + p5) (aLen r25) = true then lp_219_55 n p0 (p5 + (1 : Int32)) (uI C r25 (Int32.toNatClampNeg (((4 : Int32) * (cI C p0 80)) + p5)) (cI C r27 (Int32.toNatClampNeg p5))) else none else none else none else none)) else none)
set_option maxRecDepth 20000 in
set_option maxHeartbeats 4000000 in
theorem lt_219_55 : ∀ (n : Nat) (p0 : Nat) (p5 : Int32) (C : AmC) (r : ((Nat)) × AmC), lp_219_55 n p0 p5 C = some r → ∀ (o : AmO) (M' : AmM), (match r with
        | (w0, C') => En false 219 73 [(0, .ref w0)] [] (mkM C') o M') → En false 219 55 [(0, .ref p0), (5, .int p5)] [] (mkM C) o M' := by
  intro n
  induction n with
  | zero => intro p0 p5 C r h; cases h
  | succ n ih =>
    intro p0 p5 C r h o M' hk
    unfold lp_219_55 at h
    refine en_iload rfl rfl ?_
    refine ec_iconst cst_4 rfl ?_
    rcases gi h with ⟨c23, h⟩ | ⟨c23, h⟩
    · refine en_icmp_ge_t c23 rfl ?_
      cases h
      exact en_sub [0] rfl rfl hk
    · refine en_icmp_ge_f c23 rfl ?_
      refine en_aload rfl rfl ?_
      obtain ⟨g24, h⟩ := gd h
      obtain ⟨r25, e26, h⟩ := gb h
      refine ec_getP (ci := 10) (j := 79) ⟨rfl, rfl, rfl⟩ g24 e26 rfl ?_
      refine ec_iconst cst_4 rfl ?_
      refine en_aload rfl rfl ?_
      refine ec_getI (ci := 10) (j := 80) ⟨rfl, rfl, rfl⟩ g24 rfl ?_
      refine en_imul rfl ?_
      refine en_iload rfl rfl ?_
      refine en_iadd rfl ?_
      refine en_aload rfl rfl ?_
      obtain ⟨r27, e28, h⟩ := gb h
      refine ec_getP (ci := 10) (j := 75) ⟨rfl, rfl, rfl⟩ g24 e28 rfl ?_
      refine en_iload rfl rfl ?_
      obtain ⟨g29, h⟩ := gd h
      obtain ⟨g30, h⟩ := gd h
      refine ec_iaload g29 g30 rfl ?_
      obtain ⟨g31, h⟩ := gd h
      obtain ⟨g32, h⟩ := gd h
      refine ec_iastore g31 g32 rfl ?_
      refine ec_iinc (l' := [(5, .int (p5 + (1 : Int32))), (0, .ref p0)]) rfl cst_1 rfl rfl ?_
      refine en_goto rfl ?_
      refine en_sub [1, 0] rfl rfl ?_
      exact ih _ _ _ _ h o M' hk
/-- BulkWriterModel.takes(III)V -/
def f_219 (n : Nat) (a0 : Nat) (a1 : Int32) (a2 : Int32) (a3 : Int32) (C : AmC) : Option (Unit × AmC) := if isK a0 10 = true then (cP C a0 32).bind (fun r2 => if isK r2 12 = true then if amIn (cI C a0 59) (aLen r2) = true then (if ¬ (cI C r2 (Int32.toNatClampNeg (cI C a0 59))) = (3 : Int32) then (if a3 = (1 : Int32) then (if a3 = 0 then (f_217 n a0 a1 a2 C).bind (fun z => match z with | (_, C10) => (if ¬ a3 = 0 then (if a3 = 0 then some ((), C10) else (if (cI C10 a0 66) = 0 then (cP C10 a0 77).bind (fun r15 => if isK r15 12 = true then if amIn (cI C10 a0 80) (aLen r15) = true then (cP (uI C10 r15 (Int32.toNatClampNeg (cI C10 a0 80)) a1) a0 78).bind (fun r19 => if isK r19 12 = true then if amIn (cI (uI C10 r15 (Int32.toNatClampNeg (cI C10 a0 80)) a1) a0 80) (aLen r19) = true then (lp_219_55 n a0 (0 : Int32) (uI (uI C10 r15 (Int32.toNatClampNeg (cI C10 a0 80)) a1) r19 (Int32.toNatClampNeg (cI (uI C10 r15 (Int32.toNatClampNeg (cI C10 a0 80)) a1) a0 80)) a2)).bind (fun q => match q with | (u36, C35) => if isK u36 10 = true then some ((), uI C35 u36 80 ((cI C35 u36 80) + (1 : Int32))) else none) else none else none) else none else none) else some ((), C10))) else (f_218 n a0 a1 C10).bind (fun z => match z with | (_, C39) => (if a3 = 0 then some ((), C39) else (if (cI C39 a0 66) = 0 then (cP C39 a0 77).bind (fun r43 => if isK r43 12 = true then if amIn (cI C39 a0 80) (aLen r43) = true then (cP (uI C39 r43 (Int32.toNatClampNeg (cI C39 a0 80)) a1) a0 78).bind (fun r47 => if isK r47 12 = true then if amIn (cI (uI C39 r43 (Int32.toNatClampNeg (cI C39 a0 80)) a1) a0 80) (aLen r47) = true then (lp_219_55 n a0 (0 : Int32) (uI (uI C39 r43 (Int32.toNatClampNeg (cI C39 a0 80)) a1) r47 (Int32.toNatClampNeg (cI (uI C39 r43 (Int32.toNatClampNeg (cI C39 a0 80)) a1) a0 80)) a2)).bind (fun q => match q with | (u54, C53) => if isK u54 10 = true then some ((), uI C53 u54 80 ((cI C53 u54 80) + (1 : Int32))) else none) else none else none) else none else none) else some ((), C39)))))) else (if ¬ a3 = (3 : Int32) then (if ¬ a3 = 0 then (if a3 = 0 then some ((), C) else (if (cI C a0 66) = 0 then (cP C a0 77).bind (fun r60 => if isK r60 12 = true then if amIn (cI C a0 80) (aLen r60) = true then (cP (uI C r60 (Int32.toNatClampNeg (cI C a0 80)) a1) a0 78).bind (fun r64 => if isK r64 12 = true then if amIn (cI (uI C r60 (Int32.toNatClampNeg (cI C a0 80)) a1) a0 80) (aLen r64) = true then (lp_219_55 n a0 (0 : Int32) (uI (uI C r60 (Int32.toNatClampNeg (cI C a0 80)) a1) r64 (Int32.toNatClampNeg (cI (uI C r60 (Int32.toNatClampNeg (cI C a0 80)) a1) a0 80)) a2)).bind (fun q => match q with | (u71, C70) => if isK u71 10 = true then some ((), uI C70 u71 80 ((cI C70 u71 80) + (1 : Int32))) else none) else none else none) else none else none) else some ((), C))) else (f_218 n a0 a1 C).bind (fun z => match z with | (_, C74) => (if a3 = 0 then some ((), C74) else (if (cI C74 a0 66) = 0 then (cP C74 a0 77).bind (fun r78 => if isK r78 12 = true then if amIn (cI C74 a0 80) (aLen r78) = true then (cP (uI C74 r78 (Int32.toNatClampNeg (cI C74 a0 80)) a1) a0 78).bind (fun r82 => if isK r82 12 = true then if amIn (cI (uI C74 r78 (Int32.toNatClampNeg (cI C74 a0 80)) a1) a0 80) (aLen r82) = true then (lp_219_55 n a0 (0 : Int32) (uI (uI C74 r78 (Int32.toNatClampNeg (cI C74 a0 80)) a1) r82 (Int32.toNatClampNeg (cI (uI C74 r78 (Int32.toNatClampNeg (cI C74 a0 80)) a1) a0 80)) a2)).bind (fun q => match q with | (u89, C88) => if isK u89 10 = true then some ((), uI C88 u89 80 ((cI C88 u89 80) + (1 : Int32))) else none) else none else none) else none else none) else some ((), C74))))) else (f_217 n a0 a1 a2 C).bind (fun z => match z with | (_, C92) => (if ¬ a3 = 0 then (if a3 = 0 then some ((), C92) else (if (cI C92 a0 66) = 0 then (cP C92 a0 77).bind (fun r97 => if isK r97 12 = true then if amIn (cI C92 a0 80) (aLen r97) = true then (cP (uI C92 r97 (Int32.toNatClampNeg (cI C92 a0 80)) a1) a0 78).bind (fun r101 => if isK r101 12 = true then if amIn (cI (uI C92 r97 (Int32.toNatClampNeg (cI C92 a0 80)) a1) a0 80) (aLen r101) = true then (lp_219_55 n a0 (0 : Int32) (uI (uI C92 r97 (Int32.toNatClampNeg (cI C92 a0 80)) a1) r101 (Int32.toNatClampNeg (cI (uI C92 r97 (Int32.toNatClampNeg (cI C92 a0 80)) a1) a0 80)) a2)).bind (fun q => match q with | (u108, C107) => if isK u108 10 = true then some ((), uI C107 u108 80 ((cI C107 u108 80) + (1 : Int32))) else none) else none else none) else none else none) else some ((), C92))) else (f_218 n a0 a1 C92).bind (fun z => match z with | (_, C111) => (if a3 = 0 then some ((), C111) else (if (cI C111 a0 66) = 0 then (cP C111 a0 77).bind (fun r115 => if isK r115 12 = true then if amIn (cI C111 a0 80) (aLen r115) = true then (cP (uI C111 r115 (Int32.toNatClampNeg (cI C111 a0 80)) a1) a0 78).bind (fun r119 => if isK r119 12 = true then if amIn (cI (uI C111 r115 (Int32.toNatClampNeg (cI C111 a0 80)) a1) a0 80) (aLen r119) = true then (lp_219_55 n a0 (0 : Int32) (uI (uI C111 r115 (Int32.toNatClampNeg (cI C111 a0 80)) a1) r119 (Int32.toNatClampNeg (cI (uI C111 r115 (Int32.toNatClampNeg (cI C111 a0 80)) a1) a0 80)) a2)).bind (fun q => match q with | (u126, C125) => if isK u126 10 = true then some ((), uI C125 u126 80 ((cI C125 u126 80) + (1 : Int32))) else none) else none else none) else none else none) else some ((), C111)))))))) else (f_210 n a0 a1 C).bind (fun z => match z with | (q128, C129) => (if ¬ q128 = 0 then (if a3 = 0 then (f_217 n a0 a1 a2 C129).bind (fun z => match z with | (_, C134) => (if ¬ a3 = 0 then (if a3 = 0 then some ((), C134) else (if (cI C134 a0 66) = 0 then (cP C134 a0 77).bind (fun r139 => if isK r139 12 = true then if amIn (cI C134 a0 80) (aLen r139) = true then (cP (uI C134 r139 (Int32.toNatClampNeg (cI C134 a0 80)) a1) a0 78).bind (fun r143 => if isK r143 12 = true then if amIn (cI (uI C134 r139 (Int32.toNatClampNeg (cI C134 a0 80)) a1) a0 80) (aLen r143) = true then (lp_219_55 n a0 (0 : Int32) (uI (uI C134 r139 (Int32.toNatClampNeg (cI C134 a0 80)) a1) r143 (Int32.toNatClampNeg (cI (uI C134 r139 (Int32.toNatClampNeg (cI C134 a0 80)) a1) a0 80)) a2)).bind (fun q => match q with | (u150, C149) => if isK u150 10 = true then some ((), uI C149 u150 80 ((cI C149 u150 80) + (1 : Int32))) else none) else none else none) else none else none) else some ((), C134))) else (f_218 n a0 a1 C134).bind (fun z => match z with | (_, C153) => (if a3 = 0 then some ((), C153) else (if (cI C153 a0 66) = 0 then (cP C153 a0 77).bind (fun r157 => if isK r157 12 = true then if amIn (cI C153 a0 80) (aLen r157) = true then (cP (uI C153 r157 (Int32.toNatClampNeg (cI C153 a0 80)) a1) a0 78).bind (fun r161 => if isK r161 12 = true then if amIn (cI (uI C153 r157 (Int32.toNatClampNeg (cI C153 a0 80)) a1) a0 80) (aLen r161) = true then (lp_219_55 n a0 (0 : Int32) (uI (uI C153 r157 (Int32.toNatClampNeg (cI C153 a0 80)) a1) r161 (Int32.toNatClampNeg (cI (uI C153 r157 (Int32.toNatClampNeg (cI C153 a0 80)) a1) a0 80)) a2)).bind (fun q => match q with | (u168, C167) => if isK u168 10 = true then some ((), uI C167 u168 80 ((cI C167 u168 80) + (1 : Int32))) else none) else none else none) else none else none) else some ((), C153)))))) else (if ¬ a3 = (3 : Int32) then (if ¬ a3 = 0 then (if a3 = 0 then some ((), C129) else (if (cI C129 a0 66) = 0 then (cP C129 a0 77).bind (fun r174 => if isK r174 12 = true then if amIn (cI C129 a0 80) (aLen r174) = true then (cP (uI C129 r174 (Int32.toNatClampNeg (cI C129 a0 80)) a1) a0 78).bind (fun r178 => if isK r178 12 = true then if amIn (cI (uI C129 r174 (Int32.toNatClampNeg (cI C129 a0 80)) a1) a0 80) (aLen r178) = true then (lp_219_55 n a0 (0 : Int32) (uI (uI C129 r174 (Int32.toNatClampNeg (cI C129 a0 80)) a1) r178 (Int32.toNatClampNeg (cI (uI C129 r174 (Int32.toNatClampNeg (cI C129 a0 80)) a1) a0 80)) a2)).bind (fun q => match q with | (u185, C184) => if isK u185 10 = true then some ((), uI C184 u185 80 ((cI C184 u185 80) + (1 : Int32))) else none) else none else none) else none else none) else some ((), C129))) else (f_218 n a0 a1 C129).bind (fun z => match z with | (_, C188) => (if a3 = 0 then some ((), C188) else (if (cI C188 a0 66) = 0 then (cP C188 a0 77).bind (fun r192 => if isK r192 12 = true then if amIn (cI C188 a0 80) (aLen r192) = true then (cP (uI C188 r192 (Int32.toNatClampNeg (cI C188 a0 80)) a1) a0 78).bind (fun r196 => if isK r196 12 = true then if amIn (cI (uI C188 r192 (Int32.toNatClampNeg (cI C188 a0 80)) a1) a0 80) (aLen r196) = true then (lp_219_55 n a0 (0 : Int32) (uI (uI C188 r192 (Int32.toNatClampNeg (cI C188 a0 80)) a1) r196 (Int32.toNatClampNeg (cI (uI C188 r192 (Int32.toNatClampNeg (cI C188 a0 80)) a1) a0 80)) a2)).bind (fun q => match q with | (u203, C202) => if isK u203 10 = true then some ((), uI C202 u203 80 ((cI C202 u203 80) + (1 : Int32))) else none) else none else none) else none else none) else some ((), C188))))) else (f_217 n a0 a1 a2 C129).bind (fun z => match z with | (_, C206) => (if ¬ a3 = 0 then (if a3 = 0 then some ((), C206) else (if (cI C206 a0 66) = 0 then (cP C206 a0 77).bind (fun r211 => if isK r211 12 = true then if amIn (cI C206 a0 80) (aLen r211) = true then (cP (uI C206 r211 (Int32.toNatClampNeg (cI C206 a0 80)) a1) a0 78).bind (fun r215 => if isK r215 12 = true then if amIn (cI (uI C206 r211 (Int32.toNatClampNeg (cI C206 a0 80)) a1) a0 80) (aLen r215) = true then (lp_219_55 n a0 (0 : Int32) (uI (uI C206 r211 (Int32.toNatClampNeg (cI C206 a0 80)) a1) r215 (Int32.toNatClampNeg (cI (uI C206 r211 (Int32.toNatClampNeg (cI C206 a0 80)) a1) a0 80)) a2)).bind (fun q => match q with | (u222, C221) => if isK u222 10 = true then some ((), uI C221 u222 80 ((cI C221 u222 80) + (1 : Int32))) else none) else none else none) else none else none) else some ((), C206))) else (f_218 n a0 a1 C206).bind (fun z => match z with | (_, C225) => (if a3 = 0 then some ((), C225) else (if (cI C225 a0 66) = 0 then (cP C225 a0 77).bind (fun r229 => if isK r229 12 = true then if amIn (cI C225 a0 80) (aLen r229) = true then (cP (uI C225 r229 (Int32.toNatClampNeg (cI C225 a0 80)) a1) a0 78).bind (fun r233 => if isK r233 12 = true then if amIn (cI (uI C225 r229 (Int32.toNatClampNeg (cI C225 a0 80)) a1) a0 80) (aLen r233) = true then (lp_219_55 n a0 (0 : Int32) (uI (uI C225 r229 (Int32.toNatClampNeg (cI C225 a0 80)) a1) r233 (Int32.toNatClampNeg (cI (uI C225 r229 (Int32.toNatClampNeg (cI C225 a0 80)) a1) a0 80)) a2)).bind (fun q => match q with | (u240, C239) => if isK u240 10 = true then some ((), uI C239 u240 80 ((cI C239 u240 80) + (1 : Int32))) else none) else none else none) else none else none) else some ((), C225)))))))) else some ((), C129)))) else (if a3 = (1 : Int32) then (if a3 = 0 then (f_217 n a0 a1 a2 C).bind (fun z => match z with | (_, C245) => (if ¬ a3 = 0 then (if a3 = 0 then some ((), C245) else (if (cI C245 a0 66) = 0 then (cP C245 a0 77).bind (fun r250 => if isK r250 12 = true then if amIn (cI C245 a0 80) (aLen r250) = true then (cP (uI C245 r250 (Int32.toNatClampNeg (cI C245 a0 80)) a1) a0 78).bind (fun r254 => if isK r254 12 = true then if amIn (cI (uI C245 r250 (Int32.toNatClampNeg (cI C245 a0 80)) a1) a0 80) (aLen r254) = true then (lp_219_55 n a0 (0 : Int32) (uI (uI C245 r250 (Int32.toNatClampNeg (cI C245 a0 80)) a1) r254 (Int32.toNatClampNeg (cI (uI C245 r250 (Int32.toNatClampNeg (cI C245 a0 80)) a1) a0 80)) a2)).bind (fun q => match q with | (u261, C260) => if isK u261 10 = true then some ((), uI C260 u261 80 ((cI C260 u261 80) + (1 : Int32))) else none) else none else none) else none else none) else some ((), C245))) else (f_218 n a0 a1 C245).bind (fun z => match z with | (_, C264) => (if a3 = 0 then some ((), C264) else (if (cI C264 a0 66) = 0 then (cP C264 a0 77).bind (fun r268 => if isK r268 12 = true then if amIn (cI C264 a0 80) (aLen r268) = true then (cP (uI C264 r268 (Int32.toNatClampNeg (cI C264 a0 80)) a1) a0 78).bind (fun r272 => if isK r272 12 = true then if amIn (cI (uI C264 r268 (Int32.toNatClampNeg (cI C264 a0 80)) a1) a0 80) (aLen r272) = true then (lp_219_55 n a0 (0 : Int32) (uI (uI C264 r268 (Int32.toNatClampNeg (cI C264 a0 80)) a1) r272 (Int32.toNatClampNeg (cI (uI C264 r268 (Int32.toNatClampNeg (cI C264 a0 80)) a1) a0 80)) a2)).bind (fun q => match q with | (u279, C278) => if isK u279 10 = true then some ((), uI C278 u279 80 ((cI C278 u279 80) + (1 : Int32))) else none) else none else none) else none else none) else some ((), C264)))))) else (if ¬ a3 = (3 : Int32) then (if ¬ a3 = 0 then (if a3 = 0 then some ((), C) else (if (cI C a0 66) = 0 then (cP C a0 77).bind (fun r285 => if isK r285 12 = true then if amIn (cI C a0 80) (aLen r285) = true then (cP (uI C r285 (Int32.toNatClampNeg (cI C a0 80)) a1) a0 78).bind (fun r289 => if isK r289 12 = true then if amIn (cI (uI C r285 (Int32.toNatClampNeg (cI C a0 80)) a1) a0 80) (aLen r289) = true then (lp_219_55 n a0 (0 : Int32) (uI (uI C r285 (Int32.toNatClampNeg (cI C a0 80)) a1) r289 (Int32.toNatClampNeg (cI (uI C r285 (Int32.toNatClampNeg (cI C a0 80)) a1) a0 80)) a2)).bind (fun q => match q with | (u296, C295) => if isK u296 10 = true then some ((), uI C295 u296 80 ((cI C295 u296 80) + (1 : Int32))) else none) else none else none) else none else none) else some ((), C))) else (f_218 n a0 a1 C).bind (fun z => match z with | (_, C299) => (if a3 = 0 then some ((), C299) else (if (cI C299 a0 66) = 0 then (cP C299 a0 77).bind (fun r303 => if isK r303 12 = true then if amIn (cI C299 a0 80) (aLen r303) = true then (cP (uI C299 r303 (Int32.toNatClampNeg (cI C299 a0 80)) a1) a0 78).bind (fun r307 => if isK r307 12 = true then if amIn (cI (uI C299 r303 (Int32.toNatClampNeg (cI C299 a0 80)) a1) a0 80) (aLen r307) = true then (lp_219_55 n a0 (0 : Int32) (uI (uI C299 r303 (Int32.toNatClampNeg (cI C299 a0 80)) a1) r307 (Int32.toNatClampNeg (cI (uI C299 r303 (Int32.toNatClampNeg (cI C299 a0 80)) a1) a0 80)) a2)).bind (fun q => match q with | (u314, C313) => if isK u314 10 = true then some ((), uI C313 u314 80 ((cI C313 u314 80) + (1 : Int32))) else none) else none else none) else none else none) else some ((), C299))))) else (f_217 n a0 a1 a2 C).bind (fun z => match z with | (_, C317) => (if ¬ a3 = 0 then (if a3 = 0 then some ((), C317) else (if (cI C317 a0 66) = 0 then (cP C317 a0 77).bind (fun r322 => if isK r322 12 = true then if amIn (cI C317 a0 80) (aLen r322) = true then (cP (uI C317 r322 (Int32.toNatClampNeg (cI C317 a0 80)) a1) a0 78).bind (fun r326 => if isK r326 12 = true then if amIn (cI (uI C317 r322 (Int32.toNatClampNeg (cI C317 a0 80)) a1) a0 80) (aLen r326) = true then (lp_219_55 n a0 (0 : Int32) (uI (uI C317 r322 (Int32.toNatClampNeg (cI C317 a0 80)) a1) r326 (Int32.toNatClampNeg (cI (uI C317 r322 (Int32.toNatClampNeg (cI C317 a0 80)) a1) a0 80)) a2)).bind (fun q => match q with | (u333, C332) => if isK u333 10 = true then some ((), uI C332 u333 80 ((cI C332 u333 80) + (1 : Int32))) else none) else none else none) else none else none) else some ((), C317))) else (f_218 n a0 a1 C317).bind (fun z => match z with | (_, C336) => (if a3 = 0 then some ((), C336) else (if (cI C336 a0 66) = 0 then (cP C336 a0 77).bind (fun r340 => if isK r340 12 = true then if amIn (cI C336 a0 80) (aLen r340) = true then (cP (uI C336 r340 (Int32.toNatClampNeg (cI C336 a0 80)) a1) a0 78).bind (fun r344 => if isK r344 12 = true then if amIn (cI (uI C336 r340 (Int32.toNatClampNeg (cI C336 a0 80)) a1) a0 80) (aLen r344) = true then (lp_219_55 n a0 (0 : Int32) (uI (uI C336 r340 (Int32.toNatClampNeg (cI C336 a0 80)) a1) r344 (Int32.toNatClampNeg (cI (uI C336 r340 (Int32.toNatClampNeg (cI C336 a0 80)) a1) a0 80)) a2)).bind (fun q => match q with | (u351, C350) => if isK u351 10 = true then some ((), uI C350 u351 80 ((cI C350 u351 80) + (1 : Int32))) else none) else none else none) else none else none) else some ((), C336)))))))) else (if a3 = 0 then (f_217 n a0 a1 a2 C).bind (fun z => match z with | (_, C355) => (if ¬ a3 = 0 then (if a3 = 0 then some ((), C355) else (if (cI C355 a0 66) = 0 then (cP C355 a0 77).bind (fun r360 => if isK r360 12 = true then if amIn (cI C355 a0 80) (aLen r360) = true then (cP (uI C355 r360 (Int32.toNatClampNeg (cI C355 a0 80)) a1) a0 78).bind (fun r364 => if isK r364 12 = true then if amIn (cI (uI C355 r360 (Int32.toNatClampNeg (cI C355 a0 80)) a1) a0 80) (aLen r364) = true then (lp_219_55 n a0 (0 : Int32) (uI (uI C355 r360 (Int32.toNatClampNeg (cI C355 a0 80)) a1) r364 (Int32.toNatClampNeg (cI (uI C355 r360 (Int32.toNatClampNeg (cI C355 a0 80)) a1) a0 80)) a2)).bind (fun q => match q with | (u371, C370) => if isK u371 10 = true then some ((), uI C370 u371 80 ((cI C370 u371 80) + (1 : Int32))) else none) else none else none) else none else none) else some ((), C355))) else (f_218 n a0 a1 C355).bind (fun z => match z with | (_, C374) => (if a3 = 0 then some ((), C374) else (if (cI C374 a0 66) = 0 then (cP C374 a0 77).bind (fun r378 => if isK r378 12 = true then if amIn (cI C374 a0 80) (aLen r378) = true then (cP (uI C374 r378 (Int32.toNatClampNeg (cI C374 a0 80)) a1) a0 78).bind (fun r382 => if isK r382 12 = true then if amIn (cI (uI C374 r378 (Int32.toNatClampNeg (cI C374 a0 80)) a1) a0 80) (aLen r382) = true then (lp_219_55 n a0 (0 : Int32) (uI (uI C374 r378 (Int32.toNatClampNeg (cI C374 a0 80)) a1) r382 (Int32.toNatClampNeg (cI (uI C374 r378 (Int32.toNatClampNeg (cI C374 a0 80)) a1) a0 80)) a2)).bind (fun q => match q with | (u389, C388) => if isK u389 10 = true then some ((), uI C388 u389 80 ((cI C388 u389 80) + (1 : Int32))) else none) else none else none) else none else none) else some ((), C374)))))) else (if ¬ a3 = (3 : Int32) then (if ¬ a3 = 0 then (if a3 = 0 then some ((), C) else (if (cI C a0 66) = 0 then (cP C a0 77).bind (fun r395 => if isK r395 12 = true then if amIn (cI C a0 80) (aLen r395) = true then (cP (uI C r395 (Int32.toNatClampNeg (cI C a0 80)) a1) a0 78).bind (fun r399 => if isK r399 12 = true then if amIn (cI (uI C r395 (Int32.toNatClampNeg (cI C a0 80)) a1) a0 80) (aLen r399) = true then (lp_219_55 n a0 (0 : Int32) (uI (uI C r395 (Int32.toNatClampNeg (cI C a0 80)) a1) r399 (Int32.toNatClampNeg (cI (uI C r395 (Int32.toNatClampNeg (cI C a0 80)) a1) a0 80)) a2)).bind (fun q => match q with | (u406, C405) => if isK u406 10 = true then some ((), uI C405 u406 80 ((cI C405 u406 80) + (1 : Int32))) else none) else none else none) else none else none) else some ((), C))) else (f_218 n a0 a1 C).bind (fun z => match z with | (_, C409) => (if a3 = 0 then some ((), C409) else (if (cI C409 a0 66) = 0 then (cP C409 a0 77).bind (fun r413 => if isK r413 12 = true then if amIn (cI C409 a0 80) (aLen r413) = true then (cP (uI C409 r413 (Int32.toNatClampNeg (cI C409 a0 80)) a1) a0 78).bind (fun r417 => if isK r417 12 = true then if amIn (cI (uI C409 r413 (Int32.toNatClampNeg (cI C409 a0 80)) a1) a0 80) (aLen r417) = true then (lp_219_55 n a0 (0 : Int32) (uI (uI C409 r413 (Int32.toNatClampNeg (cI C409 a0 80)) a1) r417 (Int32.toNatClampNeg (cI (uI C409 r413 (Int32.toNatClampNeg (cI C409 a0 80)) a1) a0 80)) a2)).bind (fun q => match q with | (u424, C423) => if isK u424 10 = true then some ((), uI C423 u424 80 ((cI C423 u424 80) + (1 : Int32))) else none) else none else none) else none else none) else some ((), C409))))) else (f_217 n a0 a1 a2 C).bind (fun z => match z with | (_, C427) => (if ¬ a3 = 0 then (if a3 = 0 then some ((), C427) else (if (cI C427 a0 66) = 0 then (cP C427 a0 77).bind (fun r432 => if isK r432 12 = true then if amIn (cI C427 a0 80) (aLen r432) = true then (cP (uI C427 r432 (Int32.toNatClampNeg (cI C427 a0 80)) a1) a0 78).bind (fun r436 => if isK r436 12 = true then if amIn (cI (uI C427 r432 (Int32.toNatClampNeg (cI C427 a0 80)) a1) a0 80) (aLen r436) = true then (lp_219_55 n a0 (0 : Int32) (uI (uI C427 r432 (Int32.toNatClampNeg (cI C427 a0 80)) a1) r436 (Int32.toNatClampNeg (cI (uI C427 r432 (Int32.toNatClampNeg (cI C427 a0 80)) a1) a0 80)) a2)).bind (fun q => match q with | (u443, C442) => if isK u443 10 = true then some ((), uI C442 u443 80 ((cI C442 u443 80) + (1 : Int32))) else none) else none else none) else none else none) else some ((), C427))) else (f_218 n a0 a1 C427).bind (fun z => match z with | (_, C446) => (if a3 = 0 then some ((), C446) else (if (cI C446 a0 66) = 0 then (cP C446 a0 77).bind (fun r450 => if isK r450 12 = true then if amIn (cI C446 a0 80) (aLen r450) = true then (cP (uI C446 r450 (Int32.toNatClampNeg (cI C446 a0 80)) a1) a0 78).bind (fun r454 => if isK r454 12 = true then if amIn (cI (uI C446 r450 (Int32.toNatClampNeg (cI C446 a0 80)) a1) a0 80) (aLen r454) = true then (lp_219_55 n a0 (0 : Int32) (uI (uI C446 r450 (Int32.toNatClampNeg (cI C446 a0 80)) a1) r454 (Int32.toNatClampNeg (cI (uI C446 r450 (Int32.toNatClampNeg (cI C446 a0 80)) a1) a0 80)) a2)).bind (fun q => match q with | (u461, C460) => if isK u461 10 = true then some ((), uI C460 u461 80 ((cI C460 u461 80) + (1 : Int32))) else none) else none else none) else none else none) else some ((), C446)))))))))) else none else none) else none
set_option maxRecDepth 20000 in
set_option maxHeartbeats 4000000 in
theorem t_219 {n : Nat} {a0 : Nat} {a1 : Int32} {a2 : Int32} {a3 : Int32} {C : AmC} {r : Unit} {C' : AmC} (h : f_219 n a0 a1 a2 a3 C = some (r, C')) : En false 219 0 [(0, .ref a0), (1, .int a1), (2, .int a2), (3, .int a3)] [] (mkM C) (.inl none) (mkM C') := by
  unfold f_219 at h
  refine en_aload rfl rfl ?_
  obtain ⟨g1, h⟩ := gd h
  obtain ⟨r2, e3, h⟩ := gb h
  refine ec_getP (ci := 10) (j := 32) ⟨rfl, rfl, rfl⟩ g1 e3 rfl ?_
  refine en_aload rfl rfl ?_
  refine ec_getI (ci := 10) (j := 59) ⟨rfl, rfl, rfl⟩ g1 rfl ?_
  obtain ⟨g4, h⟩ := gd h
  obtain ⟨g5, h⟩ := gd h
  refine ec_iaload g4 g5 rfl ?_
  refine ec_iconst cst_3 rfl ?_
  rcases gi h with ⟨c6, h⟩ | ⟨c6, h⟩
  · refine en_icmp_ne_t c6 rfl ?_
    refine ec_iconst cst_0 rfl ?_
    refine en_istore (l' := [(4, .int (0 : Int32)), (0, .ref a0), (1, .int a1), (2, .int a2), (3, .int a3)]) rfl rfl ?_
    refine en_iload rfl rfl ?_
    refine ec_iconst cst_1 rfl ?_
    rcases gi h with ⟨c7, h⟩ | ⟨c7, h⟩
    · refine en_icmp_eq_t c7 rfl ?_
      refine en_iload rfl rfl ?_
      rcases gi h with ⟨c8, h⟩ | ⟨c8, h⟩
      · refine en_if_eq_t c8 rfl ?_
        refine en_aload rfl rfl ?_
        refine en_iload rfl rfl ?_
        refine en_iload rfl rfl ?_
        obtain ⟨⟨q9, C10⟩, e11, h⟩ := gb h
        dsimp only at h
        refine ec_callV0 (k' := 217) (n := 3) (rc := 10) (a := a0) (as := [.int a1, .int a2]) ⟨rfl, rfl⟩ rfl rfl (Nat.le_of_ble_eq_true rfl) (Nat.le_of_ble_eq_true rfl) (Nat.le_of_ble_eq_true rfl) g1 rfl (t_217 e11) ?_
        refine en_iload rfl rfl ?_
        rcases gi h with ⟨c12, h⟩ | ⟨c12, h⟩
        · refine en_if_ne_t c12 rfl ?_
          refine en_iload rfl rfl ?_
          rcases gi h with ⟨c13, h⟩ | ⟨c13, h⟩
          · refine en_if_eq_t c13 rfl ?_
            cases h
            exact en_vret rfl
          · refine en_if_eq_f c13 rfl ?_
            refine en_aload rfl rfl ?_
            refine ec_getI (ci := 10) (j := 66) ⟨rfl, rfl, rfl⟩ g1 rfl ?_
            rcases gi h with ⟨c14, h⟩ | ⟨c14, h⟩
            · refine en_if_eq_t c14 rfl ?_
              refine en_aload rfl rfl ?_
              obtain ⟨r15, e16, h⟩ := gb h
              refine ec_getP (ci := 10) (j := 77) ⟨rfl, rfl, rfl⟩ g1 e16 rfl ?_
              refine en_aload rfl rfl ?_
              refine ec_getI (ci := 10) (j := 80) ⟨rfl, rfl, rfl⟩ g1 rfl ?_
              refine en_iload rfl rfl ?_
              obtain ⟨g17, h⟩ := gd h
              obtain ⟨g18, h⟩ := gd h
              refine ec_iastore g17 g18 rfl ?_
              refine en_aload rfl rfl ?_
              obtain ⟨r19, e20, h⟩ := gb h
              refine ec_getP (ci := 10) (j := 78) ⟨rfl, rfl, rfl⟩ g1 e20 rfl ?_
              refine en_aload rfl rfl ?_
              refine ec_getI (ci := 10) (j := 80) ⟨rfl, rfl, rfl⟩ g1 rfl ?_
              refine en_iload rfl rfl ?_
              obtain ⟨g21, h⟩ := gd h
              obtain ⟨g22, h⟩ := gd h
              refine ec_iastore g21 g22 rfl ?_
              refine ec_iconst cst_0 rfl ?_
              refine en_istore (l' := [(5, .int (0 : Int32)), (4, .int (0 : Int32)), (0, .ref a0), (1, .int a1), (2, .int a2), (3, .int a3)]) rfl rfl ?_
              obtain ⟨⟨q33, C35⟩, e34, h⟩ := gb h
              refine en_sub [2, 0] rfl rfl (lt_219_55 n _ _ _ _ e34 _ _ ?_)
              revert h e34; revert q33; intro u36 e34 h
              dsimp only at h ⊢
              refine en_aload rfl rfl ?_
              refine en_dup rfl rfl ?_
              obtain ⟨g37, h⟩ := gd h
              refine ec_getI (ci := 10) (j := 80) ⟨rfl, rfl, rfl⟩ g37 rfl ?_
              refine ec_iconst cst_1 rfl ?_
              refine en_iadd rfl ?_
              refine ec_putI (ci := 10) (j := 80) ⟨rfl, rfl, rfl⟩ g37 rfl ?_
              cases h
              exact en_vret rfl
            · refine en_if_eq_f c14 rfl ?_
              cases h
              exact en_vret rfl
        · refine en_if_ne_f c12 rfl ?_
          refine en_aload rfl rfl ?_
          refine en_iload rfl rfl ?_
          obtain ⟨⟨q38, C39⟩, e40, h⟩ := gb h
          dsimp only at h
          refine ec_callV0 (k' := 218) (n := 2) (rc := 10) (a := a0) (as := [.int a1]) ⟨rfl, rfl⟩ rfl rfl (Nat.le_of_ble_eq_true rfl) (Nat.le_of_ble_eq_true rfl) (Nat.le_of_ble_eq_true rfl) g1 rfl (t_218 e40) ?_
          refine en_iload rfl rfl ?_
          rcases gi h with ⟨c41, h⟩ | ⟨c41, h⟩
          · refine en_if_eq_t c41 rfl ?_
            cases h
            exact en_vret rfl
          · refine en_if_eq_f c41 rfl ?_
            refine en_aload rfl rfl ?_
            refine ec_getI (ci := 10) (j := 66) ⟨rfl, rfl, rfl⟩ g1 rfl ?_
            rcases gi h with ⟨c42, h⟩ | ⟨c42, h⟩
            · refine en_if_eq_t c42 rfl ?_
              refine en_aload rfl rfl ?_
              obtain ⟨r43, e44, h⟩ := gb h
              refine ec_getP (ci := 10) (j := 77) ⟨rfl, rfl, rfl⟩ g1 e44 rfl ?_
              refine en_aload rfl rfl ?_
              refine ec_getI (ci := 10) (j := 80) ⟨rfl, rfl, rfl⟩ g1 rfl ?_
              refine en_iload rfl rfl ?_
              obtain ⟨g45, h⟩ := gd h
              obtain ⟨g46, h⟩ := gd h
              refine ec_iastore g45 g46 rfl ?_
              refine en_aload rfl rfl ?_
              obtain ⟨r47, e48, h⟩ := gb h
              refine ec_getP (ci := 10) (j := 78) ⟨rfl, rfl, rfl⟩ g1 e48 rfl ?_
              refine en_aload rfl rfl ?_
              refine ec_getI (ci := 10) (j := 80) ⟨rfl, rfl, rfl⟩ g1 rfl ?_
              refine en_iload rfl rfl ?_
              obtain ⟨g49, h⟩ := gd h
              obtain ⟨g50, h⟩ := gd h
              refine ec_iastore g49 g50 rfl ?_
              refine ec_iconst cst_0 rfl ?_
              refine en_istore (l' := [(5, .int (0 : Int32)), (4, .int (0 : Int32)), (0, .ref a0), (1, .int a1), (2, .int a2), (3, .int a3)]) rfl rfl ?_
              obtain ⟨⟨q51, C53⟩, e52, h⟩ := gb h
              refine en_sub [2, 0] rfl rfl (lt_219_55 n _ _ _ _ e52 _ _ ?_)
              revert h e52; revert q51; intro u54 e52 h
              dsimp only at h ⊢
              refine en_aload rfl rfl ?_
              refine en_dup rfl rfl ?_
              obtain ⟨g55, h⟩ := gd h
              refine ec_getI (ci := 10) (j := 80) ⟨rfl, rfl, rfl⟩ g55 rfl ?_
              refine ec_iconst cst_1 rfl ?_
              refine en_iadd rfl ?_
              refine ec_putI (ci := 10) (j := 80) ⟨rfl, rfl, rfl⟩ g55 rfl ?_
              cases h
              exact en_vret rfl
            · refine en_if_eq_f c42 rfl ?_
              cases h
              exact en_vret rfl
      · refine en_if_eq_f c8 rfl ?_
        refine en_iload rfl rfl ?_
        refine ec_iconst cst_3 rfl ?_
        rcases gi h with ⟨c56, h⟩ | ⟨c56, h⟩
        · refine en_icmp_ne_t c56 rfl ?_
          refine en_iload rfl rfl ?_
          rcases gi h with ⟨c57, h⟩ | ⟨c57, h⟩
          · refine en_if_ne_t c57 rfl ?_
            refine en_iload rfl rfl ?_
            rcases gi h with ⟨c58, h⟩ | ⟨c58, h⟩
            · refine en_if_eq_t c58 rfl ?_
              cases h
              exact en_vret rfl
            · refine en_if_eq_f c58 rfl ?_
              refine en_aload rfl rfl ?_
              refine ec_getI (ci := 10) (j := 66) ⟨rfl, rfl, rfl⟩ g1 rfl ?_
              rcases gi h with ⟨c59, h⟩ | ⟨c59, h⟩
              · refine en_if_eq_t c59 rfl ?_
                refine en_aload rfl rfl ?_
                obtain ⟨r60, e61, h⟩ := gb h
                refine ec_getP (ci := 10) (j := 77) ⟨rfl, rfl, rfl⟩ g1 e61 rfl ?_
                refine en_aload rfl rfl ?_
                refine ec_getI (ci := 10) (j := 80) ⟨rfl, rfl, rfl⟩ g1 rfl ?_
                refine en_iload rfl rfl ?_
                obtain ⟨g62, h⟩ := gd h
                obtain ⟨g63, h⟩ := gd h
                refine ec_iastore g62 g63 rfl ?_
                refine en_aload rfl rfl ?_
                obtain ⟨r64, e65, h⟩ := gb h
                refine ec_getP (ci := 10) (j := 78) ⟨rfl, rfl, rfl⟩ g1 e65 rfl ?_
                refine en_aload rfl rfl ?_
                refine ec_getI (ci := 10) (j := 80) ⟨rfl, rfl, rfl⟩ g1 rfl ?_
                refine en_iload rfl rfl ?_
                obtain ⟨g66, h⟩ := gd h
                obtain ⟨g67, h⟩ := gd h
                refine ec_iastore g66 g67 rfl ?_
                refine ec_iconst cst_0 rfl ?_
                refine en_istore (l' := [(5, .int (0 : Int32)), (4, .int (0 : Int32)), (0, .ref a0), (1, .int a1), (2, .int a2), (3, .int a3)]) rfl rfl ?_
                obtain ⟨⟨q68, C70⟩, e69, h⟩ := gb h
                refine en_sub [2, 0] rfl rfl (lt_219_55 n _ _ _ _ e69 _ _ ?_)
                revert h e69; revert q68; intro u71 e69 h
                dsimp only at h ⊢
                refine en_aload rfl rfl ?_
                refine en_dup rfl rfl ?_
                obtain ⟨g72, h⟩ := gd h
                refine ec_getI (ci := 10) (j := 80) ⟨rfl, rfl, rfl⟩ g72 rfl ?_
                refine ec_iconst cst_1 rfl ?_
                refine en_iadd rfl ?_
                refine ec_putI (ci := 10) (j := 80) ⟨rfl, rfl, rfl⟩ g72 rfl ?_
                cases h
                exact en_vret rfl
              · refine en_if_eq_f c59 rfl ?_
                cases h
                exact en_vret rfl
          · refine en_if_ne_f c57 rfl ?_
            refine en_aload rfl rfl ?_
            refine en_iload rfl rfl ?_
            obtain ⟨⟨q73, C74⟩, e75, h⟩ := gb h
            dsimp only at h
            refine ec_callV0 (k' := 218) (n := 2) (rc := 10) (a := a0) (as := [.int a1]) ⟨rfl, rfl⟩ rfl rfl (Nat.le_of_ble_eq_true rfl) (Nat.le_of_ble_eq_true rfl) (Nat.le_of_ble_eq_true rfl) g1 rfl (t_218 e75) ?_
            refine en_iload rfl rfl ?_
            rcases gi h with ⟨c76, h⟩ | ⟨c76, h⟩
            · refine en_if_eq_t c76 rfl ?_
              cases h
              exact en_vret rfl
            · refine en_if_eq_f c76 rfl ?_
              refine en_aload rfl rfl ?_
              refine ec_getI (ci := 10) (j := 66) ⟨rfl, rfl, rfl⟩ g1 rfl ?_
              rcases gi h with ⟨c77, h⟩ | ⟨c77, h⟩
              · refine en_if_eq_t c77 rfl ?_
                refine en_aload rfl rfl ?_
                obtain ⟨r78, e79, h⟩ := gb h
                refine ec_getP (ci := 10) (j := 77) ⟨rfl, rfl, rfl⟩ g1 e79 rfl ?_
                refine en_aload rfl rfl ?_
                refine ec_getI (ci := 10) (j := 80) ⟨rfl, rfl, rfl⟩ g1 rfl ?_
                refine en_iload rfl rfl ?_
                obtain ⟨g80, h⟩ := gd h
                obtain ⟨g81, h⟩ := gd h
                refine ec_iastore g80 g81 rfl ?_
                refine en_aload rfl rfl ?_
                obtain ⟨r82, e83, h⟩ := gb h
                refine ec_getP (ci := 10) (j := 78) ⟨rfl, rfl, rfl⟩ g1 e83 rfl ?_
                refine en_aload rfl rfl ?_
                refine ec_getI (ci := 10) (j := 80) ⟨rfl, rfl, rfl⟩ g1 rfl ?_
                refine en_iload rfl rfl ?_
                obtain ⟨g84, h⟩ := gd h
                obtain ⟨g85, h⟩ := gd h
                refine ec_iastore g84 g85 rfl ?_
                refine ec_iconst cst_0 rfl ?_
                refine en_istore (l' := [(5, .int (0 : Int32)), (4, .int (0 : Int32)), (0, .ref a0), (1, .int a1), (2, .int a2), (3, .int a3)]) rfl rfl ?_
                obtain ⟨⟨q86, C88⟩, e87, h⟩ := gb h
                refine en_sub [2, 0] rfl rfl (lt_219_55 n _ _ _ _ e87 _ _ ?_)
                revert h e87; revert q86; intro u89 e87 h
                dsimp only at h ⊢
                refine en_aload rfl rfl ?_
                refine en_dup rfl rfl ?_
                obtain ⟨g90, h⟩ := gd h
                refine ec_getI (ci := 10) (j := 80) ⟨rfl, rfl, rfl⟩ g90 rfl ?_
                refine ec_iconst cst_1 rfl ?_
                refine en_iadd rfl ?_
                refine ec_putI (ci := 10) (j := 80) ⟨rfl, rfl, rfl⟩ g90 rfl ?_
                cases h
                exact en_vret rfl
              · refine en_if_eq_f c77 rfl ?_
                cases h
                exact en_vret rfl
        · refine en_icmp_ne_f c56 rfl ?_
          refine en_aload rfl rfl ?_
          refine en_iload rfl rfl ?_
          refine en_iload rfl rfl ?_
          obtain ⟨⟨q91, C92⟩, e93, h⟩ := gb h
          dsimp only at h
          refine ec_callV0 (k' := 217) (n := 3) (rc := 10) (a := a0) (as := [.int a1, .int a2]) ⟨rfl, rfl⟩ rfl rfl (Nat.le_of_ble_eq_true rfl) (Nat.le_of_ble_eq_true rfl) (Nat.le_of_ble_eq_true rfl) g1 rfl (t_217 e93) ?_
          refine en_iload rfl rfl ?_
          rcases gi h with ⟨c94, h⟩ | ⟨c94, h⟩
          · refine en_if_ne_t c94 rfl ?_
            refine en_iload rfl rfl ?_
            rcases gi h with ⟨c95, h⟩ | ⟨c95, h⟩
            · refine en_if_eq_t c95 rfl ?_
              cases h
              exact en_vret rfl
            · refine en_if_eq_f c95 rfl ?_
              refine en_aload rfl rfl ?_
              refine ec_getI (ci := 10) (j := 66) ⟨rfl, rfl, rfl⟩ g1 rfl ?_
              rcases gi h with ⟨c96, h⟩ | ⟨c96, h⟩
              · refine en_if_eq_t c96 rfl ?_
                refine en_aload rfl rfl ?_
                obtain ⟨r97, e98, h⟩ := gb h
                refine ec_getP (ci := 10) (j := 77) ⟨rfl, rfl, rfl⟩ g1 e98 rfl ?_
                refine en_aload rfl rfl ?_
                refine ec_getI (ci := 10) (j := 80) ⟨rfl, rfl, rfl⟩ g1 rfl ?_
                refine en_iload rfl rfl ?_
                obtain ⟨g99, h⟩ := gd h
                obtain ⟨g100, h⟩ := gd h
                refine ec_iastore g99 g100 rfl ?_
                refine en_aload rfl rfl ?_
                obtain ⟨r101, e102, h⟩ := gb h
                refine ec_getP (ci := 10) (j := 78) ⟨rfl, rfl, rfl⟩ g1 e102 rfl ?_
                refine en_aload rfl rfl ?_
                refine ec_getI (ci := 10) (j := 80) ⟨rfl, rfl, rfl⟩ g1 rfl ?_
                refine en_iload rfl rfl ?_
                obtain ⟨g103, h⟩ := gd h
                obtain ⟨g104, h⟩ := gd h
                refine ec_iastore g103 g104 rfl ?_
                refine ec_iconst cst_0 rfl ?_
                refine en_istore (l' := [(5, .int (0 : Int32)), (4, .int (0 : Int32)), (0, .ref a0), (1, .int a1), (2, .int a2), (3, .int a3)]) rfl rfl ?_
                obtain ⟨⟨q105, C107⟩, e106, h⟩ := gb h
                refine en_sub [2, 0] rfl rfl (lt_219_55 n _ _ _ _ e106 _ _ ?_)
                revert h e106; revert q105; intro u108 e106 h
                dsimp only at h ⊢
                refine en_aload rfl rfl ?_
                refine en_dup rfl rfl ?_
                obtain ⟨g109, h⟩ := gd h
                refine ec_getI (ci := 10) (j := 80) ⟨rfl, rfl, rfl⟩ g109 rfl ?_
                refine ec_iconst cst_1 rfl ?_
                refine en_iadd rfl ?_
                refine ec_putI (ci := 10) (j := 80) ⟨rfl, rfl, rfl⟩ g109 rfl ?_
                cases h
                exact en_vret rfl
              · refine en_if_eq_f c96 rfl ?_
                cases h
                exact en_vret rfl
          · refine en_if_ne_f c94 rfl ?_
            refine en_aload rfl rfl ?_
            refine en_iload rfl rfl ?_
            obtain ⟨⟨q110, C111⟩, e112, h⟩ := gb h
            dsimp only at h
            refine ec_callV0 (k' := 218) (n := 2) (rc := 10) (a := a0) (as := [.int a1]) ⟨rfl, rfl⟩ rfl rfl (Nat.le_of_ble_eq_true rfl) (Nat.le_of_ble_eq_true rfl) (Nat.le_of_ble_eq_true rfl) g1 rfl (t_218 e112) ?_
            refine en_iload rfl rfl ?_
            rcases gi h with ⟨c113, h⟩ | ⟨c113, h⟩
            · refine en_if_eq_t c113 rfl ?_
              cases h
              exact en_vret rfl
            · refine en_if_eq_f c113 rfl ?_
              refine en_aload rfl rfl ?_
              refine ec_getI (ci := 10) (j := 66) ⟨rfl, rfl, rfl⟩ g1 rfl ?_
              rcases gi h with ⟨c114, h⟩ | ⟨c114, h⟩
              · refine en_if_eq_t c114 rfl ?_
                refine en_aload rfl rfl ?_
                obtain ⟨r115, e116, h⟩ := gb h
                refine ec_getP (ci := 10) (j := 77) ⟨rfl, rfl, rfl⟩ g1 e116 rfl ?_
                refine en_aload rfl rfl ?_
                refine ec_getI (ci := 10) (j := 80) ⟨rfl, rfl, rfl⟩ g1 rfl ?_
                refine en_iload rfl rfl ?_
                obtain ⟨g117, h⟩ := gd h
                obtain ⟨g118, h⟩ := gd h
                refine ec_iastore g117 g118 rfl ?_
                refine en_aload rfl rfl ?_
                obtain ⟨r119, e120, h⟩ := gb h
                refine ec_getP (ci := 10) (j := 78) ⟨rfl, rfl, rfl⟩ g1 e120 rfl ?_
                refine en_aload rfl rfl ?_
                refine ec_getI (ci := 10) (j := 80) ⟨rfl, rfl, rfl⟩ g1 rfl ?_
                refine en_iload rfl rfl ?_
                obtain ⟨g121, h⟩ := gd h
                obtain ⟨g122, h⟩ := gd h
                refine ec_iastore g121 g122 rfl ?_
                refine ec_iconst cst_0 rfl ?_
                refine en_istore (l' := [(5, .int (0 : Int32)), (4, .int (0 : Int32)), (0, .ref a0), (1, .int a1), (2, .int a2), (3, .int a3)]) rfl rfl ?_
                obtain ⟨⟨q123, C125⟩, e124, h⟩ := gb h
                refine en_sub [2, 0] rfl rfl (lt_219_55 n _ _ _ _ e124 _ _ ?_)
                revert h e124; revert q123; intro u126 e124 h
                dsimp only at h ⊢
                refine en_aload rfl rfl ?_
                refine en_dup rfl rfl ?_
                obtain ⟨g127, h⟩ := gd h
                refine ec_getI (ci := 10) (j := 80) ⟨rfl, rfl, rfl⟩ g127 rfl ?_
                refine ec_iconst cst_1 rfl ?_
                refine en_iadd rfl ?_
                refine ec_putI (ci := 10) (j := 80) ⟨rfl, rfl, rfl⟩ g127 rfl ?_
                cases h
                exact en_vret rfl
              · refine en_if_eq_f c114 rfl ?_
                cases h
                exact en_vret rfl
    · refine en_icmp_eq_f c7 rfl ?_
      refine en_iload rfl rfl ?_
      refine en_if_ne_f (by decide) rfl ?_
      refine en_aload rfl rfl ?_
      refine en_iload rfl rfl ?_
      obtain ⟨⟨q128, C129⟩, e130, h⟩ := gb h
      dsimp only at h
      refine ec_callV1 (k' := 210) (n := 2) (rc := 10) (a := a0) (as := [.int a1]) ⟨rfl, rfl⟩ rfl rfl (Nat.le_of_ble_eq_true rfl) (Nat.le_of_ble_eq_true rfl) (Nat.le_of_ble_eq_true rfl) g1 rfl (t_210 e130) ?_
      rcases gi h with ⟨c131, h⟩ | ⟨c131, h⟩
      · refine en_if_ne_t c131 rfl ?_
        refine en_iload rfl rfl ?_
        rcases gi h with ⟨c132, h⟩ | ⟨c132, h⟩
        · refine en_if_eq_t c132 rfl ?_
          refine en_aload rfl rfl ?_
          refine en_iload rfl rfl ?_
          refine en_iload rfl rfl ?_
          obtain ⟨⟨q133, C134⟩, e135, h⟩ := gb h
          dsimp only at h
          refine ec_callV0 (k' := 217) (n := 3) (rc := 10) (a := a0) (as := [.int a1, .int a2]) ⟨rfl, rfl⟩ rfl rfl (Nat.le_of_ble_eq_true rfl) (Nat.le_of_ble_eq_true rfl) (Nat.le_of_ble_eq_true rfl) g1 rfl (t_217 e135) ?_
          refine en_iload rfl rfl ?_
          rcases gi h with ⟨c136, h⟩ | ⟨c136, h⟩
          · refine en_if_ne_t c136 rfl ?_
            refine en_iload rfl rfl ?_
            rcases gi h with ⟨c137, h⟩ | ⟨c137, h⟩
            · refine en_if_eq_t c137 rfl ?_
              cases h
              exact en_vret rfl
            · refine en_if_eq_f c137 rfl ?_
              refine en_aload rfl rfl ?_
              refine ec_getI (ci := 10) (j := 66) ⟨rfl, rfl, rfl⟩ g1 rfl ?_
              rcases gi h with ⟨c138, h⟩ | ⟨c138, h⟩
              · refine en_if_eq_t c138 rfl ?_
                refine en_aload rfl rfl ?_
                obtain ⟨r139, e140, h⟩ := gb h
                refine ec_getP (ci := 10) (j := 77) ⟨rfl, rfl, rfl⟩ g1 e140 rfl ?_
                refine en_aload rfl rfl ?_
                refine ec_getI (ci := 10) (j := 80) ⟨rfl, rfl, rfl⟩ g1 rfl ?_
                refine en_iload rfl rfl ?_
                obtain ⟨g141, h⟩ := gd h
                obtain ⟨g142, h⟩ := gd h
                refine ec_iastore g141 g142 rfl ?_
                refine en_aload rfl rfl ?_
                obtain ⟨r143, e144, h⟩ := gb h
                refine ec_getP (ci := 10) (j := 78) ⟨rfl, rfl, rfl⟩ g1 e144 rfl ?_
                refine en_aload rfl rfl ?_
                refine ec_getI (ci := 10) (j := 80) ⟨rfl, rfl, rfl⟩ g1 rfl ?_
                refine en_iload rfl rfl ?_
                obtain ⟨g145, h⟩ := gd h
                obtain ⟨g146, h⟩ := gd h
                refine ec_iastore g145 g146 rfl ?_
                refine ec_iconst cst_0 rfl ?_
                refine en_istore (l' := [(5, .int (0 : Int32)), (4, .int (0 : Int32)), (0, .ref a0), (1, .int a1), (2, .int a2), (3, .int a3)]) rfl rfl ?_
                obtain ⟨⟨q147, C149⟩, e148, h⟩ := gb h
                refine en_sub [2, 0] rfl rfl (lt_219_55 n _ _ _ _ e148 _ _ ?_)
                revert h e148; revert q147; intro u150 e148 h
                dsimp only at h ⊢
                refine en_aload rfl rfl ?_
                refine en_dup rfl rfl ?_
                obtain ⟨g151, h⟩ := gd h
                refine ec_getI (ci := 10) (j := 80) ⟨rfl, rfl, rfl⟩ g151 rfl ?_
                refine ec_iconst cst_1 rfl ?_
                refine en_iadd rfl ?_
                refine ec_putI (ci := 10) (j := 80) ⟨rfl, rfl, rfl⟩ g151 rfl ?_
                cases h
                exact en_vret rfl
              · refine en_if_eq_f c138 rfl ?_
                cases h
                exact en_vret rfl
          · refine en_if_ne_f c136 rfl ?_
            refine en_aload rfl rfl ?_
            refine en_iload rfl rfl ?_
            obtain ⟨⟨q152, C153⟩, e154, h⟩ := gb h
            dsimp only at h
            refine ec_callV0 (k' := 218) (n := 2) (rc := 10) (a := a0) (as := [.int a1]) ⟨rfl, rfl⟩ rfl rfl (Nat.le_of_ble_eq_true rfl) (Nat.le_of_ble_eq_true rfl) (Nat.le_of_ble_eq_true rfl) g1 rfl (t_218 e154) ?_
            refine en_iload rfl rfl ?_
            rcases gi h with ⟨c155, h⟩ | ⟨c155, h⟩
            · refine en_if_eq_t c155 rfl ?_
              cases h
              exact en_vret rfl
            · refine en_if_eq_f c155 rfl ?_
              refine en_aload rfl rfl ?_
              refine ec_getI (ci := 10) (j := 66) ⟨rfl, rfl, rfl⟩ g1 rfl ?_
              rcases gi h with ⟨c156, h⟩ | ⟨c156, h⟩
              · refine en_if_eq_t c156 rfl ?_
                refine en_aload rfl rfl ?_
                obtain ⟨r157, e158, h⟩ := gb h
                refine ec_getP (ci := 10) (j := 77) ⟨rfl, rfl, rfl⟩ g1 e158 rfl ?_
                refine en_aload rfl rfl ?_
                refine ec_getI (ci := 10) (j := 80) ⟨rfl, rfl, rfl⟩ g1 rfl ?_
                refine en_iload rfl rfl ?_
                obtain ⟨g159, h⟩ := gd h
                obtain ⟨g160, h⟩ := gd h
                refine ec_iastore g159 g160 rfl ?_
                refine en_aload rfl rfl ?_
                obtain ⟨r161, e162, h⟩ := gb h
                refine ec_getP (ci := 10) (j := 78) ⟨rfl, rfl, rfl⟩ g1 e162 rfl ?_
                refine en_aload rfl rfl ?_
                refine ec_getI (ci := 10) (j := 80) ⟨rfl, rfl, rfl⟩ g1 rfl ?_
                refine en_iload rfl rfl ?_
                obtain ⟨g163, h⟩ := gd h
                obtain ⟨g164, h⟩ := gd h
                refine ec_iastore g163 g164 rfl ?_
                refine ec_iconst cst_0 rfl ?_
                refine en_istore (l' := [(5, .int (0 : Int32)), (4, .int (0 : Int32)), (0, .ref a0), (1, .int a1), (2, .int a2), (3, .int a3)]) rfl rfl ?_
                obtain ⟨⟨q165, C167⟩, e166, h⟩ := gb h
                refine en_sub [2, 0] rfl rfl (lt_219_55 n _ _ _ _ e166 _ _ ?_)
                revert h e166; revert q165; intro u168 e166 h
                dsimp only at h ⊢
                refine en_aload rfl rfl ?_
                refine en_dup rfl rfl ?_
                obtain ⟨g169, h⟩ := gd h
                refine ec_getI (ci := 10) (j := 80) ⟨rfl, rfl, rfl⟩ g169 rfl ?_
                refine ec_iconst cst_1 rfl ?_
                refine en_iadd rfl ?_
                refine ec_putI (ci := 10) (j := 80) ⟨rfl, rfl, rfl⟩ g169 rfl ?_
                cases h
                exact en_vret rfl
              · refine en_if_eq_f c156 rfl ?_
                cases h
                exact en_vret rfl
        · refine en_if_eq_f c132 rfl ?_
          refine en_iload rfl rfl ?_
          refine ec_iconst cst_3 rfl ?_
          rcases gi h with ⟨c170, h⟩ | ⟨c170, h⟩
          · refine en_icmp_ne_t c170 rfl ?_
            refine en_iload rfl rfl ?_
            rcases gi h with ⟨c171, h⟩ | ⟨c171, h⟩
            · refine en_if_ne_t c171 rfl ?_
              refine en_iload rfl rfl ?_
              rcases gi h with ⟨c172, h⟩ | ⟨c172, h⟩
              · refine en_if_eq_t c172 rfl ?_
                cases h
                exact en_vret rfl
              · refine en_if_eq_f c172 rfl ?_
                refine en_aload rfl rfl ?_
                refine ec_getI (ci := 10) (j := 66) ⟨rfl, rfl, rfl⟩ g1 rfl ?_
                rcases gi h with ⟨c173, h⟩ | ⟨c173, h⟩
                · refine en_if_eq_t c173 rfl ?_
                  refine en_aload rfl rfl ?_
                  obtain ⟨r174, e175, h⟩ := gb h
                  refine ec_getP (ci := 10) (j := 77) ⟨rfl, rfl, rfl⟩ g1 e175 rfl ?_
                  refine en_aload rfl rfl ?_
                  refine ec_getI (ci := 10) (j := 80) ⟨rfl, rfl, rfl⟩ g1 rfl ?_
                  refine en_iload rfl rfl ?_
                  obtain ⟨g176, h⟩ := gd h
                  obtain ⟨g177, h⟩ := gd h
                  refine ec_iastore g176 g177 rfl ?_
                  refine en_aload rfl rfl ?_
                  obtain ⟨r178, e179, h⟩ := gb h
                  refine ec_getP (ci := 10) (j := 78) ⟨rfl, rfl, rfl⟩ g1 e179 rfl ?_
                  refine en_aload rfl rfl ?_
                  refine ec_getI (ci := 10) (j := 80) ⟨rfl, rfl, rfl⟩ g1 rfl ?_
                  refine en_iload rfl rfl ?_
                  obtain ⟨g180, h⟩ := gd h
                  obtain ⟨g181, h⟩ := gd h
                  refine ec_iastore g180 g181 rfl ?_
                  refine ec_iconst cst_0 rfl ?_
                  refine en_istore (l' := [(5, .int (0 : Int32)), (4, .int (0 : Int32)), (0, .ref a0), (1, .int a1), (2, .int a2), (3, .int a3)]) rfl rfl ?_
                  obtain ⟨⟨q182, C184⟩, e183, h⟩ := gb h
                  refine en_sub [2, 0] rfl rfl (lt_219_55 n _ _ _ _ e183 _ _ ?_)
                  revert h e183; revert q182; intro u185 e183 h
                  dsimp only at h ⊢
                  refine en_aload rfl rfl ?_
                  refine en_dup rfl rfl ?_
                  obtain ⟨g186, h⟩ := gd h
                  refine ec_getI (ci := 10) (j := 80) ⟨rfl, rfl, rfl⟩ g186 rfl ?_
                  refine ec_iconst cst_1 rfl ?_
                  refine en_iadd rfl ?_
                  refine ec_putI (ci := 10) (j := 80) ⟨rfl, rfl, rfl⟩ g186 rfl ?_
                  cases h
                  exact en_vret rfl
                · refine en_if_eq_f c173 rfl ?_
                  cases h
                  exact en_vret rfl
            · refine en_if_ne_f c171 rfl ?_
              refine en_aload rfl rfl ?_
              refine en_iload rfl rfl ?_
              obtain ⟨⟨q187, C188⟩, e189, h⟩ := gb h
              dsimp only at h
              refine ec_callV0 (k' := 218) (n := 2) (rc := 10) (a := a0) (as := [.int a1]) ⟨rfl, rfl⟩ rfl rfl (Nat.le_of_ble_eq_true rfl) (Nat.le_of_ble_eq_true rfl) (Nat.le_of_ble_eq_true rfl) g1 rfl (t_218 e189) ?_
              refine en_iload rfl rfl ?_
              rcases gi h with ⟨c190, h⟩ | ⟨c190, h⟩
              · refine en_if_eq_t c190 rfl ?_
                cases h
                exact en_vret rfl
              · refine en_if_eq_f c190 rfl ?_
                refine en_aload rfl rfl ?_
                refine ec_getI (ci := 10) (j := 66) ⟨rfl, rfl, rfl⟩ g1 rfl ?_
                rcases gi h with ⟨c191, h⟩ | ⟨c191, h⟩
                · refine en_if_eq_t c191 rfl ?_
                  refine en_aload rfl rfl ?_
                  obtain ⟨r192, e193, h⟩ := gb h
                  refine ec_getP (ci := 10) (j := 77) ⟨rfl, rfl, rfl⟩ g1 e193 rfl ?_
                  refine en_aload rfl rfl ?_
                  refine ec_getI (ci := 10) (j := 80) ⟨rfl, rfl, rfl⟩ g1 rfl ?_
                  refine en_iload rfl rfl ?_
                  obtain ⟨g194, h⟩ := gd h
                  obtain ⟨g195, h⟩ := gd h
                  refine ec_iastore g194 g195 rfl ?_
                  refine en_aload rfl rfl ?_
                  obtain ⟨r196, e197, h⟩ := gb h
                  refine ec_getP (ci := 10) (j := 78) ⟨rfl, rfl, rfl⟩ g1 e197 rfl ?_
                  refine en_aload rfl rfl ?_
                  refine ec_getI (ci := 10) (j := 80) ⟨rfl, rfl, rfl⟩ g1 rfl ?_
                  refine en_iload rfl rfl ?_
                  obtain ⟨g198, h⟩ := gd h
                  obtain ⟨g199, h⟩ := gd h
                  refine ec_iastore g198 g199 rfl ?_
                  refine ec_iconst cst_0 rfl ?_
                  refine en_istore (l' := [(5, .int (0 : Int32)), (4, .int (0 : Int32)), (0, .ref a0), (1, .int a1), (2, .int a2), (3, .int a3)]) rfl rfl ?_
                  obtain ⟨⟨q200, C202⟩, e201, h⟩ := gb h
                  refine en_sub [2, 0] rfl rfl (lt_219_55 n _ _ _ _ e201 _ _ ?_)
                  revert h e201; revert q200; intro u203 e201 h
                  dsimp only at h ⊢
                  refine en_aload rfl rfl ?_
                  refine en_dup rfl rfl ?_
                  obtain ⟨g204, h⟩ := gd h
                  refine ec_getI (ci := 10) (j := 80) ⟨rfl, rfl, rfl⟩ g204 rfl ?_
                  refine ec_iconst cst_1 rfl ?_
                  refine en_iadd rfl ?_
                  refine ec_putI (ci := 10) (j := 80) ⟨rfl, rfl, rfl⟩ g204 rfl ?_
                  cases h
                  exact en_vret rfl
                · refine en_if_eq_f c191 rfl ?_
                  cases h
                  exact en_vret rfl
          · refine en_icmp_ne_f c170 rfl ?_
            refine en_aload rfl rfl ?_
            refine en_iload rfl rfl ?_
            refine en_iload rfl rfl ?_
            obtain ⟨⟨q205, C206⟩, e207, h⟩ := gb h
            dsimp only at h
            refine ec_callV0 (k' := 217) (n := 3) (rc := 10) (a := a0) (as := [.int a1, .int a2]) ⟨rfl, rfl⟩ rfl rfl (Nat.le_of_ble_eq_true rfl) (Nat.le_of_ble_eq_true rfl) (Nat.le_of_ble_eq_true rfl) g1 rfl (t_217 e207) ?_
            refine en_iload rfl rfl ?_
            rcases gi h with ⟨c208, h⟩ | ⟨c208, h⟩
            · refine en_if_ne_t c208 rfl ?_
              refine en_iload rfl rfl ?_
              rcases gi h with ⟨c209, h⟩ | ⟨c209, h⟩
              · refine en_if_eq_t c209 rfl ?_
                cases h
                exact en_vret rfl
              · refine en_if_eq_f c209 rfl ?_
                refine en_aload rfl rfl ?_
                refine ec_getI (ci := 10) (j := 66) ⟨rfl, rfl, rfl⟩ g1 rfl ?_
                rcases gi h with ⟨c210, h⟩ | ⟨c210, h⟩
                · refine en_if_eq_t c210 rfl ?_
                  refine en_aload rfl rfl ?_
                  obtain ⟨r211, e212, h⟩ := gb h
                  refine ec_getP (ci := 10) (j := 77) ⟨rfl, rfl, rfl⟩ g1 e212 rfl ?_
                  refine en_aload rfl rfl ?_
                  refine ec_getI (ci := 10) (j := 80) ⟨rfl, rfl, rfl⟩ g1 rfl ?_
                  refine en_iload rfl rfl ?_
                  obtain ⟨g213, h⟩ := gd h
                  obtain ⟨g214, h⟩ := gd h
                  refine ec_iastore g213 g214 rfl ?_
                  refine en_aload rfl rfl ?_
                  obtain ⟨r215, e216, h⟩ := gb h
                  refine ec_getP (ci := 10) (j := 78) ⟨rfl, rfl, rfl⟩ g1 e216 rfl ?_
                  refine en_aload rfl rfl ?_
                  refine ec_getI (ci := 10) (j := 80) ⟨rfl, rfl, rfl⟩ g1 rfl ?_
                  refine en_iload rfl rfl ?_
                  obtain ⟨g217, h⟩ := gd h
                  obtain ⟨g218, h⟩ := gd h
                  refine ec_iastore g217 g218 rfl ?_
                  refine ec_iconst cst_0 rfl ?_
                  refine en_istore (l' := [(5, .int (0 : Int32)), (4, .int (0 : Int32)), (0, .ref a0), (1, .int a1), (2, .int a2), (3, .int a3)]) rfl rfl ?_
                  obtain ⟨⟨q219, C221⟩, e220, h⟩ := gb h
                  refine en_sub [2, 0] rfl rfl (lt_219_55 n _ _ _ _ e220 _ _ ?_)
                  revert h e220; revert q219; intro u222 e220 h
                  dsimp only at h ⊢
                  refine en_aload rfl rfl ?_
                  refine en_dup rfl rfl ?_
                  obtain ⟨g223, h⟩ := gd h
                  refine ec_getI (ci := 10) (j := 80) ⟨rfl, rfl, rfl⟩ g223 rfl ?_
                  refine ec_iconst cst_1 rfl ?_
                  refine en_iadd rfl ?_
                  refine ec_putI (ci := 10) (j := 80) ⟨rfl, rfl, rfl⟩ g223 rfl ?_
                  cases h
                  exact en_vret rfl
                · refine en_if_eq_f c210 rfl ?_
                  cases h
                  exact en_vret rfl
            · refine en_if_ne_f c208 rfl ?_
              refine en_aload rfl rfl ?_
              refine en_iload rfl rfl ?_
              obtain ⟨⟨q224, C225⟩, e226, h⟩ := gb h
              dsimp only at h
              refine ec_callV0 (k' := 218) (n := 2) (rc := 10) (a := a0) (as := [.int a1]) ⟨rfl, rfl⟩ rfl rfl (Nat.le_of_ble_eq_true rfl) (Nat.le_of_ble_eq_true rfl) (Nat.le_of_ble_eq_true rfl) g1 rfl (t_218 e226) ?_
              refine en_iload rfl rfl ?_
              rcases gi h with ⟨c227, h⟩ | ⟨c227, h⟩
              · refine en_if_eq_t c227 rfl ?_
                cases h
                exact en_vret rfl
              · refine en_if_eq_f c227 rfl ?_
                refine en_aload rfl rfl ?_
                refine ec_getI (ci := 10) (j := 66) ⟨rfl, rfl, rfl⟩ g1 rfl ?_
                rcases gi h with ⟨c228, h⟩ | ⟨c228, h⟩
                · refine en_if_eq_t c228 rfl ?_
                  refine en_aload rfl rfl ?_
                  obtain ⟨r229, e230, h⟩ := gb h
                  refine ec_getP (ci := 10) (j := 77) ⟨rfl, rfl, rfl⟩ g1 e230 rfl ?_
                  refine en_aload rfl rfl ?_
                  refine ec_getI (ci := 10) (j := 80) ⟨rfl, rfl, rfl⟩ g1 rfl ?_
                  refine en_iload rfl rfl ?_
                  obtain ⟨g231, h⟩ := gd h
                  obtain ⟨g232, h⟩ := gd h
                  refine ec_iastore g231 g232 rfl ?_
                  refine en_aload rfl rfl ?_
                  obtain ⟨r233, e234, h⟩ := gb h
                  refine ec_getP (ci := 10) (j := 78) ⟨rfl, rfl, rfl⟩ g1 e234 rfl ?_
                  refine en_aload rfl rfl ?_
                  refine ec_getI (ci := 10) (j := 80) ⟨rfl, rfl, rfl⟩ g1 rfl ?_
                  refine en_iload rfl rfl ?_
                  obtain ⟨g235, h⟩ := gd h
                  obtain ⟨g236, h⟩ := gd h
                  refine ec_iastore g235 g236 rfl ?_
                  refine ec_iconst cst_0 rfl ?_
                  refine en_istore (l' := [(5, .int (0 : Int32)), (4, .int (0 : Int32)), (0, .ref a0), (1, .int a1), (2, .int a2), (3, .int a3)]) rfl rfl ?_
                  obtain ⟨⟨q237, C239⟩, e238, h⟩ := gb h
                  refine en_sub [2, 0] rfl rfl (lt_219_55 n _ _ _ _ e238 _ _ ?_)
                  revert h e238; revert q237; intro u240 e238 h
                  dsimp only at h ⊢
                  refine en_aload rfl rfl ?_
                  refine en_dup rfl rfl ?_
                  obtain ⟨g241, h⟩ := gd h
                  refine ec_getI (ci := 10) (j := 80) ⟨rfl, rfl, rfl⟩ g241 rfl ?_
                  refine ec_iconst cst_1 rfl ?_
                  refine en_iadd rfl ?_
                  refine ec_putI (ci := 10) (j := 80) ⟨rfl, rfl, rfl⟩ g241 rfl ?_
                  cases h
                  exact en_vret rfl
                · refine en_if_eq_f c228 rfl ?_
                  cases h
                  exact en_vret rfl
      · refine en_if_ne_f c131 rfl ?_
        cases h
        exact en_vret rfl
  · refine en_icmp_ne_f c6 rfl ?_
    refine ec_iconst cst_1 rfl ?_
    refine en_goto rfl ?_
    refine en_istore (l' := [(4, .int (1 : Int32)), (0, .ref a0), (1, .int a1), (2, .int a2), (3, .int a3)]) rfl rfl ?_
    refine en_iload rfl rfl ?_
    refine ec_iconst cst_1 rfl ?_
    rcases gi h with ⟨c242, h⟩ | ⟨c242, h⟩
    · refine en_icmp_eq_t c242 rfl ?_
      refine en_iload rfl rfl ?_
      rcases gi h with ⟨c243, h⟩ | ⟨c243, h⟩
      · refine en_if_eq_t c243 rfl ?_
        refine en_aload rfl rfl ?_
        refine en_iload rfl rfl ?_
        refine en_iload rfl rfl ?_
        obtain ⟨⟨q244, C245⟩, e246, h⟩ := gb h
        dsimp only at h
        refine ec_callV0 (k' := 217) (n := 3) (rc := 10) (a := a0) (as := [.int a1, .int a2]) ⟨rfl, rfl⟩ rfl rfl (Nat.le_of_ble_eq_true rfl) (Nat.le_of_ble_eq_true rfl) (Nat.le_of_ble_eq_true rfl) g1 rfl (t_217 e246) ?_
        refine en_iload rfl rfl ?_
        rcases gi h with ⟨c247, h⟩ | ⟨c247, h⟩
        · refine en_if_ne_t c247 rfl ?_
          refine en_iload rfl rfl ?_
          rcases gi h with ⟨c248, h⟩ | ⟨c248, h⟩
          · refine en_if_eq_t c248 rfl ?_
            cases h
            exact en_vret rfl
          · refine en_if_eq_f c248 rfl ?_
            refine en_aload rfl rfl ?_
            refine ec_getI (ci := 10) (j := 66) ⟨rfl, rfl, rfl⟩ g1 rfl ?_
            rcases gi h with ⟨c249, h⟩ | ⟨c249, h⟩
            · refine en_if_eq_t c249 rfl ?_
              refine en_aload rfl rfl ?_
              obtain ⟨r250, e251, h⟩ := gb h
              refine ec_getP (ci := 10) (j := 77) ⟨rfl, rfl, rfl⟩ g1 e251 rfl ?_
              refine en_aload rfl rfl ?_
              refine ec_getI (ci := 10) (j := 80) ⟨rfl, rfl, rfl⟩ g1 rfl ?_
              refine en_iload rfl rfl ?_
              obtain ⟨g252, h⟩ := gd h
              obtain ⟨g253, h⟩ := gd h
              refine ec_iastore g252 g253 rfl ?_
              refine en_aload rfl rfl ?_
              obtain ⟨r254, e255, h⟩ := gb h
              refine ec_getP (ci := 10) (j := 78) ⟨rfl, rfl, rfl⟩ g1 e255 rfl ?_
              refine en_aload rfl rfl ?_
              refine ec_getI (ci := 10) (j := 80) ⟨rfl, rfl, rfl⟩ g1 rfl ?_
              refine en_iload rfl rfl ?_
              obtain ⟨g256, h⟩ := gd h
              obtain ⟨g257, h⟩ := gd h
              refine ec_iastore g256 g257 rfl ?_
              refine ec_iconst cst_0 rfl ?_
              refine en_istore (l' := [(5, .int (0 : Int32)), (4, .int (1 : Int32)), (0, .ref a0), (1, .int a1), (2, .int a2), (3, .int a3)]) rfl rfl ?_
              obtain ⟨⟨q258, C260⟩, e259, h⟩ := gb h
              refine en_sub [2, 0] rfl rfl (lt_219_55 n _ _ _ _ e259 _ _ ?_)
              revert h e259; revert q258; intro u261 e259 h
              dsimp only at h ⊢
              refine en_aload rfl rfl ?_
              refine en_dup rfl rfl ?_
              obtain ⟨g262, h⟩ := gd h
              refine ec_getI (ci := 10) (j := 80) ⟨rfl, rfl, rfl⟩ g262 rfl ?_
              refine ec_iconst cst_1 rfl ?_
              refine en_iadd rfl ?_
              refine ec_putI (ci := 10) (j := 80) ⟨rfl, rfl, rfl⟩ g262 rfl ?_
              cases h
              exact en_vret rfl
            · refine en_if_eq_f c249 rfl ?_
              cases h
              exact en_vret rfl
        · refine en_if_ne_f c247 rfl ?_
          refine en_aload rfl rfl ?_
          refine en_iload rfl rfl ?_
          obtain ⟨⟨q263, C264⟩, e265, h⟩ := gb h
          dsimp only at h
          refine ec_callV0 (k' := 218) (n := 2) (rc := 10) (a := a0) (as := [.int a1]) ⟨rfl, rfl⟩ rfl rfl (Nat.le_of_ble_eq_true rfl) (Nat.le_of_ble_eq_true rfl) (Nat.le_of_ble_eq_true rfl) g1 rfl (t_218 e265) ?_
          refine en_iload rfl rfl ?_
          rcases gi h with ⟨c266, h⟩ | ⟨c266, h⟩
          · refine en_if_eq_t c266 rfl ?_
            cases h
            exact en_vret rfl
          · refine en_if_eq_f c266 rfl ?_
            refine en_aload rfl rfl ?_
            refine ec_getI (ci := 10) (j := 66) ⟨rfl, rfl, rfl⟩ g1 rfl ?_
            rcases gi h with ⟨c267, h⟩ | ⟨c267, h⟩
            · refine en_if_eq_t c267 rfl ?_
              refine en_aload rfl rfl ?_
              obtain ⟨r268, e269, h⟩ := gb h
              refine ec_getP (ci := 10) (j := 77) ⟨rfl, rfl, rfl⟩ g1 e269 rfl ?_
              refine en_aload rfl rfl ?_
              refine ec_getI (ci := 10) (j := 80) ⟨rfl, rfl, rfl⟩ g1 rfl ?_
              refine en_iload rfl rfl ?_
              obtain ⟨g270, h⟩ := gd h
              obtain ⟨g271, h⟩ := gd h
              refine ec_iastore g270 g271 rfl ?_
              refine en_aload rfl rfl ?_
              obtain ⟨r272, e273, h⟩ := gb h
              refine ec_getP (ci := 10) (j := 78) ⟨rfl, rfl, rfl⟩ g1 e273 rfl ?_
              refine en_aload rfl rfl ?_
              refine ec_getI (ci := 10) (j := 80) ⟨rfl, rfl, rfl⟩ g1 rfl ?_
              refine en_iload rfl rfl ?_
              obtain ⟨g274, h⟩ := gd h
              obtain ⟨g275, h⟩ := gd h
              refine ec_iastore g274 g275 rfl ?_
              refine ec_iconst cst_0 rfl ?_
              refine en_istore (l' := [(5, .int (0 : Int32)), (4, .int (1 : Int32)), (0, .ref a0), (1, .int a1), (2, .int a2), (3, .int a3)]) rfl rfl ?_
              obtain ⟨⟨q276, C278⟩, e277, h⟩ := gb h
              refine en_sub [2, 0] rfl rfl (lt_219_55 n _ _ _ _ e277 _ _ ?_)
              revert h e277; revert q276; intro u279 e277 h
              dsimp only at h ⊢
              refine en_aload rfl rfl ?_
              refine en_dup rfl rfl ?_
              obtain ⟨g280, h⟩ := gd h
              refine ec_getI (ci := 10) (j := 80) ⟨rfl, rfl, rfl⟩ g280 rfl ?_
              refine ec_iconst cst_1 rfl ?_
              refine en_iadd rfl ?_
              refine ec_putI (ci := 10) (j := 80) ⟨rfl, rfl, rfl⟩ g280 rfl ?_
              cases h
              exact en_vret rfl
            · refine en_if_eq_f c267 rfl ?_
              cases h
              exact en_vret rfl
      · refine en_if_eq_f c243 rfl ?_
        refine en_iload rfl rfl ?_
        refine ec_iconst cst_3 rfl ?_
        rcases gi h with ⟨c281, h⟩ | ⟨c281, h⟩
        · refine en_icmp_ne_t c281 rfl ?_
          refine en_iload rfl rfl ?_
          rcases gi h with ⟨c282, h⟩ | ⟨c282, h⟩
          · refine en_if_ne_t c282 rfl ?_
            refine en_iload rfl rfl ?_
            rcases gi h with ⟨c283, h⟩ | ⟨c283, h⟩
            · refine en_if_eq_t c283 rfl ?_
              cases h
              exact en_vret rfl
            · refine en_if_eq_f c283 rfl ?_
              refine en_aload rfl rfl ?_
              refine ec_getI (ci := 10) (j := 66) ⟨rfl, rfl, rfl⟩ g1 rfl ?_
              rcases gi h with ⟨c284, h⟩ | ⟨c284, h⟩
              · refine en_if_eq_t c284 rfl ?_
                refine en_aload rfl rfl ?_
                obtain ⟨r285, e286, h⟩ := gb h
                refine ec_getP (ci := 10) (j := 77) ⟨rfl, rfl, rfl⟩ g1 e286 rfl ?_
                refine en_aload rfl rfl ?_
                refine ec_getI (ci := 10) (j := 80) ⟨rfl, rfl, rfl⟩ g1 rfl ?_
                refine en_iload rfl rfl ?_
                obtain ⟨g287, h⟩ := gd h
                obtain ⟨g288, h⟩ := gd h
                refine ec_iastore g287 g288 rfl ?_
                refine en_aload rfl rfl ?_
                obtain ⟨r289, e290, h⟩ := gb h
                refine ec_getP (ci := 10) (j := 78) ⟨rfl, rfl, rfl⟩ g1 e290 rfl ?_
                refine en_aload rfl rfl ?_
                refine ec_getI (ci := 10) (j := 80) ⟨rfl, rfl, rfl⟩ g1 rfl ?_
                refine en_iload rfl rfl ?_
                obtain ⟨g291, h⟩ := gd h
                obtain ⟨g292, h⟩ := gd h
                refine ec_iastore g291 g292 rfl ?_
                refine ec_iconst cst_0 rfl ?_
                refine en_istore (l' := [(5, .int (0 : Int32)), (4, .int (1 : Int32)), (0, .ref a0), (1, .int a1), (2, .int a2), (3, .int a3)]) rfl rfl ?_
                obtain ⟨⟨q293, C295⟩, e294, h⟩ := gb h
                refine en_sub [2, 0] rfl rfl (lt_219_55 n _ _ _ _ e294 _ _ ?_)
                revert h e294; revert q293; intro u296 e294 h
                dsimp only at h ⊢
                refine en_aload rfl rfl ?_
                refine en_dup rfl rfl ?_
                obtain ⟨g297, h⟩ := gd h
                refine ec_getI (ci := 10) (j := 80) ⟨rfl, rfl, rfl⟩ g297 rfl ?_
                refine ec_iconst cst_1 rfl ?_
                refine en_iadd rfl ?_
                refine ec_putI (ci := 10) (j := 80) ⟨rfl, rfl, rfl⟩ g297 rfl ?_
                cases h
                exact en_vret rfl
              · refine en_if_eq_f c284 rfl ?_
                cases h
                exact en_vret rfl
          · refine en_if_ne_f c282 rfl ?_
            refine en_aload rfl rfl ?_
            refine en_iload rfl rfl ?_
            obtain ⟨⟨q298, C299⟩, e300, h⟩ := gb h
            dsimp only at h
            refine ec_callV0 (k' := 218) (n := 2) (rc := 10) (a := a0) (as := [.int a1]) ⟨rfl, rfl⟩ rfl rfl (Nat.le_of_ble_eq_true rfl) (Nat.le_of_ble_eq_true rfl) (Nat.le_of_ble_eq_true rfl) g1 rfl (t_218 e300) ?_
            refine en_iload rfl rfl ?_
            rcases gi h with ⟨c301, h⟩ | ⟨c301, h⟩
            · refine en_if_eq_t c301 rfl ?_
              cases h
              exact en_vret rfl
            · refine en_if_eq_f c301 rfl ?_
              refine en_aload rfl rfl ?_
              refine ec_getI (ci := 10) (j := 66) ⟨rfl, rfl, rfl⟩ g1 rfl ?_
              rcases gi h with ⟨c302, h⟩ | ⟨c302, h⟩
              · refine en_if_eq_t c302 rfl ?_
                refine en_aload rfl rfl ?_
                obtain ⟨r303, e304, h⟩ := gb h
                refine ec_getP (ci := 10) (j := 77) ⟨rfl, rfl, rfl⟩ g1 e304 rfl ?_
                refine en_aload rfl rfl ?_
                refine ec_getI (ci := 10) (j := 80) ⟨rfl, rfl, rfl⟩ g1 rfl ?_
                refine en_iload rfl rfl ?_
                obtain ⟨g305, h⟩ := gd h
                obtain ⟨g306, h⟩ := gd h
                refine ec_iastore g305 g306 rfl ?_
                refine en_aload rfl rfl ?_
                obtain ⟨r307, e308, h⟩ := gb h
                refine ec_getP (ci := 10) (j := 78) ⟨rfl, rfl, rfl⟩ g1 e308 rfl ?_
                refine en_aload rfl rfl ?_
                refine ec_getI (ci := 10) (j := 80) ⟨rfl, rfl, rfl⟩ g1 rfl ?_
                refine en_iload rfl rfl ?_
                obtain ⟨g309, h⟩ := gd h
                obtain ⟨g310, h⟩ := gd h
                refine ec_iastore g309 g310 rfl ?_
                refine ec_iconst cst_0 rfl ?_
                refine en_istore (l' := [(5, .int (0 : Int32)), (4, .int (1 : Int32)), (0, .ref a0), (1, .int a1), (2, .int a2), (3, .int a3)]) rfl rfl ?_
                obtain ⟨⟨q311, C313⟩, e312, h⟩ := gb h
                refine en_sub [2, 0] rfl rfl (lt_219_55 n _ _ _ _ e312 _ _ ?_)
                revert h e312; revert q311; intro u314 e312 h
                dsimp only at h ⊢
                refine en_aload rfl rfl ?_
                refine en_dup rfl rfl ?_
                obtain ⟨g315, h⟩ := gd h
                refine ec_getI (ci := 10) (j := 80) ⟨rfl, rfl, rfl⟩ g315 rfl ?_
                refine ec_iconst cst_1 rfl ?_
                refine en_iadd rfl ?_
                refine ec_putI (ci := 10) (j := 80) ⟨rfl, rfl, rfl⟩ g315 rfl ?_
                cases h
                exact en_vret rfl
              · refine en_if_eq_f c302 rfl ?_
                cases h
                exact en_vret rfl
        · refine en_icmp_ne_f c281 rfl ?_
          refine en_aload rfl rfl ?_
          refine en_iload rfl rfl ?_
          refine en_iload rfl rfl ?_
          obtain ⟨⟨q316, C317⟩, e318, h⟩ := gb h
          dsimp only at h
          refine ec_callV0 (k' := 217) (n := 3) (rc := 10) (a := a0) (as := [.int a1, .int a2]) ⟨rfl, rfl⟩ rfl rfl (Nat.le_of_ble_eq_true rfl) (Nat.le_of_ble_eq_true rfl) (Nat.le_of_ble_eq_true rfl) g1 rfl (t_217 e318) ?_
          refine en_iload rfl rfl ?_
          rcases gi h with ⟨c319, h⟩ | ⟨c319, h⟩
          · refine en_if_ne_t c319 rfl ?_
            refine en_iload rfl rfl ?_
            rcases gi h with ⟨c320, h⟩ | ⟨c320, h⟩
            · refine en_if_eq_t c320 rfl ?_
              cases h
              exact en_vret rfl
            · refine en_if_eq_f c320 rfl ?_
              refine en_aload rfl rfl ?_
              refine ec_getI (ci := 10) (j := 66) ⟨rfl, rfl, rfl⟩ g1 rfl ?_
              rcases gi h with ⟨c321, h⟩ | ⟨c321, h⟩
              · refine en_if_eq_t c321 rfl ?_
                refine en_aload rfl rfl ?_
                obtain ⟨r322, e323, h⟩ := gb h
                refine ec_getP (ci := 10) (j := 77) ⟨rfl, rfl, rfl⟩ g1 e323 rfl ?_
                refine en_aload rfl rfl ?_
                refine ec_getI (ci := 10) (j := 80) ⟨rfl, rfl, rfl⟩ g1 rfl ?_
                refine en_iload rfl rfl ?_
                obtain ⟨g324, h⟩ := gd h
                obtain ⟨g325, h⟩ := gd h
                refine ec_iastore g324 g325 rfl ?_
                refine en_aload rfl rfl ?_
                obtain ⟨r326, e327, h⟩ := gb h
                refine ec_getP (ci := 10) (j := 78) ⟨rfl, rfl, rfl⟩ g1 e327 rfl ?_
                refine en_aload rfl rfl ?_
                refine ec_getI (ci := 10) (j := 80) ⟨rfl, rfl, rfl⟩ g1 rfl ?_
                refine en_iload rfl rfl ?_
                obtain ⟨g328, h⟩ := gd h
                obtain ⟨g329, h⟩ := gd h
                refine ec_iastore g328 g329 rfl ?_
                refine ec_iconst cst_0 rfl ?_
                refine en_istore (l' := [(5, .int (0 : Int32)), (4, .int (1 : Int32)), (0, .ref a0), (1, .int a1), (2, .int a2), (3, .int a3)]) rfl rfl ?_
                obtain ⟨⟨q330, C332⟩, e331, h⟩ := gb h
                refine en_sub [2, 0] rfl rfl (lt_219_55 n _ _ _ _ e331 _ _ ?_)
                revert h e331; revert q330; intro u333 e331 h
                dsimp only at h ⊢
                refine en_aload rfl rfl ?_
                refine en_dup rfl rfl ?_
                obtain ⟨g334, h⟩ := gd h
                refine ec_getI (ci := 10) (j := 80) ⟨rfl, rfl, rfl⟩ g334 rfl ?_
                refine ec_iconst cst_1 rfl ?_
                refine en_iadd rfl ?_
                refine ec_putI (ci := 10) (j := 80) ⟨rfl, rfl, rfl⟩ g334 rfl ?_
                cases h
                exact en_vret rfl
              · refine en_if_eq_f c321 rfl ?_
                cases h
                exact en_vret rfl
          · refine en_if_ne_f c319 rfl ?_
            refine en_aload rfl rfl ?_
            refine en_iload rfl rfl ?_
            obtain ⟨⟨q335, C336⟩, e337, h⟩ := gb h
            dsimp only at h
            refine ec_callV0 (k' := 218) (n := 2) (rc := 10) (a := a0) (as := [.int a1]) ⟨rfl, rfl⟩ rfl rfl (Nat.le_of_ble_eq_true rfl) (Nat.le_of_ble_eq_true rfl) (Nat.le_of_ble_eq_true rfl) g1 rfl (t_218 e337) ?_
            refine en_iload rfl rfl ?_
            rcases gi h with ⟨c338, h⟩ | ⟨c338, h⟩
            · refine en_if_eq_t c338 rfl ?_
              cases h
              exact en_vret rfl
            · refine en_if_eq_f c338 rfl ?_
              refine en_aload rfl rfl ?_
              refine ec_getI (ci := 10) (j := 66) ⟨rfl, rfl, rfl⟩ g1 rfl ?_
              rcases gi h with ⟨c339, h⟩ | ⟨c339, h⟩
              · refine en_if_eq_t c339 rfl ?_
                refine en_aload rfl rfl ?_
                obtain ⟨r340, e341, h⟩ := gb h
                refine ec_getP (ci := 10) (j := 77) ⟨rfl, rfl, rfl⟩ g1 e341 rfl ?_
                refine en_aload rfl rfl ?_
                refine ec_getI (ci := 10) (j := 80) ⟨rfl, rfl, rfl⟩ g1 rfl ?_
                refine en_iload rfl rfl ?_
                obtain ⟨g342, h⟩ := gd h
                obtain ⟨g343, h⟩ := gd h
                refine ec_iastore g342 g343 rfl ?_
                refine en_aload rfl rfl ?_
                obtain ⟨r344, e345, h⟩ := gb h
                refine ec_getP (ci := 10) (j := 78) ⟨rfl, rfl, rfl⟩ g1 e345 rfl ?_
                refine en_aload rfl rfl ?_
                refine ec_getI (ci := 10) (j := 80) ⟨rfl, rfl, rfl⟩ g1 rfl ?_
                refine en_iload rfl rfl ?_
                obtain ⟨g346, h⟩ := gd h
                obtain ⟨g347, h⟩ := gd h
                refine ec_iastore g346 g347 rfl ?_
                refine ec_iconst cst_0 rfl ?_
                refine en_istore (l' := [(5, .int (0 : Int32)), (4, .int (1 : Int32)), (0, .ref a0), (1, .int a1), (2, .int a2), (3, .int a3)]) rfl rfl ?_
                obtain ⟨⟨q348, C350⟩, e349, h⟩ := gb h
                refine en_sub [2, 0] rfl rfl (lt_219_55 n _ _ _ _ e349 _ _ ?_)
                revert h e349; revert q348; intro u351 e349 h
                dsimp only at h ⊢
                refine en_aload rfl rfl ?_
                refine en_dup rfl rfl ?_
                obtain ⟨g352, h⟩ := gd h
                refine ec_getI (ci := 10) (j := 80) ⟨rfl, rfl, rfl⟩ g352 rfl ?_
                refine ec_iconst cst_1 rfl ?_
                refine en_iadd rfl ?_
                refine ec_putI (ci := 10) (j := 80) ⟨rfl, rfl, rfl⟩ g352 rfl ?_
                cases h
                exact en_vret rfl
              · refine en_if_eq_f c339 rfl ?_
                cases h
                exact en_vret rfl
    · refine en_icmp_eq_f c242 rfl ?_
      refine en_iload rfl rfl ?_
      refine en_if_ne_t (by decide) rfl ?_
      refine en_iload rfl rfl ?_
      rcases gi h with ⟨c353, h⟩ | ⟨c353, h⟩
      · refine en_if_eq_t c353 rfl ?_
        refine en_aload rfl rfl ?_
        refine en_iload rfl rfl ?_
        refine en_iload rfl rfl ?_
        obtain ⟨⟨q354, C355⟩, e356, h⟩ := gb h
        dsimp only at h
        refine ec_callV0 (k' := 217) (n := 3) (rc := 10) (a := a0) (as := [.int a1, .int a2]) ⟨rfl, rfl⟩ rfl rfl (Nat.le_of_ble_eq_true rfl) (Nat.le_of_ble_eq_true rfl) (Nat.le_of_ble_eq_true rfl) g1 rfl (t_217 e356) ?_
        refine en_iload rfl rfl ?_
        rcases gi h with ⟨c357, h⟩ | ⟨c357, h⟩
        · refine en_if_ne_t c357 rfl ?_
          refine en_iload rfl rfl ?_
          rcases gi h with ⟨c358, h⟩ | ⟨c358, h⟩
          · refine en_if_eq_t c358 rfl ?_
            cases h
            exact en_vret rfl
          · refine en_if_eq_f c358 rfl ?_
            refine en_aload rfl rfl ?_
            refine ec_getI (ci := 10) (j := 66) ⟨rfl, rfl, rfl⟩ g1 rfl ?_
            rcases gi h with ⟨c359, h⟩ | ⟨c359, h⟩
            · refine en_if_eq_t c359 rfl ?_
              refine en_aload rfl rfl ?_
              obtain ⟨r360, e361, h⟩ := gb h
              refine ec_getP (ci := 10) (j := 77) ⟨rfl, rfl, rfl⟩ g1 e361 rfl ?_
              refine en_aload rfl rfl ?_
              refine ec_getI (ci := 10) (j := 80) ⟨rfl, rfl, rfl⟩ g1 rfl ?_
              refine en_iload rfl rfl ?_
              obtain ⟨g362, h⟩ := gd h
              obtain ⟨g363, h⟩ := gd h
              refine ec_iastore g362 g363 rfl ?_
              refine en_aload rfl rfl ?_
              obtain ⟨r364, e365, h⟩ := gb h
              refine ec_getP (ci := 10) (j := 78) ⟨rfl, rfl, rfl⟩ g1 e365 rfl ?_
              refine en_aload rfl rfl ?_
              refine ec_getI (ci := 10) (j := 80) ⟨rfl, rfl, rfl⟩ g1 rfl ?_
              refine en_iload rfl rfl ?_
              obtain ⟨g366, h⟩ := gd h
              obtain ⟨g367, h⟩ := gd h
              refine ec_iastore g366 g367 rfl ?_
              refine ec_iconst cst_0 rfl ?_
              refine en_istore (l' := [(5, .int (0 : Int32)), (4, .int (1 : Int32)), (0, .ref a0), (1, .int a1), (2, .int a2), (3, .int a3)]) rfl rfl ?_
              obtain ⟨⟨q368, C370⟩, e369, h⟩ := gb h
              refine en_sub [2, 0] rfl rfl (lt_219_55 n _ _ _ _ e369 _ _ ?_)
              revert h e369; revert q368; intro u371 e369 h
              dsimp only at h ⊢
              refine en_aload rfl rfl ?_
              refine en_dup rfl rfl ?_
              obtain ⟨g372, h⟩ := gd h
              refine ec_getI (ci := 10) (j := 80) ⟨rfl, rfl, rfl⟩ g372 rfl ?_
              refine ec_iconst cst_1 rfl ?_
              refine en_iadd rfl ?_
              refine ec_putI (ci := 10) (j := 80) ⟨rfl, rfl, rfl⟩ g372 rfl ?_
              cases h
              exact en_vret rfl
            · refine en_if_eq_f c359 rfl ?_
              cases h
              exact en_vret rfl
        · refine en_if_ne_f c357 rfl ?_
          refine en_aload rfl rfl ?_
          refine en_iload rfl rfl ?_
          obtain ⟨⟨q373, C374⟩, e375, h⟩ := gb h
          dsimp only at h
          refine ec_callV0 (k' := 218) (n := 2) (rc := 10) (a := a0) (as := [.int a1]) ⟨rfl, rfl⟩ rfl rfl (Nat.le_of_ble_eq_true rfl) (Nat.le_of_ble_eq_true rfl) (Nat.le_of_ble_eq_true rfl) g1 rfl (t_218 e375) ?_
          refine en_iload rfl rfl ?_
          rcases gi h with ⟨c376, h⟩ | ⟨c376, h⟩
          · refine en_if_eq_t c376 rfl ?_
            cases h
            exact en_vret rfl
          · refine en_if_eq_f c376 rfl ?_
            refine en_aload rfl rfl ?_
            refine ec_getI (ci := 10) (j := 66) ⟨rfl, rfl, rfl⟩ g1 rfl ?_
            rcases gi h with ⟨c377, h⟩ | ⟨c377, h⟩
            · refine en_if_eq_t c377 rfl ?_
              refine en_aload rfl rfl ?_
              obtain ⟨r378, e379, h⟩ := gb h
              refine ec_getP (ci := 10) (j := 77) ⟨rfl, rfl, rfl⟩ g1 e379 rfl ?_
              refine en_aload rfl rfl ?_
              refine ec_getI (ci := 10) (j := 80) ⟨rfl, rfl, rfl⟩ g1 rfl ?_
              refine en_iload rfl rfl ?_
              obtain ⟨g380, h⟩ := gd h
              obtain ⟨g381, h⟩ := gd h
              refine ec_iastore g380 g381 rfl ?_
              refine en_aload rfl rfl ?_
              obtain ⟨r382, e383, h⟩ := gb h
              refine ec_getP (ci := 10) (j := 78) ⟨rfl, rfl, rfl⟩ g1 e383 rfl ?_
              refine en_aload rfl rfl ?_
              refine ec_getI (ci := 10) (j := 80) ⟨rfl, rfl, rfl⟩ g1 rfl ?_
              refine en_iload rfl rfl ?_
              obtain ⟨g384, h⟩ := gd h
              obtain ⟨g385, h⟩ := gd h
              refine ec_iastore g384 g385 rfl ?_
              refine ec_iconst cst_0 rfl ?_
              refine en_istore (l' := [(5, .int (0 : Int32)), (4, .int (1 : Int32)), (0, .ref a0), (1, .int a1), (2, .int a2), (3, .int a3)]) rfl rfl ?_
              obtain ⟨⟨q386, C388⟩, e387, h⟩ := gb h
              refine en_sub [2, 0] rfl rfl (lt_219_55 n _ _ _ _ e387 _ _ ?_)
              revert h e387; revert q386; intro u389 e387 h
              dsimp only at h ⊢
              refine en_aload rfl rfl ?_
              refine en_dup rfl rfl ?_
              obtain ⟨g390, h⟩ := gd h
              refine ec_getI (ci := 10) (j := 80) ⟨rfl, rfl, rfl⟩ g390 rfl ?_
              refine ec_iconst cst_1 rfl ?_
              refine en_iadd rfl ?_
              refine ec_putI (ci := 10) (j := 80) ⟨rfl, rfl, rfl⟩ g390 rfl ?_
              cases h
              exact en_vret rfl
            · refine en_if_eq_f c377 rfl ?_
              cases h
              exact en_vret rfl
      · refine en_if_eq_f c353 rfl ?_
        refine en_iload rfl rfl ?_
        refine ec_iconst cst_3 rfl ?_
        rcases gi h with ⟨c391, h⟩ | ⟨c391, h⟩
        · refine en_icmp_ne_t c391 rfl ?_
          refine en_iload rfl rfl ?_
          rcases gi h with ⟨c392, h⟩ | ⟨c392, h⟩
          · refine en_if_ne_t c392 rfl ?_
            refine en_iload rfl rfl ?_
            rcases gi h with ⟨c393, h⟩ | ⟨c393, h⟩
            · refine en_if_eq_t c393 rfl ?_
              cases h
              exact en_vret rfl
            · refine en_if_eq_f c393 rfl ?_
              refine en_aload rfl rfl ?_
              refine ec_getI (ci := 10) (j := 66) ⟨rfl, rfl, rfl⟩ g1 rfl ?_
              rcases gi h with ⟨c394, h⟩ | ⟨c394, h⟩
              · refine en_if_eq_t c394 rfl ?_
                refine en_aload rfl rfl ?_
                obtain ⟨r395, e396, h⟩ := gb h
                refine ec_getP (ci := 10) (j := 77) ⟨rfl, rfl, rfl⟩ g1 e396 rfl ?_
                refine en_aload rfl rfl ?_
                refine ec_getI (ci := 10) (j := 80) ⟨rfl, rfl, rfl⟩ g1 rfl ?_
                refine en_iload rfl rfl ?_
                obtain ⟨g397, h⟩ := gd h
                obtain ⟨g398, h⟩ := gd h
                refine ec_iastore g397 g398 rfl ?_
                refine en_aload rfl rfl ?_
                obtain ⟨r399, e400, h⟩ := gb h
                refine ec_getP (ci := 10) (j := 78) ⟨rfl, rfl, rfl⟩ g1 e400 rfl ?_
                refine en_aload rfl rfl ?_
                refine ec_getI (ci := 10) (j := 80) ⟨rfl, rfl, rfl⟩ g1 rfl ?_
                refine en_iload rfl rfl ?_
                obtain ⟨g401, h⟩ := gd h
                obtain ⟨g402, h⟩ := gd h
                refine ec_iastore g401 g402 rfl ?_
                refine ec_iconst cst_0 rfl ?_
                refine en_istore (l' := [(5, .int (0 : Int32)), (4, .int (1 : Int32)), (0, .ref a0), (1, .int a1), (2, .int a2), (3, .int a3)]) rfl rfl ?_
                obtain ⟨⟨q403, C405⟩, e404, h⟩ := gb h
                refine en_sub [2, 0] rfl rfl (lt_219_55 n _ _ _ _ e404 _ _ ?_)
                revert h e404; revert q403; intro u406 e404 h
                dsimp only at h ⊢
                refine en_aload rfl rfl ?_
                refine en_dup rfl rfl ?_
                obtain ⟨g407, h⟩ := gd h
                refine ec_getI (ci := 10) (j := 80) ⟨rfl, rfl, rfl⟩ g407 rfl ?_
                refine ec_iconst cst_1 rfl ?_
                refine en_iadd rfl ?_
                refine ec_putI (ci := 10) (j := 80) ⟨rfl, rfl, rfl⟩ g407 rfl ?_
                cases h
                exact en_vret rfl
              · refine en_if_eq_f c394 rfl ?_
                cases h
                exact en_vret rfl
          · refine en_if_ne_f c392 rfl ?_
            refine en_aload rfl rfl ?_
            refine en_iload rfl rfl ?_
            obtain ⟨⟨q408, C409⟩, e410, h⟩ := gb h
            dsimp only at h
            refine ec_callV0 (k' := 218) (n := 2) (rc := 10) (a := a0) (as := [.int a1]) ⟨rfl, rfl⟩ rfl rfl (Nat.le_of_ble_eq_true rfl) (Nat.le_of_ble_eq_true rfl) (Nat.le_of_ble_eq_true rfl) g1 rfl (t_218 e410) ?_
            refine en_iload rfl rfl ?_
            rcases gi h with ⟨c411, h⟩ | ⟨c411, h⟩
            · refine en_if_eq_t c411 rfl ?_
              cases h
              exact en_vret rfl
            · refine en_if_eq_f c411 rfl ?_
              refine en_aload rfl rfl ?_
              refine ec_getI (ci := 10) (j := 66) ⟨rfl, rfl, rfl⟩ g1 rfl ?_
              rcases gi h with ⟨c412, h⟩ | ⟨c412, h⟩
              · refine en_if_eq_t c412 rfl ?_
                refine en_aload rfl rfl ?_
                obtain ⟨r413, e414, h⟩ := gb h
                refine ec_getP (ci := 10) (j := 77) ⟨rfl, rfl, rfl⟩ g1 e414 rfl ?_
                refine en_aload rfl rfl ?_
                refine ec_getI (ci := 10) (j := 80) ⟨rfl, rfl, rfl⟩ g1 rfl ?_
                refine en_iload rfl rfl ?_
                obtain ⟨g415, h⟩ := gd h
                obtain ⟨g416, h⟩ := gd h
                refine ec_iastore g415 g416 rfl ?_
                refine en_aload rfl rfl ?_
                obtain ⟨r417, e418, h⟩ := gb h
                refine ec_getP (ci := 10) (j := 78) ⟨rfl, rfl, rfl⟩ g1 e418 rfl ?_
                refine en_aload rfl rfl ?_
                refine ec_getI (ci := 10) (j := 80) ⟨rfl, rfl, rfl⟩ g1 rfl ?_
                refine en_iload rfl rfl ?_
                obtain ⟨g419, h⟩ := gd h
                obtain ⟨g420, h⟩ := gd h
                refine ec_iastore g419 g420 rfl ?_
                refine ec_iconst cst_0 rfl ?_
                refine en_istore (l' := [(5, .int (0 : Int32)), (4, .int (1 : Int32)), (0, .ref a0), (1, .int a1), (2, .int a2), (3, .int a3)]) rfl rfl ?_
                obtain ⟨⟨q421, C423⟩, e422, h⟩ := gb h
                refine en_sub [2, 0] rfl rfl (lt_219_55 n _ _ _ _ e422 _ _ ?_)
                revert h e422; revert q421; intro u424 e422 h
                dsimp only at h ⊢
                refine en_aload rfl rfl ?_
                refine en_dup rfl rfl ?_
                obtain ⟨g425, h⟩ := gd h
                refine ec_getI (ci := 10) (j := 80) ⟨rfl, rfl, rfl⟩ g425 rfl ?_
                refine ec_iconst cst_1 rfl ?_
                refine en_iadd rfl ?_
                refine ec_putI (ci := 10) (j := 80) ⟨rfl, rfl, rfl⟩ g425 rfl ?_
                cases h
                exact en_vret rfl
              · refine en_if_eq_f c412 rfl ?_
                cases h
                exact en_vret rfl
        · refine en_icmp_ne_f c391 rfl ?_
          refine en_aload rfl rfl ?_
          refine en_iload rfl rfl ?_
          refine en_iload rfl rfl ?_
          obtain ⟨⟨q426, C427⟩, e428, h⟩ := gb h
          dsimp only at h
          refine ec_callV0 (k' := 217) (n := 3) (rc := 10) (a := a0) (as := [.int a1, .int a2]) ⟨rfl, rfl⟩ rfl rfl (Nat.le_of_ble_eq_true rfl) (Nat.le_of_ble_eq_true rfl) (Nat.le_of_ble_eq_true rfl) g1 rfl (t_217 e428) ?_
          refine en_iload rfl rfl ?_
          rcases gi h with ⟨c429, h⟩ | ⟨c429, h⟩
          · refine en_if_ne_t c429 rfl ?_
            refine en_iload rfl rfl ?_
            rcases gi h with ⟨c430, h⟩ | ⟨c430, h⟩
            · refine en_if_eq_t c430 rfl ?_
              cases h
              exact en_vret rfl
            · refine en_if_eq_f c430 rfl ?_
              refine en_aload rfl rfl ?_
              refine ec_getI (ci := 10) (j := 66) ⟨rfl, rfl, rfl⟩ g1 rfl ?_
              rcases gi h with ⟨c431, h⟩ | ⟨c431, h⟩
              · refine en_if_eq_t c431 rfl ?_
                refine en_aload rfl rfl ?_
                obtain ⟨r432, e433, h⟩ := gb h
                refine ec_getP (ci := 10) (j := 77) ⟨rfl, rfl, rfl⟩ g1 e433 rfl ?_
                refine en_aload rfl rfl ?_
                refine ec_getI (ci := 10) (j := 80) ⟨rfl, rfl, rfl⟩ g1 rfl ?_
                refine en_iload rfl rfl ?_
                obtain ⟨g434, h⟩ := gd h
                obtain ⟨g435, h⟩ := gd h
                refine ec_iastore g434 g435 rfl ?_
                refine en_aload rfl rfl ?_
                obtain ⟨r436, e437, h⟩ := gb h
                refine ec_getP (ci := 10) (j := 78) ⟨rfl, rfl, rfl⟩ g1 e437 rfl ?_
                refine en_aload rfl rfl ?_
                refine ec_getI (ci := 10) (j := 80) ⟨rfl, rfl, rfl⟩ g1 rfl ?_
                refine en_iload rfl rfl ?_
                obtain ⟨g438, h⟩ := gd h
                obtain ⟨g439, h⟩ := gd h
                refine ec_iastore g438 g439 rfl ?_
                refine ec_iconst cst_0 rfl ?_
                refine en_istore (l' := [(5, .int (0 : Int32)), (4, .int (1 : Int32)), (0, .ref a0), (1, .int a1), (2, .int a2), (3, .int a3)]) rfl rfl ?_
                obtain ⟨⟨q440, C442⟩, e441, h⟩ := gb h
                refine en_sub [2, 0] rfl rfl (lt_219_55 n _ _ _ _ e441 _ _ ?_)
                revert h e441; revert q440; intro u443 e441 h
                dsimp only at h ⊢
                refine en_aload rfl rfl ?_
                refine en_dup rfl rfl ?_
                obtain ⟨g444, h⟩ := gd h
                refine ec_getI (ci := 10) (j := 80) ⟨rfl, rfl, rfl⟩ g444 rfl ?_
                refine ec_iconst cst_1 rfl ?_
                refine en_iadd rfl ?_
                refine ec_putI (ci := 10) (j := 80) ⟨rfl, rfl, rfl⟩ g444 rfl ?_
                cases h
                exact en_vret rfl
              · refine en_if_eq_f c431 rfl ?_
                cases h
                exact en_vret rfl
          · refine en_if_ne_f c429 rfl ?_
            refine en_aload rfl rfl ?_
            refine en_iload rfl rfl ?_
            obtain ⟨⟨q445, C446⟩, e447, h⟩ := gb h
            dsimp only at h
            refine ec_callV0 (k' := 218) (n := 2) (rc := 10) (a := a0) (as := [.int a1]) ⟨rfl, rfl⟩ rfl rfl (Nat.le_of_ble_eq_true rfl) (Nat.le_of_ble_eq_true rfl) (Nat.le_of_ble_eq_true rfl) g1 rfl (t_218 e447) ?_
            refine en_iload rfl rfl ?_
            rcases gi h with ⟨c448, h⟩ | ⟨c448, h⟩
            · refine en_if_eq_t c448 rfl ?_
              cases h
              exact en_vret rfl
            · refine en_if_eq_f c448 rfl ?_
              refine en_aload rfl rfl ?_
              refine ec_getI (ci := 10) (j := 66) ⟨rfl, rfl, rfl⟩ g1 rfl ?_
              rcases gi h with ⟨c449, h⟩ | ⟨c449, h⟩
              · refine en_if_eq_t c449 rfl ?_
                refine en_aload rfl rfl ?_
                obtain ⟨r450, e451, h⟩ := gb h
                refine ec_getP (ci := 10) (j := 77) ⟨rfl, rfl, rfl⟩ g1 e451 rfl ?_
                refine en_aload rfl rfl ?_
                refine ec_getI (ci := 10) (j := 80) ⟨rfl, rfl, rfl⟩ g1 rfl ?_
                refine en_iload rfl rfl ?_
                obtain ⟨g452, h⟩ := gd h
                obtain ⟨g453, h⟩ := gd h
                refine ec_iastore g452 g453 rfl ?_
                refine en_aload rfl rfl ?_
                obtain ⟨r454, e455, h⟩ := gb h
                refine ec_getP (ci := 10) (j := 78) ⟨rfl, rfl, rfl⟩ g1 e455 rfl ?_
                refine en_aload rfl rfl ?_
                refine ec_getI (ci := 10) (j := 80) ⟨rfl, rfl, rfl⟩ g1 rfl ?_
                refine en_iload rfl rfl ?_
                obtain ⟨g456, h⟩ := gd h
                obtain ⟨g457, h⟩ := gd h
                refine ec_iastore g456 g457 rfl ?_
                refine ec_iconst cst_0 rfl ?_
                refine en_istore (l' := [(5, .int (0 : Int32)), (4, .int (1 : Int32)), (0, .ref a0), (1, .int a1), (2, .int a2), (3, .int a3)]) rfl rfl ?_
                obtain ⟨⟨q458, C460⟩, e459, h⟩ := gb h
                refine en_sub [2, 0] rfl rfl (lt_219_55 n _ _ _ _ e459 _ _ ?_)
                revert h e459; revert q458; intro u461 e459 h
                dsimp only at h ⊢
                refine en_aload rfl rfl ?_
                refine en_dup rfl rfl ?_
                obtain ⟨g462, h⟩ := gd h
                refine ec_getI (ci := 10) (j := 80) ⟨rfl, rfl, rfl⟩ g462 rfl ?_
                refine ec_iconst cst_1 rfl ?_
                refine en_iadd rfl ?_
                refine ec_putI (ci := 10) (j := 80) ⟨rfl, rfl, rfl⟩ g462 rfl ?_
                cases h
                exact en_vret rfl
              · refine en_if_eq_f c449 rfl ?_
                cases h
                exact en_vret rfl
def lp_221_5 : Nat → Nat → Int32 → Int32 → Int32 → AmC → Option (((Unit)) × AmC)
  | 0, _, _, _, _, _ => none
  | n + 1, p0, p1, p2, p3, C => if isK p0 10 = true then (cP C p0 21).bind (fun r3 => if isK r3 12 = true then if amIn (cI C p0 40) (aLen r3) = true then (if (cI C r3 (Int32.toNatClampNeg (cI C p0 40))) ≤ p3 then some ((), C) else (cP C p0 75).bind (fun r8 => (cP C p0 79).bind (fun r10 => if isK r10 12 = true then if amIn (((4 : Int32) * p1) + p3) (aLen r10) = true then if isK r8 12 = true then if amIn p3 (aLen r8) = true then (f_214 n p0 p2 (uI C r8 (Int32.toNatClampNeg p3) (cI C r10 (Int32.toNatClampNeg (((4 : Int32) * p1) + p3))))).bind (fun z => match z with | (q16, C17) => (if ¬ q16 = 0 then lp_221_5 n p0 p1 p2 (p3 + (1 : Int32)) (uI C17 p0 76 ((cI C17 p0 76) ||| ((1 : Int32) <<< (p3 &&& 31)))) else (cP C17 p0 38).bind (fun r20 => if isK r20 12 = true then if amIn (((4 : Int32) * (cI C17 p0 59)) + p3) (aLen r20) = true then (if (cI C17 r20 (Int32.toNatClampNeg (((4 : Int32) * (cI C17 p0 59)) + p3))) = (-1 : Int32) then lp_221_5 n p0 p1 p2 (p3 + (1 : Int32)) C17 else lp_221_5 n p0 p1 p2 (p3 + (1 : Int32)) (uI C17 p0 76 ((cI C17 p0 76) ||| ((1 : Int32) <<< (p3 &&& 31))))) else none else none))) else none else none else none else none))) else none else none) else none
set_option maxRecDepth 20000 in
set_option maxHeartbeats 4000000 in
theorem lt_221_5 : ∀ (n : Nat) (p0 : Nat) (p1 : Int32) (p2 : Int32) (p3 : Int32) (C : AmC) (r : ((Unit)) × AmC), lp_221_5 n p0 p1 p2 p3 C = some r → ∀ (o : AmO) (M' : AmM), (match r with
        | (_, C') => En false 221 49 [] [] (mkM C') o M') → En false 221 5 [(0, .ref p0), (1, .int p1), (2, .int p2), (3, .int p3)] [] (mkM C) o M' := by
  intro n
  induction n with
  | zero => intro p0 p1 p2 p3 C r h; cases h
  | succ n ih =>
    intro p0 p1 p2 p3 C r h o M' hk
    unfold lp_221_5 at h
    refine en_iload rfl rfl ?_
    refine en_aload rfl rfl ?_
    obtain ⟨g2, h⟩ := gd h
    obtain ⟨r3, e4, h⟩ := gb h
    refine ec_getP (ci := 10) (j := 21) ⟨rfl, rfl, rfl⟩ g2 e4 rfl ?_
    refine en_aload rfl rfl ?_
    refine ec_getI (ci := 10) (j := 40) ⟨rfl, rfl, rfl⟩ g2 rfl ?_
    obtain ⟨g5, h⟩ := gd h
    obtain ⟨g6, h⟩ := gd h
    refine ec_iaload g5 g6 rfl ?_
    rcases gi h with ⟨c7, h⟩ | ⟨c7, h⟩
    · refine en_icmp_ge_t c7 rfl ?_
      cases h
      exact en_sub [] rfl rfl hk
    · refine en_icmp_ge_f c7 rfl ?_
      refine en_aload rfl rfl ?_
      obtain ⟨r8, e9, h⟩ := gb h
      refine ec_getP (ci := 10) (j := 75) ⟨rfl, rfl, rfl⟩ g2 e9 rfl ?_
      refine en_iload rfl rfl ?_
      refine en_aload rfl rfl ?_
      obtain ⟨r10, e11, h⟩ := gb h
      refine ec_getP (ci := 10) (j := 79) ⟨rfl, rfl, rfl⟩ g2 e11 rfl ?_
      refine ec_iconst cst_4 rfl ?_
      refine en_iload rfl rfl ?_
      refine en_imul rfl ?_
      refine en_iload rfl rfl ?_
      refine en_iadd rfl ?_
      obtain ⟨g12, h⟩ := gd h
      obtain ⟨g13, h⟩ := gd h
      refine ec_iaload g12 g13 rfl ?_
      obtain ⟨g14, h⟩ := gd h
      obtain ⟨g15, h⟩ := gd h
      refine ec_iastore g14 g15 rfl ?_
      refine en_aload rfl rfl ?_
      refine en_iload rfl rfl ?_
      obtain ⟨⟨q16, C17⟩, e18, h⟩ := gb h
      dsimp only at h
      refine ec_callV1 (k' := 214) (n := 2) (rc := 10) (a := p0) (as := [.int p2]) ⟨rfl, rfl⟩ rfl rfl (Nat.le_of_ble_eq_true rfl) (Nat.le_of_ble_eq_true rfl) (Nat.le_of_ble_eq_true rfl) g2 rfl (t_214 e18) ?_
      rcases gi h with ⟨c19, h⟩ | ⟨c19, h⟩
      · refine en_if_ne_t c19 rfl ?_
        refine en_aload rfl rfl ?_
        refine en_dup rfl rfl ?_
        refine ec_getI (ci := 10) (j := 76) ⟨rfl, rfl, rfl⟩ g2 rfl ?_
        refine ec_iconst cst_1 rfl ?_
        refine en_iload rfl rfl ?_
        refine en_ishl rfl ?_
        refine en_ior rfl ?_
        refine ec_putI (ci := 10) (j := 76) ⟨rfl, rfl, rfl⟩ g2 rfl ?_
        refine ec_iinc (l' := [(3, .int (p3 + (1 : Int32))), (0, .ref p0), (1, .int p1), (2, .int p2)]) rfl cst_1 rfl rfl ?_
        refine en_goto rfl ?_
        refine en_sub [1, 2, 3, 0] rfl rfl ?_
        exact ih _ _ _ _ _ _ h o M' hk
      · refine en_if_ne_f c19 rfl ?_
        refine en_aload rfl rfl ?_
        obtain ⟨r20, e21, h⟩ := gb h
        refine ec_getP (ci := 10) (j := 38) ⟨rfl, rfl, rfl⟩ g2 e21 rfl ?_
        refine ec_iconst cst_4 rfl ?_
        refine en_aload rfl rfl ?_
        refine ec_getI (ci := 10) (j := 59) ⟨rfl, rfl, rfl⟩ g2 rfl ?_
        refine en_imul rfl ?_
        refine en_iload rfl rfl ?_
        refine en_iadd rfl ?_
        obtain ⟨g22, h⟩ := gd h
        obtain ⟨g23, h⟩ := gd h
        refine ec_iaload g22 g23 rfl ?_
        refine ec_iconst cst_m1 rfl ?_
        rcases gi h with ⟨c24, h⟩ | ⟨c24, h⟩
        · refine en_icmp_eq_t c24 rfl ?_
          refine ec_iinc (l' := [(3, .int (p3 + (1 : Int32))), (0, .ref p0), (1, .int p1), (2, .int p2)]) rfl cst_1 rfl rfl ?_
          refine en_goto rfl ?_
          refine en_sub [1, 2, 3, 0] rfl rfl ?_
          exact ih _ _ _ _ _ _ h o M' hk
        · refine en_icmp_eq_f c24 rfl ?_
          refine en_aload rfl rfl ?_
          refine en_dup rfl rfl ?_
          refine ec_getI (ci := 10) (j := 76) ⟨rfl, rfl, rfl⟩ g2 rfl ?_
          refine ec_iconst cst_1 rfl ?_
          refine en_iload rfl rfl ?_
          refine en_ishl rfl ?_
          refine en_ior rfl ?_
          refine ec_putI (ci := 10) (j := 76) ⟨rfl, rfl, rfl⟩ g2 rfl ?_
          refine ec_iinc (l' := [(3, .int (p3 + (1 : Int32))), (0, .ref p0), (1, .int p1), (2, .int p2)]) rfl cst_1 rfl rfl ?_
          refine en_goto rfl ?_
          refine en_sub [1, 2, 3, 0] rfl rfl ?_
          exact ih _ _ _ _ _ _ h o M' hk
/-- BulkWriterModel.laysMade(II)V -/
def f_221 (n : Nat) (a0 : Nat) (a1 : Int32) (a2 : Int32) (C : AmC) : Option (Unit × AmC) := if isK a0 10 = true then (lp_221_5 n a0 a1 a2 (0 : Int32) (uI C a0 76 (0 : Int32))).bind (fun q => match q with | (_, C27) => some ((), C27)) else none
set_option maxRecDepth 20000 in
set_option maxHeartbeats 4000000 in
theorem t_221 {n : Nat} {a0 : Nat} {a1 : Int32} {a2 : Int32} {C : AmC} {r : Unit} {C' : AmC} (h : f_221 n a0 a1 a2 C = some (r, C')) : En false 221 0 [(0, .ref a0), (1, .int a1), (2, .int a2)] [] (mkM C) (.inl none) (mkM C') := by
  unfold f_221 at h
  refine en_aload rfl rfl ?_
  refine ec_iconst cst_0 rfl ?_
  obtain ⟨g1, h⟩ := gd h
  refine ec_putI (ci := 10) (j := 76) ⟨rfl, rfl, rfl⟩ g1 rfl ?_
  refine ec_iconst cst_0 rfl ?_
  refine en_istore (l' := [(3, .int (0 : Int32)), (0, .ref a0), (1, .int a1), (2, .int a2)]) rfl rfl ?_
  obtain ⟨⟨q25, C27⟩, e26, h⟩ := gb h
  refine en_sub [1, 2, 3, 0] rfl rfl (lt_221_5 n _ _ _ _ _ _ e26 _ _ ?_)
  dsimp only at h ⊢
  cases h
  exact en_vret rfl
def lp_220_13 : Nat → Nat → Int32 → Int32 → Int32 → AmC → Option (((Unit)) × AmC)
  | 0, _, _, _, _, _ => none
  | n + 1, p0, p1, p2, p3, C => if isK p0 10 = true then (if (cI C p0 80) ≤ p3 then some ((), C) else (if ¬ (cI C p0 66) = 0 then some ((), C) else (cP C p0 77).bind (fun r10 => if isK r10 12 = true then if amIn p3 (aLen r10) = true then (cP C p0 78).bind (fun r14 => if isK r14 12 = true then if amIn p3 (aLen r14) = true then (if (cI C r10 (Int32.toNatClampNeg p3)) = (-1 : Int32) then (if ¬ p1 = (1 : Int32) then (if ¬ p1 = (3 : Int32) then (f_217 n p0 (cI C r10 (Int32.toNatClampNeg p3)) (cI C r14 (Int32.toNatClampNeg p3)) C).bind (fun z => match z with | (_, C22) => (f_218 n p0 (cI C r10 (Int32.toNatClampNeg p3)) C22).bind (fun z => match z with | (_, C25) => lp_220_13 n p0 p1 p2 (p3 + (1 : Int32)) C25)) else (f_221 n p0 p3 (cI C r10 (Int32.toNatClampNeg p3)) C).bind (fun z => match z with | (_, C28) => (f_218 n p0 (cI C r10 (Int32.toNatClampNeg p3)) C28).bind (fun z => match z with | (_, C31) => lp_220_13 n p0 p1 p2 (p3 + (1 : Int32)) C31))) else (if ¬ p2 = 0 then (if ¬ p1 = (3 : Int32) then (f_217 n p0 (cI C r10 (Int32.toNatClampNeg p3)) (cI C r14 (Int32.toNatClampNeg p3)) C).bind (fun z => match z with | (_, C36) => (f_218 n p0 (cI C r10 (Int32.toNatClampNeg p3)) C36).bind (fun z => match z with | (_, C39) => lp_220_13 n p0 p1 p2 (p3 + (1 : Int32)) C39)) else (f_221 n p0 p3 (cI C r10 (Int32.toNatClampNeg p3)) C).bind (fun z => match z with | (_, C42) => (f_218 n p0 (cI C r10 (Int32.toNatClampNeg p3)) C42).bind (fun z => match z with | (_, C45) => lp_220_13 n p0 p1 p2 (p3 + (1 : Int32)) C45))) else (f_210 n p0 (cI C r10 (Int32.toNatClampNeg p3)) C).bind (fun z => match z with | (q47, C48) => (if ¬ q47 = 0 then (if ¬ p1 = (3 : Int32) then (f_217 n p0 (cI C r10 (Int32.toNatClampNeg p3)) (cI C r14 (Int32.toNatClampNeg p3)) C48).bind (fun z => match z with | (_, C53) => (f_218 n p0 (cI C r10 (Int32.toNatClampNeg p3)) C53).bind (fun z => match z with | (_, C56) => lp_220_13 n p0 p1 p2 (p3 + (1 : Int32)) C56)) else (f_221 n p0 p3 (cI C r10 (Int32.toNatClampNeg p3)) C48).bind (fun z => match z with | (_, C59) => (f_218 n p0 (cI C r10 (Int32.toNatClampNeg p3)) C59).bind (fun z => match z with | (_, C62) => lp_220_13 n p0 p1 p2 (p3 + (1 : Int32)) C62))) else lp_220_13 n p0 p1 p2 (p3 + (1 : Int32)) C48)))) else (cP C p0 57).bind (fun r64 => if isK r64 12 = true then if amIn (cI C r10 (Int32.toNatClampNeg p3)) (aLen r64) = true then (if ¬ (cI C r64 (Int32.toNatClampNeg (cI C r10 (Int32.toNatClampNeg p3)))) = 0 then (if ¬ p1 = (1 : Int32) then (if ¬ p1 = (3 : Int32) then (f_217 n p0 (cI C r10 (Int32.toNatClampNeg p3)) (cI C r14 (Int32.toNatClampNeg p3)) C).bind (fun z => match z with | (_, C72) => (f_218 n p0 (cI C r10 (Int32.toNatClampNeg p3)) C72).bind (fun z => match z with | (_, C75) => lp_220_13 n p0 p1 p2 (p3 + (1 : Int32)) C75)) else (f_221 n p0 p3 (cI C r10 (Int32.toNatClampNeg p3)) C).bind (fun z => match z with | (_, C78) => (f_218 n p0 (cI C r10 (Int32.toNatClampNeg p3)) C78).bind (fun z => match z with | (_, C81) => lp_220_13 n p0 p1 p2 (p3 + (1 : Int32)) C81))) else (if ¬ p2 = 0 then (if ¬ p1 = (3 : Int32) then (f_217 n p0 (cI C r10 (Int32.toNatClampNeg p3)) (cI C r14 (Int32.toNatClampNeg p3)) C).bind (fun z => match z with | (_, C86) => (f_218 n p0 (cI C r10 (Int32.toNatClampNeg p3)) C86).bind (fun z => match z with | (_, C89) => lp_220_13 n p0 p1 p2 (p3 + (1 : Int32)) C89)) else (f_221 n p0 p3 (cI C r10 (Int32.toNatClampNeg p3)) C).bind (fun z => match z with | (_, C92) => (f_218 n p0 (cI C r10 (Int32.toNatClampNeg p3)) C92).bind (fun z => match z with | (_, C95) => lp_220_13 n p0 p1 p2 (p3 + (1 : Int32)) C95))) else (f_210 n p0 (cI C r10 (Int32.toNatClampNeg p3)) C).bind (fun z => match z with | (q97, C98) => (if ¬ q97 = 0 then (if ¬ p1 = (3 : Int32) then (f_217 n p0 (cI C r10 (Int32.toNatClampNeg p3)) (cI C r14 (Int32.toNatClampNeg p3)) C98).bind (fun z => match z with | (_, C103) => (f_218 n p0 (cI C r10 (Int32.toNatClampNeg p3)) C103).bind (fun z => match z with | (_, C106) => lp_220_13 n p0 p1 p2 (p3 + (1 : Int32)) C106)) else (f_221 n p0 p3 (cI C r10 (Int32.toNatClampNeg p3)) C98).bind (fun z => match z with | (_, C109) => (f_218 n p0 (cI C r10 (Int32.toNatClampNeg p3)) C109).bind (fun z => match z with | (_, C112) => lp_220_13 n p0 p1 p2 (p3 + (1 : Int32)) C112))) else lp_220_13 n p0 p1 p2 (p3 + (1 : Int32)) C98)))) else lp_220_13 n p0 p1 p2 (p3 + (1 : Int32)) C) else none else none)) else none else none) else none else none))) else none
set_option maxRecDepth 20000 in
set_option maxHeartbeats 4000000 in
theorem lt_220_13 : ∀ (n : Nat) (p0 : Nat) (p1 : Int32) (p2 : Int32) (p3 : Int32) (C : AmC) (r : ((Unit)) × AmC), lp_220_13 n p0 p1 p2 p3 C = some r → ∀ (o : AmO) (M' : AmM), (match r with
        | (_, C') => En false 220 66 [] [] (mkM C') o M') → En false 220 13 [(0, .ref p0), (1, .int p1), (2, .int p2), (3, .int p3)] [] (mkM C) o M' := by
  intro n
  induction n with
  | zero => intro p0 p1 p2 p3 C r h; cases h
  | succ n ih =>
    intro p0 p1 p2 p3 C r h o M' hk
    unfold lp_220_13 at h
    refine en_iload rfl rfl ?_
    refine en_aload rfl rfl ?_
    obtain ⟨g7, h⟩ := gd h
    refine ec_getI (ci := 10) (j := 80) ⟨rfl, rfl, rfl⟩ g7 rfl ?_
    rcases gi h with ⟨c8, h⟩ | ⟨c8, h⟩
    · refine en_icmp_ge_t c8 rfl ?_
      cases h
      exact en_sub [] rfl rfl hk
    · refine en_icmp_ge_f c8 rfl ?_
      refine en_aload rfl rfl ?_
      refine ec_getI (ci := 10) (j := 66) ⟨rfl, rfl, rfl⟩ g7 rfl ?_
      rcases gi h with ⟨c9, h⟩ | ⟨c9, h⟩
      · refine en_if_ne_t c9 rfl ?_
        cases h
        exact en_sub [] rfl rfl hk
      · refine en_if_ne_f c9 rfl ?_
        refine en_aload rfl rfl ?_
        obtain ⟨r10, e11, h⟩ := gb h
        refine ec_getP (ci := 10) (j := 77) ⟨rfl, rfl, rfl⟩ g7 e11 rfl ?_
        refine en_iload rfl rfl ?_
        obtain ⟨g12, h⟩ := gd h
        obtain ⟨g13, h⟩ := gd h
        refine ec_iaload g12 g13 rfl ?_
        refine en_istore (l' := [(4, .int (cI C r10 (Int32.toNatClampNeg p3))), (0, .ref p0), (1, .int p1), (2, .int p2), (3, .int p3)]) rfl rfl ?_
        refine en_aload rfl rfl ?_
        obtain ⟨r14, e15, h⟩ := gb h
        refine ec_getP (ci := 10) (j := 78) ⟨rfl, rfl, rfl⟩ g7 e15 rfl ?_
        refine en_iload rfl rfl ?_
        obtain ⟨g16, h⟩ := gd h
        obtain ⟨g17, h⟩ := gd h
        refine ec_iaload g16 g17 rfl ?_
        refine en_istore (l' := [(5, .int (cI C r14 (Int32.toNatClampNeg p3))), (4, .int (cI C r10 (Int32.toNatClampNeg p3))), (0, .ref p0), (1, .int p1), (2, .int p2), (3, .int p3)]) rfl rfl ?_
        refine en_iload rfl rfl ?_
        refine ec_iconst cst_m1 rfl ?_
        rcases gi h with ⟨c18, h⟩ | ⟨c18, h⟩
        · refine en_icmp_eq_t c18 rfl ?_
          refine en_iload rfl rfl ?_
          refine ec_iconst cst_1 rfl ?_
          rcases gi h with ⟨c19, h⟩ | ⟨c19, h⟩
          · refine en_icmp_ne_t c19 rfl ?_
            refine en_iload rfl rfl ?_
            refine ec_iconst cst_3 rfl ?_
            rcases gi h with ⟨c20, h⟩ | ⟨c20, h⟩
            · refine en_icmp_ne_t c20 rfl ?_
              refine en_aload rfl rfl ?_
              refine en_iload rfl rfl ?_
              refine en_iload rfl rfl ?_
              obtain ⟨⟨q21, C22⟩, e23, h⟩ := gb h
              dsimp only at h
              refine ec_callV0 (k' := 217) (n := 3) (rc := 10) (a := p0) (as := [.int (cI C r10 (Int32.toNatClampNeg p3)), .int (cI C r14 (Int32.toNatClampNeg p3))]) ⟨rfl, rfl⟩ rfl rfl (Nat.le_of_ble_eq_true rfl) (Nat.le_of_ble_eq_true rfl) (Nat.le_of_ble_eq_true rfl) g7 rfl (t_217 e23) ?_
              refine en_aload rfl rfl ?_
              refine en_iload rfl rfl ?_
              obtain ⟨⟨q24, C25⟩, e26, h⟩ := gb h
              dsimp only at h
              refine ec_callV0 (k' := 218) (n := 2) (rc := 10) (a := p0) (as := [.int (cI C r10 (Int32.toNatClampNeg p3))]) ⟨rfl, rfl⟩ rfl rfl (Nat.le_of_ble_eq_true rfl) (Nat.le_of_ble_eq_true rfl) (Nat.le_of_ble_eq_true rfl) g7 rfl (t_218 e26) ?_
              refine ec_iinc (l' := [(3, .int (p3 + (1 : Int32))), (5, .int (cI C r14 (Int32.toNatClampNeg p3))), (4, .int (cI C r10 (Int32.toNatClampNeg p3))), (0, .ref p0), (1, .int p1), (2, .int p2)]) rfl cst_1 rfl rfl ?_
              refine en_goto rfl ?_
              refine en_sub [3, 4, 5, 0] rfl rfl ?_
              exact ih _ _ _ _ _ _ h o M' hk
            · refine en_icmp_ne_f c20 rfl ?_
              refine en_aload rfl rfl ?_
              refine en_iload rfl rfl ?_
              refine en_iload rfl rfl ?_
              obtain ⟨⟨q27, C28⟩, e29, h⟩ := gb h
              dsimp only at h
              refine ec_callV0 (k' := 221) (n := 3) (rc := 10) (a := p0) (as := [.int p3, .int (cI C r10 (Int32.toNatClampNeg p3))]) ⟨rfl, rfl⟩ rfl rfl (Nat.le_of_ble_eq_true rfl) (Nat.le_of_ble_eq_true rfl) (Nat.le_of_ble_eq_true rfl) g7 rfl (t_221 e29) ?_
              refine en_goto rfl ?_
              refine en_aload rfl rfl ?_
              refine en_iload rfl rfl ?_
              obtain ⟨⟨q30, C31⟩, e32, h⟩ := gb h
              dsimp only at h
              refine ec_callV0 (k' := 218) (n := 2) (rc := 10) (a := p0) (as := [.int (cI C r10 (Int32.toNatClampNeg p3))]) ⟨rfl, rfl⟩ rfl rfl (Nat.le_of_ble_eq_true rfl) (Nat.le_of_ble_eq_true rfl) (Nat.le_of_ble_eq_true rfl) g7 rfl (t_218 e32) ?_
              refine ec_iinc (l' := [(3, .int (p3 + (1 : Int32))), (5, .int (cI C r14 (Int32.toNatClampNeg p3))), (4, .int (cI C r10 (Int32.toNatClampNeg p3))), (0, .ref p0), (1, .int p1), (2, .int p2)]) rfl cst_1 rfl rfl ?_
              refine en_goto rfl ?_
              refine en_sub [3, 4, 5, 0] rfl rfl ?_
              exact ih _ _ _ _ _ _ h o M' hk
          · refine en_icmp_ne_f c19 rfl ?_
            refine en_iload rfl rfl ?_
            rcases gi h with ⟨c33, h⟩ | ⟨c33, h⟩
            · refine en_if_ne_t c33 rfl ?_
              refine en_iload rfl rfl ?_
              refine ec_iconst cst_3 rfl ?_
              rcases gi h with ⟨c34, h⟩ | ⟨c34, h⟩
              · refine en_icmp_ne_t c34 rfl ?_
                refine en_aload rfl rfl ?_
                refine en_iload rfl rfl ?_
                refine en_iload rfl rfl ?_
                obtain ⟨⟨q35, C36⟩, e37, h⟩ := gb h
                dsimp only at h
                refine ec_callV0 (k' := 217) (n := 3) (rc := 10) (a := p0) (as := [.int (cI C r10 (Int32.toNatClampNeg p3)), .int (cI C r14 (Int32.toNatClampNeg p3))]) ⟨rfl, rfl⟩ rfl rfl (Nat.le_of_ble_eq_true rfl) (Nat.le_of_ble_eq_true rfl) (Nat.le_of_ble_eq_true rfl) g7 rfl (t_217 e37) ?_
                refine en_aload rfl rfl ?_
                refine en_iload rfl rfl ?_
                obtain ⟨⟨q38, C39⟩, e40, h⟩ := gb h
                dsimp only at h
                refine ec_callV0 (k' := 218) (n := 2) (rc := 10) (a := p0) (as := [.int (cI C r10 (Int32.toNatClampNeg p3))]) ⟨rfl, rfl⟩ rfl rfl (Nat.le_of_ble_eq_true rfl) (Nat.le_of_ble_eq_true rfl) (Nat.le_of_ble_eq_true rfl) g7 rfl (t_218 e40) ?_
                refine ec_iinc (l' := [(3, .int (p3 + (1 : Int32))), (5, .int (cI C r14 (Int32.toNatClampNeg p3))), (4, .int (cI C r10 (Int32.toNatClampNeg p3))), (0, .ref p0), (1, .int p1), (2, .int p2)]) rfl cst_1 rfl rfl ?_
                refine en_goto rfl ?_
                refine en_sub [3, 4, 5, 0] rfl rfl ?_
                exact ih _ _ _ _ _ _ h o M' hk
              · refine en_icmp_ne_f c34 rfl ?_
                refine en_aload rfl rfl ?_
                refine en_iload rfl rfl ?_
                refine en_iload rfl rfl ?_
                obtain ⟨⟨q41, C42⟩, e43, h⟩ := gb h
                dsimp only at h
                refine ec_callV0 (k' := 221) (n := 3) (rc := 10) (a := p0) (as := [.int p3, .int (cI C r10 (Int32.toNatClampNeg p3))]) ⟨rfl, rfl⟩ rfl rfl (Nat.le_of_ble_eq_true rfl) (Nat.le_of_ble_eq_true rfl) (Nat.le_of_ble_eq_true rfl) g7 rfl (t_221 e43) ?_
                refine en_goto rfl ?_
                refine en_aload rfl rfl ?_
                refine en_iload rfl rfl ?_
                obtain ⟨⟨q44, C45⟩, e46, h⟩ := gb h
                dsimp only at h
                refine ec_callV0 (k' := 218) (n := 2) (rc := 10) (a := p0) (as := [.int (cI C r10 (Int32.toNatClampNeg p3))]) ⟨rfl, rfl⟩ rfl rfl (Nat.le_of_ble_eq_true rfl) (Nat.le_of_ble_eq_true rfl) (Nat.le_of_ble_eq_true rfl) g7 rfl (t_218 e46) ?_
                refine ec_iinc (l' := [(3, .int (p3 + (1 : Int32))), (5, .int (cI C r14 (Int32.toNatClampNeg p3))), (4, .int (cI C r10 (Int32.toNatClampNeg p3))), (0, .ref p0), (1, .int p1), (2, .int p2)]) rfl cst_1 rfl rfl ?_
                refine en_goto rfl ?_
                refine en_sub [3, 4, 5, 0] rfl rfl ?_
                exact ih _ _ _ _ _ _ h o M' hk
            · refine en_if_ne_f c33 rfl ?_
              refine en_aload rfl rfl ?_
              refine en_iload rfl rfl ?_
              obtain ⟨⟨q47, C48⟩, e49, h⟩ := gb h
              dsimp only at h
              refine ec_callV1 (k' := 210) (n := 2) (rc := 10) (a := p0) (as := [.int (cI C r10 (Int32.toNatClampNeg p3))]) ⟨rfl, rfl⟩ rfl rfl (Nat.le_of_ble_eq_true rfl) (Nat.le_of_ble_eq_true rfl) (Nat.le_of_ble_eq_true rfl) g7 rfl (t_210 e49) ?_
              rcases gi h with ⟨c50, h⟩ | ⟨c50, h⟩
              · refine en_if_ne_t c50 rfl ?_
                refine en_iload rfl rfl ?_
                refine ec_iconst cst_3 rfl ?_
                rcases gi h with ⟨c51, h⟩ | ⟨c51, h⟩
                · refine en_icmp_ne_t c51 rfl ?_
                  refine en_aload rfl rfl ?_
                  refine en_iload rfl rfl ?_
                  refine en_iload rfl rfl ?_
                  obtain ⟨⟨q52, C53⟩, e54, h⟩ := gb h
                  dsimp only at h
                  refine ec_callV0 (k' := 217) (n := 3) (rc := 10) (a := p0) (as := [.int (cI C r10 (Int32.toNatClampNeg p3)), .int (cI C r14 (Int32.toNatClampNeg p3))]) ⟨rfl, rfl⟩ rfl rfl (Nat.le_of_ble_eq_true rfl) (Nat.le_of_ble_eq_true rfl) (Nat.le_of_ble_eq_true rfl) g7 rfl (t_217 e54) ?_
                  refine en_aload rfl rfl ?_
                  refine en_iload rfl rfl ?_
                  obtain ⟨⟨q55, C56⟩, e57, h⟩ := gb h
                  dsimp only at h
                  refine ec_callV0 (k' := 218) (n := 2) (rc := 10) (a := p0) (as := [.int (cI C r10 (Int32.toNatClampNeg p3))]) ⟨rfl, rfl⟩ rfl rfl (Nat.le_of_ble_eq_true rfl) (Nat.le_of_ble_eq_true rfl) (Nat.le_of_ble_eq_true rfl) g7 rfl (t_218 e57) ?_
                  refine ec_iinc (l' := [(3, .int (p3 + (1 : Int32))), (5, .int (cI C r14 (Int32.toNatClampNeg p3))), (4, .int (cI C r10 (Int32.toNatClampNeg p3))), (0, .ref p0), (1, .int p1), (2, .int p2)]) rfl cst_1 rfl rfl ?_
                  refine en_goto rfl ?_
                  refine en_sub [3, 4, 5, 0] rfl rfl ?_
                  exact ih _ _ _ _ _ _ h o M' hk
                · refine en_icmp_ne_f c51 rfl ?_
                  refine en_aload rfl rfl ?_
                  refine en_iload rfl rfl ?_
                  refine en_iload rfl rfl ?_
                  obtain ⟨⟨q58, C59⟩, e60, h⟩ := gb h
                  dsimp only at h
                  refine ec_callV0 (k' := 221) (n := 3) (rc := 10) (a := p0) (as := [.int p3, .int (cI C r10 (Int32.toNatClampNeg p3))]) ⟨rfl, rfl⟩ rfl rfl (Nat.le_of_ble_eq_true rfl) (Nat.le_of_ble_eq_true rfl) (Nat.le_of_ble_eq_true rfl) g7 rfl (t_221 e60) ?_
                  refine en_goto rfl ?_
                  refine en_aload rfl rfl ?_
                  refine en_iload rfl rfl ?_
                  obtain ⟨⟨q61, C62⟩, e63, h⟩ := gb h
                  dsimp only at h
                  refine ec_callV0 (k' := 218) (n := 2) (rc := 10) (a := p0) (as := [.int (cI C r10 (Int32.toNatClampNeg p3))]) ⟨rfl, rfl⟩ rfl rfl (Nat.le_of_ble_eq_true rfl) (Nat.le_of_ble_eq_true rfl) (Nat.le_of_ble_eq_true rfl) g7 rfl (t_218 e63) ?_
                  refine ec_iinc (l' := [(3, .int (p3 + (1 : Int32))), (5, .int (cI C r14 (Int32.toNatClampNeg p3))), (4, .int (cI C r10 (Int32.toNatClampNeg p3))), (0, .ref p0), (1, .int p1), (2, .int p2)]) rfl cst_1 rfl rfl ?_
                  refine en_goto rfl ?_
                  refine en_sub [3, 4, 5, 0] rfl rfl ?_
                  exact ih _ _ _ _ _ _ h o M' hk
              · refine en_if_ne_f c50 rfl ?_
                refine en_goto rfl ?_
                refine ec_iinc (l' := [(3, .int (p3 + (1 : Int32))), (5, .int (cI C r14 (Int32.toNatClampNeg p3))), (4, .int (cI C r10 (Int32.toNatClampNeg p3))), (0, .ref p0), (1, .int p1), (2, .int p2)]) rfl cst_1 rfl rfl ?_
                refine en_goto rfl ?_
                refine en_sub [3, 4, 5, 0] rfl rfl ?_
                exact ih _ _ _ _ _ _ h o M' hk
        · refine en_icmp_eq_f c18 rfl ?_
          refine en_aload rfl rfl ?_
          obtain ⟨r64, e65, h⟩ := gb h
          refine ec_getP (ci := 10) (j := 57) ⟨rfl, rfl, rfl⟩ g7 e65 rfl ?_
          refine en_iload rfl rfl ?_
          obtain ⟨g66, h⟩ := gd h
          obtain ⟨g67, h⟩ := gd h
          refine ec_iaload g66 g67 rfl ?_
          rcases gi h with ⟨c68, h⟩ | ⟨c68, h⟩
          · refine en_if_ne_t c68 rfl ?_
            refine en_iload rfl rfl ?_
            refine ec_iconst cst_1 rfl ?_
            rcases gi h with ⟨c69, h⟩ | ⟨c69, h⟩
            · refine en_icmp_ne_t c69 rfl ?_
              refine en_iload rfl rfl ?_
              refine ec_iconst cst_3 rfl ?_
              rcases gi h with ⟨c70, h⟩ | ⟨c70, h⟩
              · refine en_icmp_ne_t c70 rfl ?_
                refine en_aload rfl rfl ?_
                refine en_iload rfl rfl ?_
                refine en_iload rfl rfl ?_
                obtain ⟨⟨q71, C72⟩, e73, h⟩ := gb h
                dsimp only at h
                refine ec_callV0 (k' := 217) (n := 3) (rc := 10) (a := p0) (as := [.int (cI C r10 (Int32.toNatClampNeg p3)), .int (cI C r14 (Int32.toNatClampNeg p3))]) ⟨rfl, rfl⟩ rfl rfl (Nat.le_of_ble_eq_true rfl) (Nat.le_of_ble_eq_true rfl) (Nat.le_of_ble_eq_true rfl) g7 rfl (t_217 e73) ?_
                refine en_aload rfl rfl ?_
                refine en_iload rfl rfl ?_
                obtain ⟨⟨q74, C75⟩, e76, h⟩ := gb h
                dsimp only at h
                refine ec_callV0 (k' := 218) (n := 2) (rc := 10) (a := p0) (as := [.int (cI C r10 (Int32.toNatClampNeg p3))]) ⟨rfl, rfl⟩ rfl rfl (Nat.le_of_ble_eq_true rfl) (Nat.le_of_ble_eq_true rfl) (Nat.le_of_ble_eq_true rfl) g7 rfl (t_218 e76) ?_
                refine ec_iinc (l' := [(3, .int (p3 + (1 : Int32))), (5, .int (cI C r14 (Int32.toNatClampNeg p3))), (4, .int (cI C r10 (Int32.toNatClampNeg p3))), (0, .ref p0), (1, .int p1), (2, .int p2)]) rfl cst_1 rfl rfl ?_
                refine en_goto rfl ?_
                refine en_sub [3, 4, 5, 0] rfl rfl ?_
                exact ih _ _ _ _ _ _ h o M' hk
              · refine en_icmp_ne_f c70 rfl ?_
                refine en_aload rfl rfl ?_
                refine en_iload rfl rfl ?_
                refine en_iload rfl rfl ?_
                obtain ⟨⟨q77, C78⟩, e79, h⟩ := gb h
                dsimp only at h
                refine ec_callV0 (k' := 221) (n := 3) (rc := 10) (a := p0) (as := [.int p3, .int (cI C r10 (Int32.toNatClampNeg p3))]) ⟨rfl, rfl⟩ rfl rfl (Nat.le_of_ble_eq_true rfl) (Nat.le_of_ble_eq_true rfl) (Nat.le_of_ble_eq_true rfl) g7 rfl (t_221 e79) ?_
                refine en_goto rfl ?_
                refine en_aload rfl rfl ?_
                refine en_iload rfl rfl ?_
                obtain ⟨⟨q80, C81⟩, e82, h⟩ := gb h
                dsimp only at h
                refine ec_callV0 (k' := 218) (n := 2) (rc := 10) (a := p0) (as := [.int (cI C r10 (Int32.toNatClampNeg p3))]) ⟨rfl, rfl⟩ rfl rfl (Nat.le_of_ble_eq_true rfl) (Nat.le_of_ble_eq_true rfl) (Nat.le_of_ble_eq_true rfl) g7 rfl (t_218 e82) ?_
                refine ec_iinc (l' := [(3, .int (p3 + (1 : Int32))), (5, .int (cI C r14 (Int32.toNatClampNeg p3))), (4, .int (cI C r10 (Int32.toNatClampNeg p3))), (0, .ref p0), (1, .int p1), (2, .int p2)]) rfl cst_1 rfl rfl ?_
                refine en_goto rfl ?_
                refine en_sub [3, 4, 5, 0] rfl rfl ?_
                exact ih _ _ _ _ _ _ h o M' hk
            · refine en_icmp_ne_f c69 rfl ?_
              refine en_iload rfl rfl ?_
              rcases gi h with ⟨c83, h⟩ | ⟨c83, h⟩
              · refine en_if_ne_t c83 rfl ?_
                refine en_iload rfl rfl ?_
                refine ec_iconst cst_3 rfl ?_
                rcases gi h with ⟨c84, h⟩ | ⟨c84, h⟩
                · refine en_icmp_ne_t c84 rfl ?_
                  refine en_aload rfl rfl ?_
                  refine en_iload rfl rfl ?_
                  refine en_iload rfl rfl ?_
                  obtain ⟨⟨q85, C86⟩, e87, h⟩ := gb h
                  dsimp only at h
                  refine ec_callV0 (k' := 217) (n := 3) (rc := 10) (a := p0) (as := [.int (cI C r10 (Int32.toNatClampNeg p3)), .int (cI C r14 (Int32.toNatClampNeg p3))]) ⟨rfl, rfl⟩ rfl rfl (Nat.le_of_ble_eq_true rfl) (Nat.le_of_ble_eq_true rfl) (Nat.le_of_ble_eq_true rfl) g7 rfl (t_217 e87) ?_
                  refine en_aload rfl rfl ?_
                  refine en_iload rfl rfl ?_
                  obtain ⟨⟨q88, C89⟩, e90, h⟩ := gb h
                  dsimp only at h
                  refine ec_callV0 (k' := 218) (n := 2) (rc := 10) (a := p0) (as := [.int (cI C r10 (Int32.toNatClampNeg p3))]) ⟨rfl, rfl⟩ rfl rfl (Nat.le_of_ble_eq_true rfl) (Nat.le_of_ble_eq_true rfl) (Nat.le_of_ble_eq_true rfl) g7 rfl (t_218 e90) ?_
                  refine ec_iinc (l' := [(3, .int (p3 + (1 : Int32))), (5, .int (cI C r14 (Int32.toNatClampNeg p3))), (4, .int (cI C r10 (Int32.toNatClampNeg p3))), (0, .ref p0), (1, .int p1), (2, .int p2)]) rfl cst_1 rfl rfl ?_
                  refine en_goto rfl ?_
                  refine en_sub [3, 4, 5, 0] rfl rfl ?_
                  exact ih _ _ _ _ _ _ h o M' hk
                · refine en_icmp_ne_f c84 rfl ?_
                  refine en_aload rfl rfl ?_
                  refine en_iload rfl rfl ?_
                  refine en_iload rfl rfl ?_
                  obtain ⟨⟨q91, C92⟩, e93, h⟩ := gb h
                  dsimp only at h
                  refine ec_callV0 (k' := 221) (n := 3) (rc := 10) (a := p0) (as := [.int p3, .int (cI C r10 (Int32.toNatClampNeg p3))]) ⟨rfl, rfl⟩ rfl rfl (Nat.le_of_ble_eq_true rfl) (Nat.le_of_ble_eq_true rfl) (Nat.le_of_ble_eq_true rfl) g7 rfl (t_221 e93) ?_
                  refine en_goto rfl ?_
                  refine en_aload rfl rfl ?_
                  refine en_iload rfl rfl ?_
                  obtain ⟨⟨q94, C95⟩, e96, h⟩ := gb h
                  dsimp only at h
                  refine ec_callV0 (k' := 218) (n := 2) (rc := 10) (a := p0) (as := [.int (cI C r10 (Int32.toNatClampNeg p3))]) ⟨rfl, rfl⟩ rfl rfl (Nat.le_of_ble_eq_true rfl) (Nat.le_of_ble_eq_true rfl) (Nat.le_of_ble_eq_true rfl) g7 rfl (t_218 e96) ?_
                  refine ec_iinc (l' := [(3, .int (p3 + (1 : Int32))), (5, .int (cI C r14 (Int32.toNatClampNeg p3))), (4, .int (cI C r10 (Int32.toNatClampNeg p3))), (0, .ref p0), (1, .int p1), (2, .int p2)]) rfl cst_1 rfl rfl ?_
                  refine en_goto rfl ?_
                  refine en_sub [3, 4, 5, 0] rfl rfl ?_
                  exact ih _ _ _ _ _ _ h o M' hk
              · refine en_if_ne_f c83 rfl ?_
                refine en_aload rfl rfl ?_
                refine en_iload rfl rfl ?_
                obtain ⟨⟨q97, C98⟩, e99, h⟩ := gb h
                dsimp only at h
                refine ec_callV1 (k' := 210) (n := 2) (rc := 10) (a := p0) (as := [.int (cI C r10 (Int32.toNatClampNeg p3))]) ⟨rfl, rfl⟩ rfl rfl (Nat.le_of_ble_eq_true rfl) (Nat.le_of_ble_eq_true rfl) (Nat.le_of_ble_eq_true rfl) g7 rfl (t_210 e99) ?_
                rcases gi h with ⟨c100, h⟩ | ⟨c100, h⟩
                · refine en_if_ne_t c100 rfl ?_
                  refine en_iload rfl rfl ?_
                  refine ec_iconst cst_3 rfl ?_
                  rcases gi h with ⟨c101, h⟩ | ⟨c101, h⟩
                  · refine en_icmp_ne_t c101 rfl ?_
                    refine en_aload rfl rfl ?_
                    refine en_iload rfl rfl ?_
                    refine en_iload rfl rfl ?_
                    obtain ⟨⟨q102, C103⟩, e104, h⟩ := gb h
                    dsimp only at h
                    refine ec_callV0 (k' := 217) (n := 3) (rc := 10) (a := p0) (as := [.int (cI C r10 (Int32.toNatClampNeg p3)), .int (cI C r14 (Int32.toNatClampNeg p3))]) ⟨rfl, rfl⟩ rfl rfl (Nat.le_of_ble_eq_true rfl) (Nat.le_of_ble_eq_true rfl) (Nat.le_of_ble_eq_true rfl) g7 rfl (t_217 e104) ?_
                    refine en_aload rfl rfl ?_
                    refine en_iload rfl rfl ?_
                    obtain ⟨⟨q105, C106⟩, e107, h⟩ := gb h
                    dsimp only at h
                    refine ec_callV0 (k' := 218) (n := 2) (rc := 10) (a := p0) (as := [.int (cI C r10 (Int32.toNatClampNeg p3))]) ⟨rfl, rfl⟩ rfl rfl (Nat.le_of_ble_eq_true rfl) (Nat.le_of_ble_eq_true rfl) (Nat.le_of_ble_eq_true rfl) g7 rfl (t_218 e107) ?_
                    refine ec_iinc (l' := [(3, .int (p3 + (1 : Int32))), (5, .int (cI C r14 (Int32.toNatClampNeg p3))), (4, .int (cI C r10 (Int32.toNatClampNeg p3))), (0, .ref p0), (1, .int p1), (2, .int p2)]) rfl cst_1 rfl rfl ?_
                    refine en_goto rfl ?_
                    refine en_sub [3, 4, 5, 0] rfl rfl ?_
                    exact ih _ _ _ _ _ _ h o M' hk
                  · refine en_icmp_ne_f c101 rfl ?_
                    refine en_aload rfl rfl ?_
                    refine en_iload rfl rfl ?_
                    refine en_iload rfl rfl ?_
                    obtain ⟨⟨q108, C109⟩, e110, h⟩ := gb h
                    dsimp only at h
                    refine ec_callV0 (k' := 221) (n := 3) (rc := 10) (a := p0) (as := [.int p3, .int (cI C r10 (Int32.toNatClampNeg p3))]) ⟨rfl, rfl⟩ rfl rfl (Nat.le_of_ble_eq_true rfl) (Nat.le_of_ble_eq_true rfl) (Nat.le_of_ble_eq_true rfl) g7 rfl (t_221 e110) ?_
                    refine en_goto rfl ?_
                    refine en_aload rfl rfl ?_
                    refine en_iload rfl rfl ?_
                    obtain ⟨⟨q111, C112⟩, e113, h⟩ := gb h
                    dsimp only at h
                    refine ec_callV0 (k' := 218) (n := 2) (rc := 10) (a := p0) (as := [.int (cI C r10 (Int32.toNatClampNeg p3))]) ⟨rfl, rfl⟩ rfl rfl (Nat.le_of_ble_eq_true rfl) (Nat.le_of_ble_eq_true rfl) (Nat.le_of_ble_eq_true rfl) g7 rfl (t_218 e113) ?_
                    refine ec_iinc (l' := [(3, .int (p3 + (1 : Int32))), (5, .int (cI C r14 (Int32.toNatClampNeg p3))), (4, .int (cI C r10 (Int32.toNatClampNeg p3))), (0, .ref p0), (1, .int p1), (2, .int p2)]) rfl cst_1 rfl rfl ?_
                    refine en_goto rfl ?_
                    refine en_sub [3, 4, 5, 0] rfl rfl ?_
                    exact ih _ _ _ _ _ _ h o M' hk
                · refine en_if_ne_f c100 rfl ?_
                  refine en_goto rfl ?_
                  refine ec_iinc (l' := [(3, .int (p3 + (1 : Int32))), (5, .int (cI C r14 (Int32.toNatClampNeg p3))), (4, .int (cI C r10 (Int32.toNatClampNeg p3))), (0, .ref p0), (1, .int p1), (2, .int p2)]) rfl cst_1 rfl rfl ?_
                  refine en_goto rfl ?_
                  refine en_sub [3, 4, 5, 0] rfl rfl ?_
                  exact ih _ _ _ _ _ _ h o M' hk
          · refine en_if_ne_f c68 rfl ?_
            refine en_goto rfl ?_
            refine ec_iinc (l' := [(3, .int (p3 + (1 : Int32))), (5, .int (cI C r14 (Int32.toNatClampNeg p3))), (4, .int (cI C r10 (Int32.toNatClampNeg p3))), (0, .ref p0), (1, .int p1), (2, .int p2)]) rfl cst_1 rfl rfl ?_
            refine en_goto rfl ?_
            refine en_sub [3, 4, 5, 0] rfl rfl ?_
            exact ih _ _ _ _ _ _ h o M' hk
/-- BulkWriterModel.goesOn(I)V -/
def f_220 (n : Nat) (a0 : Nat) (a1 : Int32) (C : AmC) : Option (Unit × AmC) := if isK a0 10 = true then (cP C a0 32).bind (fun r2 => if isK r2 12 = true then if amIn (cI C a0 59) (aLen r2) = true then (if ¬ (cI C r2 (Int32.toNatClampNeg (cI C a0 59))) = (3 : Int32) then (lp_220_13 n a0 a1 (0 : Int32) (0 : Int32) C).bind (fun q => match q with | (_, C116) => some ((), C116)) else (lp_220_13 n a0 a1 (1 : Int32) (0 : Int32) C).bind (fun q => match q with | (_, C119) => some ((), C119))) else none else none) else none
set_option maxRecDepth 20000 in
set_option maxHeartbeats 4000000 in
theorem t_220 {n : Nat} {a0 : Nat} {a1 : Int32} {C : AmC} {r : Unit} {C' : AmC} (h : f_220 n a0 a1 C = some (r, C')) : En false 220 0 [(0, .ref a0), (1, .int a1)] [] (mkM C) (.inl none) (mkM C') := by
  unfold f_220 at h
  refine en_aload rfl rfl ?_
  obtain ⟨g1, h⟩ := gd h
  obtain ⟨r2, e3, h⟩ := gb h
  refine ec_getP (ci := 10) (j := 32) ⟨rfl, rfl, rfl⟩ g1 e3 rfl ?_
  refine en_aload rfl rfl ?_
  refine ec_getI (ci := 10) (j := 59) ⟨rfl, rfl, rfl⟩ g1 rfl ?_
  obtain ⟨g4, h⟩ := gd h
  obtain ⟨g5, h⟩ := gd h
  refine ec_iaload g4 g5 rfl ?_
  refine ec_iconst cst_3 rfl ?_
  rcases gi h with ⟨c6, h⟩ | ⟨c6, h⟩
  · refine en_icmp_ne_t c6 rfl ?_
    refine ec_iconst cst_0 rfl ?_
    refine en_istore (l' := [(2, .int (0 : Int32)), (0, .ref a0), (1, .int a1)]) rfl rfl ?_
    refine ec_iconst cst_0 rfl ?_
    refine en_istore (l' := [(3, .int (0 : Int32)), (2, .int (0 : Int32)), (0, .ref a0), (1, .int a1)]) rfl rfl ?_
    obtain ⟨⟨q114, C116⟩, e115, h⟩ := gb h
    refine en_sub [2, 3, 1, 0] rfl rfl (lt_220_13 n _ _ _ _ _ _ e115 _ _ ?_)
    dsimp only at h ⊢
    cases h
    exact en_vret rfl
  · refine en_icmp_ne_f c6 rfl ?_
    refine ec_iconst cst_1 rfl ?_
    refine en_goto rfl ?_
    refine en_istore (l' := [(2, .int (1 : Int32)), (0, .ref a0), (1, .int a1)]) rfl rfl ?_
    refine ec_iconst cst_0 rfl ?_
    refine en_istore (l' := [(3, .int (0 : Int32)), (2, .int (1 : Int32)), (0, .ref a0), (1, .int a1)]) rfl rfl ?_
    obtain ⟨⟨q117, C119⟩, e118, h⟩ := gb h
    refine en_sub [2, 3, 1, 0] rfl rfl (lt_220_13 n _ _ _ _ _ _ e118 _ _ ?_)
    dsimp only at h ⊢
    cases h
    exact en_vret rfl
def lp_222_24 : Nat → Nat → Int32 → Int32 → Int32 → Int32 → Int32 → Int32 → AmC → Option (((Nat × Int32 × Int32 × Int32)) × AmC)
  | 0, _, _, _, _, _, _, _, _ => none
  | n + 1, p0, p2, p3, p4, p5, p6, p7, C => (if p7 = (-1 : Int32) then some ((p0, p2, p3, p6), C) else if isK p0 10 = true then (if ¬ (cI C p0 66) = 0 then some ((p0, p2, p3, p6), C) else (f_193 n p0 p7 p4 (uI C p0 69 ((cI C p0 69) + (1 : Int32)))).bind (fun z => match z with | (q22, C23) => (if q22 = p5 then (f_219 n p0 p7 p2 p3 C23).bind (fun z => match z with | (_, C27) => (f_205 n p0 p2 C27).bind (fun z => match z with | (q29, C30) => lp_222_24 n p0 p2 p3 p4 p5 (1 : Int32) q29 C30)) else (f_205 n p0 p2 C23).bind (fun z => match z with | (q32, C33) => lp_222_24 n p0 p2 p3 p4 p5 p6 q32 C33)))) else none)
set_option maxRecDepth 20000 in
set_option maxHeartbeats 4000000 in
theorem lt_222_24 : ∀ (n : Nat) (p0 : Nat) (p2 : Int32) (p3 : Int32) (p4 : Int32) (p5 : Int32) (p6 : Int32) (p7 : Int32) (C : AmC) (r : ((Nat × Int32 × Int32 × Int32)) × AmC), lp_222_24 n p0 p2 p3 p4 p5 p6 p7 C = some r → ∀ (o : AmO) (M' : AmM), (match r with
        | ((w0, w2, w3, w6), C') => En false 222 55 [(0, .ref w0), (2, .int w2), (3, .int w3), (6, .int w6)] [] (mkM C') o M') → En false 222 24 [(0, .ref p0), (2, .int p2), (3, .int p3), (4, .int p4), (5, .int p5), (6, .int p6), (7, .int p7)] [] (mkM C) o M' := by
  intro n
  induction n with
  | zero => intro p0 p2 p3 p4 p5 p6 p7 C r h; cases h
  | succ n ih =>
    intro p0 p2 p3 p4 p5 p6 p7 C r h o M' hk
    unfold lp_222_24 at h
    refine en_iload rfl rfl ?_
    refine ec_iconst cst_m1 rfl ?_
    rcases gi h with ⟨c19, h⟩ | ⟨c19, h⟩
    · refine en_icmp_eq_t c19 rfl ?_
      cases h
      exact en_sub [0, 1, 2, 5] rfl rfl hk
    · refine en_icmp_eq_f c19 rfl ?_
      refine en_aload rfl rfl ?_
      obtain ⟨g20, h⟩ := gd h
      refine ec_getI (ci := 10) (j := 66) ⟨rfl, rfl, rfl⟩ g20 rfl ?_
      rcases gi h with ⟨c21, h⟩ | ⟨c21, h⟩
      · refine en_if_ne_t c21 rfl ?_
        cases h
        exact en_sub [0, 1, 2, 5] rfl rfl hk
      · refine en_if_ne_f c21 rfl ?_
        refine en_aload rfl rfl ?_
        refine en_dup rfl rfl ?_
        refine ec_getI (ci := 10) (j := 69) ⟨rfl, rfl, rfl⟩ g20 rfl ?_
        refine ec_iconst cst_1 rfl ?_
        refine en_iadd rfl ?_
        refine ec_putI (ci := 10) (j := 69) ⟨rfl, rfl, rfl⟩ g20 rfl ?_
        refine en_aload rfl rfl ?_
        refine en_iload rfl rfl ?_
        refine en_iload rfl rfl ?_
        obtain ⟨⟨q22, C23⟩, e24, h⟩ := gb h
        dsimp only at h
        refine ec_callV1 (k' := 193) (n := 3) (rc := 10) (a := p0) (as := [.int p7, .int p4]) ⟨rfl, rfl⟩ rfl rfl (Nat.le_of_ble_eq_true rfl) (Nat.le_of_ble_eq_true rfl) (Nat.le_of_ble_eq_true rfl) g20 rfl (t_193 e24) ?_
        refine en_iload rfl rfl ?_
        rcases gi h with ⟨c25, h⟩ | ⟨c25, h⟩
        · refine en_icmp_eq_t c25 rfl ?_
          refine ec_iconst cst_1 rfl ?_
          refine en_istore (l' := [(6, .int (1 : Int32)), (0, .ref p0), (2, .int p2), (3, .int p3), (4, .int p4), (5, .int p5), (7, .int p7)]) rfl rfl ?_
          refine en_aload rfl rfl ?_
          refine en_iload rfl rfl ?_
          refine en_iload rfl rfl ?_
          refine en_iload rfl rfl ?_
          obtain ⟨⟨q26, C27⟩, e28, h⟩ := gb h
          dsimp only at h
          refine ec_callV0 (k' := 219) (n := 4) (rc := 10) (a := p0) (as := [.int p7, .int p2, .int p3]) ⟨rfl, rfl⟩ rfl rfl (Nat.le_of_ble_eq_true rfl) (Nat.le_of_ble_eq_true rfl) (Nat.le_of_ble_eq_true rfl) g20 rfl (t_219 e28) ?_
          refine en_aload rfl rfl ?_
          refine en_iload rfl rfl ?_
          obtain ⟨⟨q29, C30⟩, e31, h⟩ := gb h
          dsimp only at h
          refine ec_callV1 (k' := 205) (n := 2) (rc := 10) (a := p0) (as := [.int p2]) ⟨rfl, rfl⟩ rfl rfl (Nat.le_of_ble_eq_true rfl) (Nat.le_of_ble_eq_true rfl) (Nat.le_of_ble_eq_true rfl) g20 rfl (t_205 e31) ?_
          refine en_istore (l' := [(7, .int q29), (6, .int (1 : Int32)), (0, .ref p0), (2, .int p2), (3, .int p3), (4, .int p4), (5, .int p5)]) rfl rfl ?_
          refine en_goto rfl ?_
          refine en_sub [2, 3, 4, 5, 6, 1, 0] rfl rfl ?_
          exact ih _ _ _ _ _ _ _ _ _ h o M' hk
        · refine en_icmp_eq_f c25 rfl ?_
          refine en_goto rfl ?_
          refine en_aload rfl rfl ?_
          refine en_iload rfl rfl ?_
          obtain ⟨⟨q32, C33⟩, e34, h⟩ := gb h
          dsimp only at h
          refine ec_callV1 (k' := 205) (n := 2) (rc := 10) (a := p0) (as := [.int p2]) ⟨rfl, rfl⟩ rfl rfl (Nat.le_of_ble_eq_true rfl) (Nat.le_of_ble_eq_true rfl) (Nat.le_of_ble_eq_true rfl) g20 rfl (t_205 e34) ?_
          refine en_istore (l' := [(7, .int q32), (0, .ref p0), (2, .int p2), (3, .int p3), (4, .int p4), (5, .int p5), (6, .int p6)]) rfl rfl ?_
          refine en_goto rfl ?_
          refine en_sub [1, 2, 3, 4, 5, 6, 0] rfl rfl ?_
          exact ih _ _ _ _ _ _ _ _ _ h o M' hk
/-- BulkWriterModel.matches(III)V -/
def f_222 (n : Nat) (a0 : Nat) (a1 : Int32) (a2 : Int32) (a3 : Int32) (C : AmC) : Option (Unit × AmC) := if isK a0 10 = true then (cP C a0 34).bind (fun r2 => if isK r2 12 = true then if amIn (cI C a0 59) (aLen r2) = true then (cP C a0 35).bind (fun r6 => if isK r6 12 = true then if amIn (cI C a0 59) (aLen r6) = true then (f_206 n a0 a2 (cI C r6 (Int32.toNatClampNeg (cI C a0 59))) C).bind (fun z => match z with | (q10, C11) => (f_204 n a0 a1 C11).bind (fun z => match z with | (_, C14) => (f_205 n a0 a2 C14).bind (fun z => match z with | (q16, C17) => (lp_222_24 n a0 a2 a3 (cI C r2 (Int32.toNatClampNeg (cI C a0 59))) q10 (0 : Int32) q16 C17).bind (fun q => match q with | ((u38, u39, u40, u41), C37) => if isK u38 10 = true then (if ¬ (cI C37 u38 66) = 0 then some ((), C37) else (if ¬ u41 = 0 then some ((), C37) else (cP C37 u38 39).bind (fun r45 => if isK r45 12 = true then if amIn ((4 : Int32) * (cI C37 u38 59)) (aLen r45) = true then (if (cI C37 r45 (Int32.toNatClampNeg ((4 : Int32) * (cI C37 u38 59)))) = (-1 : Int32) then some ((), C37) else (f_219 n u38 (-1 : Int32) u39 u40 C37).bind (fun z => match z with | (_, C51) => some ((), C51))) else none else none))) else none)))) else none else none) else none else none) else none
set_option maxRecDepth 20000 in
set_option maxHeartbeats 4000000 in
theorem t_222 {n : Nat} {a0 : Nat} {a1 : Int32} {a2 : Int32} {a3 : Int32} {C : AmC} {r : Unit} {C' : AmC} (h : f_222 n a0 a1 a2 a3 C = some (r, C')) : En false 222 0 [(0, .ref a0), (1, .int a1), (2, .int a2), (3, .int a3)] [] (mkM C) (.inl none) (mkM C') := by
  unfold f_222 at h
  refine en_aload rfl rfl ?_
  obtain ⟨g1, h⟩ := gd h
  obtain ⟨r2, e3, h⟩ := gb h
  refine ec_getP (ci := 10) (j := 34) ⟨rfl, rfl, rfl⟩ g1 e3 rfl ?_
  refine en_aload rfl rfl ?_
  refine ec_getI (ci := 10) (j := 59) ⟨rfl, rfl, rfl⟩ g1 rfl ?_
  obtain ⟨g4, h⟩ := gd h
  obtain ⟨g5, h⟩ := gd h
  refine ec_iaload g4 g5 rfl ?_
  refine en_istore (l' := [(4, .int (cI C r2 (Int32.toNatClampNeg (cI C a0 59)))), (0, .ref a0), (1, .int a1), (2, .int a2), (3, .int a3)]) rfl rfl ?_
  refine en_aload rfl rfl ?_
  refine en_iload rfl rfl ?_
  refine en_aload rfl rfl ?_
  obtain ⟨r6, e7, h⟩ := gb h
  refine ec_getP (ci := 10) (j := 35) ⟨rfl, rfl, rfl⟩ g1 e7 rfl ?_
  refine en_aload rfl rfl ?_
  refine ec_getI (ci := 10) (j := 59) ⟨rfl, rfl, rfl⟩ g1 rfl ?_
  obtain ⟨g8, h⟩ := gd h
  obtain ⟨g9, h⟩ := gd h
  refine ec_iaload g8 g9 rfl ?_
  obtain ⟨⟨q10, C11⟩, e12, h⟩ := gb h
  dsimp only at h
  refine ec_callV1 (k' := 206) (n := 3) (rc := 10) (a := a0) (as := [.int a2, .int (cI C r6 (Int32.toNatClampNeg (cI C a0 59)))]) ⟨rfl, rfl⟩ rfl rfl (Nat.le_of_ble_eq_true rfl) (Nat.le_of_ble_eq_true rfl) (Nat.le_of_ble_eq_true rfl) g1 rfl (t_206 e12) ?_
  refine en_istore (l' := [(5, .int q10), (4, .int (cI C r2 (Int32.toNatClampNeg (cI C a0 59)))), (0, .ref a0), (1, .int a1), (2, .int a2), (3, .int a3)]) rfl rfl ?_
  refine ec_iconst cst_0 rfl ?_
  refine en_istore (l' := [(6, .int (0 : Int32)), (5, .int q10), (4, .int (cI C r2 (Int32.toNatClampNeg (cI C a0 59)))), (0, .ref a0), (1, .int a1), (2, .int a2), (3, .int a3)]) rfl rfl ?_
  refine en_aload rfl rfl ?_
  refine en_iload rfl rfl ?_
  obtain ⟨⟨q13, C14⟩, e15, h⟩ := gb h
  dsimp only at h
  refine ec_callV0 (k' := 204) (n := 2) (rc := 10) (a := a0) (as := [.int a1]) ⟨rfl, rfl⟩ rfl rfl (Nat.le_of_ble_eq_true rfl) (Nat.le_of_ble_eq_true rfl) (Nat.le_of_ble_eq_true rfl) g1 rfl (t_204 e15) ?_
  refine en_aload rfl rfl ?_
  refine en_iload rfl rfl ?_
  obtain ⟨⟨q16, C17⟩, e18, h⟩ := gb h
  dsimp only at h
  refine ec_callV1 (k' := 205) (n := 2) (rc := 10) (a := a0) (as := [.int a2]) ⟨rfl, rfl⟩ rfl rfl (Nat.le_of_ble_eq_true rfl) (Nat.le_of_ble_eq_true rfl) (Nat.le_of_ble_eq_true rfl) g1 rfl (t_205 e18) ?_
  refine en_istore (l' := [(7, .int q16), (6, .int (0 : Int32)), (5, .int q10), (4, .int (cI C r2 (Int32.toNatClampNeg (cI C a0 59)))), (0, .ref a0), (1, .int a1), (2, .int a2), (3, .int a3)]) rfl rfl ?_
  obtain ⟨⟨q35, C37⟩, e36, h⟩ := gb h
  refine en_sub [4, 6, 7, 3, 2, 1, 0] rfl rfl (lt_222_24 n _ _ _ _ _ _ _ _ _ e36 _ _ ?_)
  obtain ⟨u38, u39, u40, u41⟩ := q35
  dsimp only at h ⊢
  refine en_aload rfl rfl ?_
  obtain ⟨g42, h⟩ := gd h
  refine ec_getI (ci := 10) (j := 66) ⟨rfl, rfl, rfl⟩ g42 rfl ?_
  rcases gi h with ⟨c43, h⟩ | ⟨c43, h⟩
  · refine en_if_ne_t c43 rfl ?_
    cases h
    exact en_vret rfl
  · refine en_if_ne_f c43 rfl ?_
    refine en_iload rfl rfl ?_
    rcases gi h with ⟨c44, h⟩ | ⟨c44, h⟩
    · refine en_if_ne_t c44 rfl ?_
      cases h
      exact en_vret rfl
    · refine en_if_ne_f c44 rfl ?_
      refine en_aload rfl rfl ?_
      obtain ⟨r45, e46, h⟩ := gb h
      refine ec_getP (ci := 10) (j := 39) ⟨rfl, rfl, rfl⟩ g42 e46 rfl ?_
      refine ec_iconst cst_4 rfl ?_
      refine en_aload rfl rfl ?_
      refine ec_getI (ci := 10) (j := 59) ⟨rfl, rfl, rfl⟩ g42 rfl ?_
      refine en_imul rfl ?_
      obtain ⟨g47, h⟩ := gd h
      obtain ⟨g48, h⟩ := gd h
      refine ec_iaload g47 g48 rfl ?_
      refine ec_iconst cst_m1 rfl ?_
      rcases gi h with ⟨c49, h⟩ | ⟨c49, h⟩
      · refine en_icmp_eq_t c49 rfl ?_
        cases h
        exact en_vret rfl
      · refine en_icmp_eq_f c49 rfl ?_
        refine en_aload rfl rfl ?_
        refine ec_iconst cst_m1 rfl ?_
        refine en_iload rfl rfl ?_
        refine en_iload rfl rfl ?_
        obtain ⟨⟨q50, C51⟩, e52, h⟩ := gb h
        dsimp only at h
        refine ec_callV0 (k' := 219) (n := 4) (rc := 10) (a := u38) (as := [.int (-1 : Int32), .int u39, .int u40]) ⟨rfl, rfl⟩ rfl rfl (Nat.le_of_ble_eq_true rfl) (Nat.le_of_ble_eq_true rfl) (Nat.le_of_ble_eq_true rfl) g42 rfl (t_219 e52) ?_
        cases h
        exact en_vret rfl
def lp_223_25 : Nat → Nat → Int32 → Int32 → Int32 → AmC → Option (((Nat × Int32 × Int32 × Int32) ⊕ (Nat × Int32)) × AmC)
  | 0, _, _, _, _, _ => none
  | n + 1, p0, p1, p2, p3, C => if isK p0 10 = true then (cP C p0 24).bind (fun r14 => if isK r14 12 = true then if amIn (cI C p0 40) (aLen r14) = true then (if (cI C r14 (Int32.toNatClampNeg (cI C p0 40))) ≤ p3 then some ((.inr (p0, p1)), C) else (cP C p0 57).bind (fun r19 => if isK r19 12 = true then if amIn p1 (aLen r19) = true then (if ¬ (cI C r19 (Int32.toNatClampNeg p1)) = (1 : Int32) then some ((.inr (p0, p1)), C) else (cP C p0 35).bind (fun r24 => if isK r24 12 = true then if amIn (cI C p0 59) (aLen r24) = true then (f_206 n p0 p3 (cI C r24 (Int32.toNatClampNeg (cI C p0 59))) C).bind (fun z => match z with | (q28, C29) => (cP C29 p0 34).bind (fun r31 => if isK r31 12 = true then if amIn (cI C29 p0 59) (aLen r31) = true then (f_193 n p0 p1 (cI C29 r31 (Int32.toNatClampNeg (cI C29 p0 59))) C29).bind (fun z => match z with | (q35, C36) => (if q28 = q35 then (if ¬ p2 = (-1 : Int32) then some ((.inl (p0, p1, p2, p3)), C36) else lp_223_25 n p0 p1 p3 (p3 + (1 : Int32)) C36) else lp_223_25 n p0 p1 p2 (p3 + (1 : Int32)) C36)) else none else none)) else none else none)) else none else none)) else none else none) else none
set_option maxRecDepth 20000 in
set_option maxHeartbeats 4000000 in
theorem lt_223_25 : ∀ (n : Nat) (p0 : Nat) (p1 : Int32) (p2 : Int32) (p3 : Int32) (C : AmC) (r : ((Nat × Int32 × Int32 × Int32) ⊕ (Nat × Int32)) × AmC), lp_223_25 n p0 p1 p2 p3 C = some r → ∀ (o : AmO) (M' : AmM), (match r with
        | ((.inl (w0, w1, w2, w3)), C') => En false 223 62 [(0, .ref w0), (1, .int w1), (2, .int w2), (3, .int w3)] [] (mkM C') o M'
        | ((.inr (w0, w1)), C') => En false 223 79 [(0, .ref w0), (1, .int w1)] [] (mkM C') o M') → En false 223 25 [(0, .ref p0), (1, .int p1), (2, .int p2), (3, .int p3)] [] (mkM C) o M' := by
  intro n
  induction n with
  | zero => intro p0 p1 p2 p3 C r h; cases h
  | succ n ih =>
    intro p0 p1 p2 p3 C r h o M' hk
    unfold lp_223_25 at h
    refine en_iload rfl rfl ?_
    refine en_aload rfl rfl ?_
    obtain ⟨g13, h⟩ := gd h
    obtain ⟨r14, e15, h⟩ := gb h
    refine ec_getP (ci := 10) (j := 24) ⟨rfl, rfl, rfl⟩ g13 e15 rfl ?_
    refine en_aload rfl rfl ?_
    refine ec_getI (ci := 10) (j := 40) ⟨rfl, rfl, rfl⟩ g13 rfl ?_
    obtain ⟨g16, h⟩ := gd h
    obtain ⟨g17, h⟩ := gd h
    refine ec_iaload g16 g17 rfl ?_
    rcases gi h with ⟨c18, h⟩ | ⟨c18, h⟩
    · refine en_icmp_ge_t c18 rfl ?_
      cases h
      exact en_sub [0, 1] rfl rfl hk
    · refine en_icmp_ge_f c18 rfl ?_
      refine en_aload rfl rfl ?_
      obtain ⟨r19, e20, h⟩ := gb h
      refine ec_getP (ci := 10) (j := 57) ⟨rfl, rfl, rfl⟩ g13 e20 rfl ?_
      refine en_iload rfl rfl ?_
      obtain ⟨g21, h⟩ := gd h
      obtain ⟨g22, h⟩ := gd h
      refine ec_iaload g21 g22 rfl ?_
      refine ec_iconst cst_1 rfl ?_
      rcases gi h with ⟨c23, h⟩ | ⟨c23, h⟩
      · refine en_icmp_ne_t c23 rfl ?_
        cases h
        exact en_sub [0, 1] rfl rfl hk
      · refine en_icmp_ne_f c23 rfl ?_
        refine en_aload rfl rfl ?_
        refine en_iload rfl rfl ?_
        refine en_aload rfl rfl ?_
        obtain ⟨r24, e25, h⟩ := gb h
        refine ec_getP (ci := 10) (j := 35) ⟨rfl, rfl, rfl⟩ g13 e25 rfl ?_
        refine en_aload rfl rfl ?_
        refine ec_getI (ci := 10) (j := 59) ⟨rfl, rfl, rfl⟩ g13 rfl ?_
        obtain ⟨g26, h⟩ := gd h
        obtain ⟨g27, h⟩ := gd h
        refine ec_iaload g26 g27 rfl ?_
        obtain ⟨⟨q28, C29⟩, e30, h⟩ := gb h
        dsimp only at h
        refine ec_callV1 (k' := 206) (n := 3) (rc := 10) (a := p0) (as := [.int p3, .int (cI C r24 (Int32.toNatClampNeg (cI C p0 59)))]) ⟨rfl, rfl⟩ rfl rfl (Nat.le_of_ble_eq_true rfl) (Nat.le_of_ble_eq_true rfl) (Nat.le_of_ble_eq_true rfl) g13 rfl (t_206 e30) ?_
        refine en_aload rfl rfl ?_
        refine en_iload rfl rfl ?_
        refine en_aload rfl rfl ?_
        obtain ⟨r31, e32, h⟩ := gb h
        refine ec_getP (ci := 10) (j := 34) ⟨rfl, rfl, rfl⟩ g13 e32 rfl ?_
        refine en_aload rfl rfl ?_
        refine ec_getI (ci := 10) (j := 59) ⟨rfl, rfl, rfl⟩ g13 rfl ?_
        obtain ⟨g33, h⟩ := gd h
        obtain ⟨g34, h⟩ := gd h
        refine ec_iaload g33 g34 rfl ?_
        obtain ⟨⟨q35, C36⟩, e37, h⟩ := gb h
        dsimp only at h
        refine ec_callV1 (k' := 193) (n := 3) (rc := 10) (a := p0) (as := [.int p1, .int (cI C29 r31 (Int32.toNatClampNeg (cI C29 p0 59)))]) ⟨rfl, rfl⟩ rfl rfl (Nat.le_of_ble_eq_true rfl) (Nat.le_of_ble_eq_true rfl) (Nat.le_of_ble_eq_true rfl) g13 rfl (t_193 e37) ?_
        rcases gi h with ⟨c38, h⟩ | ⟨c38, h⟩
        · refine en_icmp_eq_t c38 rfl ?_
          refine en_iload rfl rfl ?_
          refine ec_iconst cst_m1 rfl ?_
          rcases gi h with ⟨c39, h⟩ | ⟨c39, h⟩
          · refine en_icmp_ne_t c39 rfl ?_
            cases h
            exact en_sub [0, 1, 2, 3] rfl rfl hk
          · refine en_icmp_ne_f c39 rfl ?_
            refine en_iload rfl rfl ?_
            refine en_istore (l' := [(2, .int p3), (0, .ref p0), (1, .int p1), (3, .int p3)]) rfl rfl ?_
            refine en_goto rfl ?_
            refine ec_iinc (l' := [(3, .int (p3 + (1 : Int32))), (2, .int p3), (0, .ref p0), (1, .int p1)]) rfl cst_1 rfl rfl ?_
            refine en_goto rfl ?_
            refine en_sub [2, 3, 1, 0] rfl rfl ?_
            exact ih _ _ _ _ _ _ h o M' hk
        · refine en_icmp_eq_f c38 rfl ?_
          refine en_goto rfl ?_
          refine ec_iinc (l' := [(3, .int (p3 + (1 : Int32))), (0, .ref p0), (1, .int p1), (2, .int p2)]) rfl cst_1 rfl rfl ?_
          refine en_goto rfl ?_
          refine en_sub [1, 2, 3, 0] rfl rfl ?_
          exact ih _ _ _ _ _ _ h o M' hk
def lp_223_18 : Nat → Nat → Int32 → AmC → Option (((Nat × Int32 × Int32 × Int32) ⊕ (Unit)) × AmC)
  | 0, _, _, _ => none
  | n + 1, p0, p1, C => (if (30 : Int32) ≤ p1 then some ((.inr ()), C) else (lp_223_25 n p0 p1 (-1 : Int32) (0 : Int32) C).bind (fun q => match q with | ((.inl (u43, u44, u45, u46)), C42) => some ((.inl (u43, u44, u45, u46)), C42) | ((.inr (u47, u48)), C42) => lp_223_18 n u47 (u48 + (1 : Int32)) C42))
set_option maxRecDepth 20000 in
set_option maxHeartbeats 4000000 in
theorem lt_223_18 : ∀ (n : Nat) (p0 : Nat) (p1 : Int32) (C : AmC) (r : ((Nat × Int32 × Int32 × Int32) ⊕ (Unit)) × AmC), lp_223_18 n p0 p1 C = some r → ∀ (o : AmO) (M' : AmM), (match r with
        | ((.inl (w0, w1, w2, w3)), C') => En false 223 62 [(0, .ref w0), (1, .int w1), (2, .int w2), (3, .int w3)] [] (mkM C') o M'
        | ((.inr _), C') => En false 223 81 [] [] (mkM C') o M') → En false 223 18 [(0, .ref p0), (1, .int p1)] [] (mkM C) o M' := by
  intro n
  induction n with
  | zero => intro p0 p1 C r h; cases h
  | succ n ih =>
    intro p0 p1 C r h o M' hk
    unfold lp_223_18 at h
    refine en_iload rfl rfl ?_
    refine ec_iconst cst_30 rfl ?_
    rcases gi h with ⟨c12, h⟩ | ⟨c12, h⟩
    · refine en_icmp_ge_t c12 rfl ?_
      cases h
      exact en_sub [] rfl rfl hk
    · refine en_icmp_ge_f c12 rfl ?_
      refine ec_iconst cst_m1 rfl ?_
      refine en_istore (l' := [(2, .int (-1 : Int32)), (0, .ref p0), (1, .int p1)]) rfl rfl ?_
      refine ec_iconst cst_0 rfl ?_
      refine en_istore (l' := [(3, .int (0 : Int32)), (2, .int (-1 : Int32)), (0, .ref p0), (1, .int p1)]) rfl rfl ?_
      obtain ⟨⟨q40, C42⟩, e41, h⟩ := gb h
      refine en_sub [2, 3, 1, 0] rfl rfl (lt_223_25 n _ _ _ _ _ _ e41 o M' ?_)
      rcases q40 with ⟨u43, u44, u45, u46⟩ | ⟨u47, u48⟩
      · dsimp only at h ⊢
        cases h
        exact en_sub [0, 1, 2, 3] rfl rfl hk
      · dsimp only at h ⊢
        refine ec_iinc (l' := [(1, .int (u48 + (1 : Int32))), (0, .ref u47)]) rfl cst_1 rfl rfl ?_
        refine en_goto rfl ?_
        refine en_sub [1, 0] rfl rfl ?_
        exact ih _ _ _ _ h o M' hk
/-- BulkWriterModel.isDouble()Z -/
def f_223 (n : Nat) (a0 : Nat) (C : AmC) : Option (Int32 × AmC) := if isK a0 10 = true then (cP C a0 32).bind (fun r2 => if isK r2 12 = true then if amIn (cI C a0 59) (aLen r2) = true then (if ¬ (cI C r2 (Int32.toNatClampNeg (cI C a0 59))) = (3 : Int32) then some ((0 : Int32), C) else (cP C a0 33).bind (fun r7 => if isK r7 12 = true then if amIn (cI C a0 59) (aLen r7) = true then (if ¬ (cI C r7 (Int32.toNatClampNeg (cI C a0 59))) = (2 : Int32) then (lp_223_18 n a0 (0 : Int32) C).bind (fun q => match q with | ((.inl (u52, u53, u54, u55)), C51) => if isK u52 10 = true then some ((1 : Int32), uI (uI (uI C51 u52 66 (1 : Int32)) u52 67 u53) u52 68 (((100 : Int32) * u54) + u55)) else none | ((.inr _), C51) => some ((0 : Int32), C51)) else some ((0 : Int32), C)) else none else none)) else none else none) else none
set_option maxRecDepth 20000 in
set_option maxHeartbeats 4000000 in
theorem t_223 {n : Nat} {a0 : Nat} {C : AmC} {r : Int32} {C' : AmC} (h : f_223 n a0 C = some (r, C')) : En false 223 0 [(0, .ref a0)] [] (mkM C) (.inl (some (.int r))) (mkM C') := by
  unfold f_223 at h
  refine en_aload rfl rfl ?_
  obtain ⟨g1, h⟩ := gd h
  obtain ⟨r2, e3, h⟩ := gb h
  refine ec_getP (ci := 10) (j := 32) ⟨rfl, rfl, rfl⟩ g1 e3 rfl ?_
  refine en_aload rfl rfl ?_
  refine ec_getI (ci := 10) (j := 59) ⟨rfl, rfl, rfl⟩ g1 rfl ?_
  obtain ⟨g4, h⟩ := gd h
  obtain ⟨g5, h⟩ := gd h
  refine ec_iaload g4 g5 rfl ?_
  refine ec_iconst cst_3 rfl ?_
  rcases gi h with ⟨c6, h⟩ | ⟨c6, h⟩
  · refine en_icmp_ne_t c6 rfl ?_
    refine ec_iconst cst_0 rfl ?_
    cases h
    exact en_zret (Or.inl rfl) rfl
  · refine en_icmp_ne_f c6 rfl ?_
    refine en_aload rfl rfl ?_
    obtain ⟨r7, e8, h⟩ := gb h
    refine ec_getP (ci := 10) (j := 33) ⟨rfl, rfl, rfl⟩ g1 e8 rfl ?_
    refine en_aload rfl rfl ?_
    refine ec_getI (ci := 10) (j := 59) ⟨rfl, rfl, rfl⟩ g1 rfl ?_
    obtain ⟨g9, h⟩ := gd h
    obtain ⟨g10, h⟩ := gd h
    refine ec_iaload g9 g10 rfl ?_
    refine ec_iconst cst_2 rfl ?_
    rcases gi h with ⟨c11, h⟩ | ⟨c11, h⟩
    · refine en_icmp_ne_t c11 rfl ?_
      refine ec_iconst cst_0 rfl ?_
      refine en_istore (l' := [(1, .int (0 : Int32)), (0, .ref a0)]) rfl rfl ?_
      obtain ⟨⟨q49, C51⟩, e50, h⟩ := gb h
      refine en_sub [1, 0] rfl rfl (lt_223_18 n _ _ _ _ e50 _ _ ?_)
      rcases q49 with ⟨u52, u53, u54, u55⟩ | ⟨⟩
      · dsimp only at h ⊢
        refine en_aload rfl rfl ?_
        refine ec_iconst cst_1 rfl ?_
        obtain ⟨g56, h⟩ := gd h
        refine ec_putI (ci := 10) (j := 66) ⟨rfl, rfl, rfl⟩ g56 rfl ?_
        refine en_aload rfl rfl ?_
        refine en_iload rfl rfl ?_
        refine ec_putI (ci := 10) (j := 67) ⟨rfl, rfl, rfl⟩ g56 rfl ?_
        refine en_aload rfl rfl ?_
        refine ec_iconst cst_100 rfl ?_
        refine en_iload rfl rfl ?_
        refine en_imul rfl ?_
        refine en_iload rfl rfl ?_
        refine en_iadd rfl ?_
        refine ec_putI (ci := 10) (j := 68) ⟨rfl, rfl, rfl⟩ g56 rfl ?_
        refine ec_iconst cst_1 rfl ?_
        cases h
        exact en_zret (Or.inr rfl) rfl
      · dsimp only at h ⊢
        refine ec_iconst cst_0 rfl ?_
        cases h
        exact en_zret (Or.inl rfl) rfl
    · refine en_icmp_ne_f c11 rfl ?_
      refine ec_iconst cst_0 rfl ?_
      cases h
      exact en_zret (Or.inl rfl) rfl
def lp_224_23 : Nat → Nat → Int32 → Int32 → Int32 → Int32 → AmC → Option (((Nat × Int32 × Int32 × Int32)) × AmC)
  | 0, _, _, _, _, _, _ => none
  | n + 1, p0, p1, p2, p3, p4, C => (if (30 : Int32) ≤ p4 then some ((p0, p1, p2, p3), C) else if isK p0 10 = true then (cP C p0 74).bind (fun r4 => if isK r4 12 = true then if amIn p4 (aLen r4) = true then lp_224_23 n p0 p1 p2 p3 (p4 + (1 : Int32)) (uI C r4 (Int32.toNatClampNeg p4) (0 : Int32)) else none else none) else none)
set_option maxRecDepth 20000 in
set_option maxHeartbeats 4000000 in
theorem lt_224_23 : ∀ (n : Nat) (p0 : Nat) (p1 : Int32) (p2 : Int32) (p3 : Int32) (p4 : Int32) (C : AmC) (r : ((Nat × Int32 × Int32 × Int32)) × AmC), lp_224_23 n p0 p1 p2 p3 p4 C = some r → ∀ (o : AmO) (M' : AmM), (match r with
        | ((w0, w1, w2, w3), C') => En false 224 33 [(0, .ref w0), (1, .int w1), (2, .int w2), (3, .int w3)] [] (mkM C') o M') → En false 224 23 [(0, .ref p0), (1, .int p1), (2, .int p2), (3, .int p3), (4, .int p4)] [] (mkM C) o M' := by
  intro n
  induction n with
  | zero => intro p0 p1 p2 p3 p4 C r h; cases h
  | succ n ih =>
    intro p0 p1 p2 p3 p4 C r h o M' hk
    unfold lp_224_23 at h
    refine en_iload rfl rfl ?_
    refine ec_iconst cst_30 rfl ?_
    rcases gi h with ⟨c2, h⟩ | ⟨c2, h⟩
    · refine en_icmp_ge_t c2 rfl ?_
      cases h
      exact en_sub [0, 1, 2, 3] rfl rfl hk
    · refine en_icmp_ge_f c2 rfl ?_
      refine en_aload rfl rfl ?_
      obtain ⟨g3, h⟩ := gd h
      obtain ⟨r4, e5, h⟩ := gb h
      refine ec_getP (ci := 10) (j := 74) ⟨rfl, rfl, rfl⟩ g3 e5 rfl ?_
      refine en_iload rfl rfl ?_
      refine ec_iconst cst_0 rfl ?_
      obtain ⟨g6, h⟩ := gd h
      obtain ⟨g7, h⟩ := gd h
      refine ec_iastore g6 g7 rfl ?_
      refine ec_iinc (l' := [(4, .int (p4 + (1 : Int32))), (0, .ref p0), (1, .int p1), (2, .int p2), (3, .int p3)]) rfl cst_1 rfl rfl ?_
      refine en_goto rfl ?_
      refine en_sub [1, 2, 3, 4, 0] rfl rfl ?_
      exact ih _ _ _ _ _ _ _ h o M' hk
def lp_224_70 : Nat → Nat → Int32 → Int32 → AmC → Option (((Nat × Int32)) × AmC)
  | 0, _, _, _, _ => none
  | n + 1, p0, p3, p4, C => (if p4 = (-1 : Int32) then some ((p0, p3), C) else if isK p0 10 = true then (if ¬ (cI C p0 66) = 0 then some ((p0, p3), C) else (f_219 n p0 p4 (0 : Int32) p3 (uI C p0 69 ((cI C p0 69) + (1 : Int32)))).bind (fun z => match z with | (_, C35) => (f_205 n p0 (0 : Int32) C35).bind (fun z => match z with | (q37, C38) => lp_224_70 n p0 p3 q37 C38))) else none)
set_option maxRecDepth 20000 in
set_option maxHeartbeats 4000000 in
theorem lt_224_70 : ∀ (n : Nat) (p0 : Nat) (p3 : Int32) (p4 : Int32) (C : AmC) (r : ((Nat × Int32)) × AmC), lp_224_70 n p0 p3 p4 C = some r → ∀ (o : AmO) (M' : AmM), (match r with
        | ((w0, w3), C') => En false 224 92 [(0, .ref w0), (3, .int w3)] [] (mkM C') o M') → En false 224 70 [(0, .ref p0), (3, .int p3), (4, .int p4)] [] (mkM C) o M' := by
  intro n
  induction n with
  | zero => intro p0 p3 p4 C r h; cases h
  | succ n ih =>
    intro p0 p3 p4 C r h o M' hk
    unfold lp_224_70 at h
    refine en_iload rfl rfl ?_
    refine ec_iconst cst_m1 rfl ?_
    rcases gi h with ⟨c31, h⟩ | ⟨c31, h⟩
    · refine en_icmp_eq_t c31 rfl ?_
      cases h
      exact en_sub [0, 1] rfl rfl hk
    · refine en_icmp_eq_f c31 rfl ?_
      refine en_aload rfl rfl ?_
      obtain ⟨g32, h⟩ := gd h
      refine ec_getI (ci := 10) (j := 66) ⟨rfl, rfl, rfl⟩ g32 rfl ?_
      rcases gi h with ⟨c33, h⟩ | ⟨c33, h⟩
      · refine en_if_ne_t c33 rfl ?_
        cases h
        exact en_sub [0, 1] rfl rfl hk
      · refine en_if_ne_f c33 rfl ?_
        refine en_aload rfl rfl ?_
        refine en_dup rfl rfl ?_
        refine ec_getI (ci := 10) (j := 69) ⟨rfl, rfl, rfl⟩ g32 rfl ?_
        refine ec_iconst cst_1 rfl ?_
        refine en_iadd rfl ?_
        refine ec_putI (ci := 10) (j := 69) ⟨rfl, rfl, rfl⟩ g32 rfl ?_
        refine en_aload rfl rfl ?_
        refine en_iload rfl rfl ?_
        refine ec_iconst cst_0 rfl ?_
        refine en_iload rfl rfl ?_
        obtain ⟨⟨q34, C35⟩, e36, h⟩ := gb h
        dsimp only at h
        refine ec_callV0 (k' := 219) (n := 4) (rc := 10) (a := p0) (as := [.int p4, .int (0 : Int32), .int p3]) ⟨rfl, rfl⟩ rfl rfl (Nat.le_of_ble_eq_true rfl) (Nat.le_of_ble_eq_true rfl) (Nat.le_of_ble_eq_true rfl) g32 rfl (t_219 e36) ?_
        refine en_aload rfl rfl ?_
        refine ec_iconst cst_0 rfl ?_
        obtain ⟨⟨q37, C38⟩, e39, h⟩ := gb h
        dsimp only at h
        refine ec_callV1 (k' := 205) (n := 2) (rc := 10) (a := p0) (as := [.int (0 : Int32)]) ⟨rfl, rfl⟩ rfl rfl (Nat.le_of_ble_eq_true rfl) (Nat.le_of_ble_eq_true rfl) (Nat.le_of_ble_eq_true rfl) g32 rfl (t_205 e39) ?_
        refine en_istore (l' := [(4, .int q37), (0, .ref p0), (3, .int p3)]) rfl rfl ?_
        refine en_goto rfl ?_
        refine en_sub [1, 2, 0] rfl rfl ?_
        exact ih _ _ _ _ _ h o M' hk
def lp_224_45 : Nat → Nat → Int32 → Int32 → Int32 → AmC → Option (((Nat × Int32)) × AmC)
  | 0, _, _, _, _, _ => none
  | n + 1, p0, p2, p3, p4, C => if isK p0 10 = true then (cP C p0 24).bind (fun r50 => if isK r50 12 = true then if amIn (cI C p0 40) (aLen r50) = true then (if (cI C r50 (Int32.toNatClampNeg (cI C p0 40))) ≤ p4 then some ((p0, p3), C) else (if ¬ (cI C p0 66) = 0 then some ((p0, p3), C) else (f_222 n p0 p2 p4 p3 C).bind (fun z => match z with | (_, C57) => lp_224_45 n p0 p2 p3 (p4 + (1 : Int32)) C57))) else none else none) else none
set_option maxRecDepth 20000 in
set_option maxHeartbeats 4000000 in
theorem lt_224_45 : ∀ (n : Nat) (p0 : Nat) (p2 : Int32) (p3 : Int32) (p4 : Int32) (C : AmC) (r : ((Nat × Int32)) × AmC), lp_224_45 n p0 p2 p3 p4 C = some r → ∀ (o : AmO) (M' : AmM), (match r with
        | ((w0, w3), C') => En false 224 62 [(0, .ref w0), (3, .int w3)] [] (mkM C') o M') → En false 224 45 [(0, .ref p0), (2, .int p2), (3, .int p3), (4, .int p4)] [] (mkM C) o M' := by
  intro n
  induction n with
  | zero => intro p0 p2 p3 p4 C r h; cases h
  | succ n ih =>
    intro p0 p2 p3 p4 C r h o M' hk
    unfold lp_224_45 at h
    refine en_iload rfl rfl ?_
    refine en_aload rfl rfl ?_
    obtain ⟨g49, h⟩ := gd h
    obtain ⟨r50, e51, h⟩ := gb h
    refine ec_getP (ci := 10) (j := 24) ⟨rfl, rfl, rfl⟩ g49 e51 rfl ?_
    refine en_aload rfl rfl ?_
    refine ec_getI (ci := 10) (j := 40) ⟨rfl, rfl, rfl⟩ g49 rfl ?_
    obtain ⟨g52, h⟩ := gd h
    obtain ⟨g53, h⟩ := gd h
    refine ec_iaload g52 g53 rfl ?_
    rcases gi h with ⟨c54, h⟩ | ⟨c54, h⟩
    · refine en_icmp_ge_t c54 rfl ?_
      cases h
      exact en_sub [0, 2] rfl rfl hk
    · refine en_icmp_ge_f c54 rfl ?_
      refine en_aload rfl rfl ?_
      refine ec_getI (ci := 10) (j := 66) ⟨rfl, rfl, rfl⟩ g49 rfl ?_
      rcases gi h with ⟨c55, h⟩ | ⟨c55, h⟩
      · refine en_if_ne_t c55 rfl ?_
        cases h
        exact en_sub [0, 2] rfl rfl hk
      · refine en_if_ne_f c55 rfl ?_
        refine en_aload rfl rfl ?_
        refine en_iload rfl rfl ?_
        refine en_iload rfl rfl ?_
        refine en_iload rfl rfl ?_
        obtain ⟨⟨q56, C57⟩, e58, h⟩ := gb h
        dsimp only at h
        refine ec_callV0 (k' := 222) (n := 4) (rc := 10) (a := p0) (as := [.int p2, .int p4, .int p3]) ⟨rfl, rfl⟩ rfl rfl (Nat.le_of_ble_eq_true rfl) (Nat.le_of_ble_eq_true rfl) (Nat.le_of_ble_eq_true rfl) g49 rfl (t_222 e58) ?_
        refine ec_iinc (l' := [(4, .int (p4 + (1 : Int32))), (0, .ref p0), (2, .int p2), (3, .int p3)]) rfl cst_1 rfl rfl ?_
        refine en_goto rfl ?_
        refine en_sub [1, 2, 3, 0] rfl rfl ?_
        exact ih _ _ _ _ _ _ h o M' hk
/-- BulkWriterModel.runs(III)V -/
def f_224 (n : Nat) (a0 : Nat) (a1 : Int32) (a2 : Int32) (a3 : Int32) (C : AmC) : Option (Unit × AmC) := if isK a0 10 = true then (lp_224_23 n a0 a1 a2 a3 (0 : Int32) (uI (uI (uI (uI (uI (uI (uI C a0 59 a1) a0 80 (0 : Int32)) a0 69 (0 : Int32)) a0 66 (0 : Int32)) a0 65 (0 : Int32)) a0 68 (-1 : Int32)) a0 67 (-1 : Int32))).bind (fun q => match q with | ((u11, u12, u13, u14), C10) => if isK u11 10 = true then (f_223 n u11 C10).bind (fun z => match z with | (q16, C17) => (if q16 = 0 then (cP C17 u11 32).bind (fun r20 => if isK r20 12 = true then if amIn u12 (aLen r20) = true then (if ¬ (cI C17 r20 (Int32.toNatClampNeg u12)) = (3 : Int32) then (f_204 n u11 u13 C17).bind (fun z => match z with | (_, C26) => (f_205 n u11 (0 : Int32) C26).bind (fun z => match z with | (q28, C29) => (lp_224_70 n u11 u14 q28 C29).bind (fun q => match q with | ((u43, u44), C42) => if isK u43 10 = true then (f_220 n u43 u44 C42).bind (fun z => match z with | (_, C47) => some ((), C47)) else none))) else (lp_224_45 n u11 u13 u14 (0 : Int32) C17).bind (fun q => match q with | ((u62, u63), C61) => if isK u62 10 = true then (f_220 n u62 u63 C61).bind (fun z => match z with | (_, C66) => some ((), C66)) else none)) else none else none) else some ((), C17))) else none) else none
set_option maxRecDepth 20000 in
set_option maxHeartbeats 4000000 in
theorem t_224 {n : Nat} {a0 : Nat} {a1 : Int32} {a2 : Int32} {a3 : Int32} {C : AmC} {r : Unit} {C' : AmC} (h : f_224 n a0 a1 a2 a3 C = some (r, C')) : En false 224 0 [(0, .ref a0), (1, .int a1), (2, .int a2), (3, .int a3)] [] (mkM C) (.inl none) (mkM C') := by
  unfold f_224 at h
  refine en_aload rfl rfl ?_
  refine en_iload rfl rfl ?_
  obtain ⟨g1, h⟩ := gd h
  refine ec_putI (ci := 10) (j := 59) ⟨rfl, rfl, rfl⟩ g1 rfl ?_
  refine en_aload rfl rfl ?_
  refine en_aload rfl rfl ?_
  refine en_aload rfl rfl ?_
  refine en_aload rfl rfl ?_
  refine ec_iconst cst_0 rfl ?_
  refine en_dup_x1 ⟨rfl, rfl⟩ rfl ?_
  refine ec_putI (ci := 10) (j := 80) ⟨rfl, rfl, rfl⟩ g1 rfl ?_
  refine en_dup_x1 ⟨rfl, rfl⟩ rfl ?_
  refine ec_putI (ci := 10) (j := 69) ⟨rfl, rfl, rfl⟩ g1 rfl ?_
  refine en_dup_x1 ⟨rfl, rfl⟩ rfl ?_
  refine ec_putI (ci := 10) (j := 66) ⟨rfl, rfl, rfl⟩ g1 rfl ?_
  refine ec_putI (ci := 10) (j := 65) ⟨rfl, rfl, rfl⟩ g1 rfl ?_
  refine en_aload rfl rfl ?_
  refine en_aload rfl rfl ?_
  refine ec_iconst cst_m1 rfl ?_
  refine en_dup_x1 ⟨rfl, rfl⟩ rfl ?_
  refine ec_putI (ci := 10) (j := 68) ⟨rfl, rfl, rfl⟩ g1 rfl ?_
  refine ec_putI (ci := 10) (j := 67) ⟨rfl, rfl, rfl⟩ g1 rfl ?_
  refine ec_iconst cst_0 rfl ?_
  refine en_istore (l' := [(4, .int (0 : Int32)), (0, .ref a0), (1, .int a1), (2, .int a2), (3, .int a3)]) rfl rfl ?_
  obtain ⟨⟨q8, C10⟩, e9, h⟩ := gb h
  refine en_sub [1, 2, 3, 4, 0] rfl rfl (lt_224_23 n _ _ _ _ _ _ _ e9 _ _ ?_)
  obtain ⟨u11, u12, u13, u14⟩ := q8
  dsimp only at h ⊢
  refine en_aload rfl rfl ?_
  obtain ⟨g15, h⟩ := gd h
  obtain ⟨⟨q16, C17⟩, e18, h⟩ := gb h
  dsimp only at h
  refine ec_callV1 (k' := 223) (n := 1) (rc := 10) (a := u11) (as := []) ⟨rfl, rfl⟩ rfl rfl (Nat.le_of_ble_eq_true rfl) (Nat.le_of_ble_eq_true rfl) (Nat.le_of_ble_eq_true rfl) g15 rfl (t_223 e18) ?_
  rcases gi h with ⟨c19, h⟩ | ⟨c19, h⟩
  · refine en_if_eq_t c19 rfl ?_
    refine en_aload rfl rfl ?_
    obtain ⟨r20, e21, h⟩ := gb h
    refine ec_getP (ci := 10) (j := 32) ⟨rfl, rfl, rfl⟩ g15 e21 rfl ?_
    refine en_iload rfl rfl ?_
    obtain ⟨g22, h⟩ := gd h
    obtain ⟨g23, h⟩ := gd h
    refine ec_iaload g22 g23 rfl ?_
    refine ec_iconst cst_3 rfl ?_
    rcases gi h with ⟨c24, h⟩ | ⟨c24, h⟩
    · refine en_icmp_ne_t c24 rfl ?_
      refine en_aload rfl rfl ?_
      refine en_iload rfl rfl ?_
      obtain ⟨⟨q25, C26⟩, e27, h⟩ := gb h
      dsimp only at h
      refine ec_callV0 (k' := 204) (n := 2) (rc := 10) (a := u11) (as := [.int u13]) ⟨rfl, rfl⟩ rfl rfl (Nat.le_of_ble_eq_true rfl) (Nat.le_of_ble_eq_true rfl) (Nat.le_of_ble_eq_true rfl) g15 rfl (t_204 e27) ?_
      refine en_aload rfl rfl ?_
      refine ec_iconst cst_0 rfl ?_
      obtain ⟨⟨q28, C29⟩, e30, h⟩ := gb h
      dsimp only at h
      refine ec_callV1 (k' := 205) (n := 2) (rc := 10) (a := u11) (as := [.int (0 : Int32)]) ⟨rfl, rfl⟩ rfl rfl (Nat.le_of_ble_eq_true rfl) (Nat.le_of_ble_eq_true rfl) (Nat.le_of_ble_eq_true rfl) g15 rfl (t_205 e30) ?_
      refine en_istore (l' := [(4, .int q28), (0, .ref u11), (1, .int u12), (2, .int u13), (3, .int u14)]) rfl rfl ?_
      obtain ⟨⟨q40, C42⟩, e41, h⟩ := gb h
      refine en_sub [1, 4, 0] rfl rfl (lt_224_70 n _ _ _ _ _ e41 _ _ ?_)
      obtain ⟨u43, u44⟩ := q40
      dsimp only at h ⊢
      refine en_aload rfl rfl ?_
      refine en_iload rfl rfl ?_
      obtain ⟨g45, h⟩ := gd h
      obtain ⟨⟨q46, C47⟩, e48, h⟩ := gb h
      dsimp only at h
      refine ec_callV0 (k' := 220) (n := 2) (rc := 10) (a := u43) (as := [.int u44]) ⟨rfl, rfl⟩ rfl rfl (Nat.le_of_ble_eq_true rfl) (Nat.le_of_ble_eq_true rfl) (Nat.le_of_ble_eq_true rfl) g45 rfl (t_220 e48) ?_
      cases h
      exact en_vret rfl
    · refine en_icmp_ne_f c24 rfl ?_
      refine ec_iconst cst_0 rfl ?_
      refine en_istore (l' := [(4, .int (0 : Int32)), (0, .ref u11), (1, .int u12), (2, .int u13), (3, .int u14)]) rfl rfl ?_
      obtain ⟨⟨q59, C61⟩, e60, h⟩ := gb h
      refine en_sub [1, 3, 4, 0] rfl rfl (lt_224_45 n _ _ _ _ _ _ e60 _ _ ?_)
      obtain ⟨u62, u63⟩ := q59
      dsimp only at h ⊢
      refine en_goto rfl ?_
      refine en_aload rfl rfl ?_
      refine en_iload rfl rfl ?_
      obtain ⟨g64, h⟩ := gd h
      obtain ⟨⟨q65, C66⟩, e67, h⟩ := gb h
      dsimp only at h
      refine ec_callV0 (k' := 220) (n := 2) (rc := 10) (a := u62) (as := [.int u63]) ⟨rfl, rfl⟩ rfl rfl (Nat.le_of_ble_eq_true rfl) (Nat.le_of_ble_eq_true rfl) (Nat.le_of_ble_eq_true rfl) g64 rfl (t_220 e67) ?_
      cases h
      exact en_vret rfl
  · refine en_if_eq_f c19 rfl ?_
    cases h
    exact en_vret rfl
def lp_225_2 : Nat → Nat → Int32 → Int32 → AmC → Option (((Unit)) × AmC)
  | 0, _, _, _, _ => none
  | n + 1, p0, p1, p2, C => (if (150 : Int32) ≤ p2 then some ((), C) else if isK p0 10 = true then (cP C p0 57).bind (fun r3 => (cP C p0 0).bind (fun r5 => if isK r5 12 = true then if amIn (p1 + p2) (aLen r5) = true then if isK r3 12 = true then if amIn p2 (aLen r3) = true then lp_225_2 n p0 p1 (p2 + (1 : Int32)) (uI C r3 (Int32.toNatClampNeg p2) (cI C r5 (Int32.toNatClampNeg (p1 + p2)))) else none else none else none else none)) else none)
set_option maxRecDepth 20000 in
set_option maxHeartbeats 4000000 in
theorem lt_225_2 : ∀ (n : Nat) (p0 : Nat) (p1 : Int32) (p2 : Int32) (C : AmC) (r : ((Unit)) × AmC), lp_225_2 n p0 p1 p2 C = some r → ∀ (o : AmO) (M' : AmM), (match r with
        | (_, C') => En false 225 17 [] [] (mkM C') o M') → En false 225 2 [(0, .ref p0), (1, .int p1), (2, .int p2)] [] (mkM C) o M' := by
  intro n
  induction n with
  | zero => intro p0 p1 p2 C r h; cases h
  | succ n ih =>
    intro p0 p1 p2 C r h o M' hk
    unfold lp_225_2 at h
    refine en_iload rfl rfl ?_
    refine ec_iconst cst_150 rfl ?_
    rcases gi h with ⟨c1, h⟩ | ⟨c1, h⟩
    · refine en_icmp_ge_t c1 rfl ?_
      cases h
      exact en_sub [] rfl rfl hk
    · refine en_icmp_ge_f c1 rfl ?_
      refine en_aload rfl rfl ?_
      obtain ⟨g2, h⟩ := gd h
      obtain ⟨r3, e4, h⟩ := gb h
      refine ec_getP (ci := 10) (j := 57) ⟨rfl, rfl, rfl⟩ g2 e4 rfl ?_
      refine en_iload rfl rfl ?_
      refine en_aload rfl rfl ?_
      obtain ⟨r5, e6, h⟩ := gb h
      refine ec_getP (ci := 10) (j := 0) ⟨rfl, rfl, rfl⟩ g2 e6 rfl ?_
      refine en_iload rfl rfl ?_
      refine en_iload rfl rfl ?_
      refine en_iadd rfl ?_
      obtain ⟨g7, h⟩ := gd h
      obtain ⟨g8, h⟩ := gd h
      refine ec_iaload g7 g8 rfl ?_
      obtain ⟨g9, h⟩ := gd h
      obtain ⟨g10, h⟩ := gd h
      refine ec_iastore g9 g10 rfl ?_
      refine ec_iinc (l' := [(2, .int (p2 + (1 : Int32))), (0, .ref p0), (1, .int p1)]) rfl cst_1 rfl rfl ?_
      refine en_goto rfl ?_
      refine en_sub [1, 2, 0] rfl rfl ?_
      exact ih _ _ _ _ _ h o M' hk
/-- BulkWriterModel.laysWork(I)V -/
def f_225 (n : Nat) (a0 : Nat) (a1 : Int32) (C : AmC) : Option (Unit × AmC) := (lp_225_2 n a0 a1 (0 : Int32) C).bind (fun q => match q with | (_, C13) => some ((), C13))
set_option maxRecDepth 20000 in
set_option maxHeartbeats 4000000 in
theorem t_225 {n : Nat} {a0 : Nat} {a1 : Int32} {C : AmC} {r : Unit} {C' : AmC} (h : f_225 n a0 a1 C = some (r, C')) : En false 225 0 [(0, .ref a0), (1, .int a1)] [] (mkM C) (.inl none) (mkM C') := by
  unfold f_225 at h
  refine ec_iconst cst_0 rfl ?_
  refine en_istore (l' := [(2, .int (0 : Int32)), (0, .ref a0), (1, .int a1)]) rfl rfl ?_
  obtain ⟨⟨q11, C13⟩, e12, h⟩ := gb h
  refine en_sub [1, 2, 0] rfl rfl (lt_225_2 n _ _ _ _ _ e12 _ _ ?_)
  dsimp only at h ⊢
  cases h
  exact en_vret rfl
/-- BulkWriterModel.rightRun(II)V -/
def f_226 (n : Nat) (a0 : Nat) (a1 : Int32) (a2 : Int32) (C : AmC) : Option (Unit × AmC) := if isK a0 10 = true then (f_225 n a0 a2 C).bind (fun z => match z with | (_, C3) => (f_224 n a0 a1 (0 : Int32) (3 : Int32) C3).bind (fun z => match z with | (_, C6) => (if (cI C6 a0 66) = 0 then (cP C6 a0 57).bind (fun r9 => (f_192 n a0 r9 (0 : Int32) (30 : Int32) (cI C6 a0 40) C6).bind (fun z => match z with | (q11, C12) => (if ¬ q11 = (-1 : Int32) then some ((), uI (uI (uI C12 a0 66 (5 : Int32)) a0 67 q11) a0 68 (((100 : Int32) * (cI (uI (uI C12 a0 66 (5 : Int32)) a0 67 q11) a0 55)) + (cI (uI (uI C12 a0 66 (5 : Int32)) a0 67 q11) a0 56))) else some ((), C12)))) else some ((), C6)))) else none
set_option maxRecDepth 20000 in
set_option maxHeartbeats 4000000 in
theorem t_226 {n : Nat} {a0 : Nat} {a1 : Int32} {a2 : Int32} {C : AmC} {r : Unit} {C' : AmC} (h : f_226 n a0 a1 a2 C = some (r, C')) : En false 226 0 [(0, .ref a0), (1, .int a1), (2, .int a2)] [] (mkM C) (.inl none) (mkM C') := by
  unfold f_226 at h
  refine en_aload rfl rfl ?_
  refine en_iload rfl rfl ?_
  obtain ⟨g1, h⟩ := gd h
  obtain ⟨⟨q2, C3⟩, e4, h⟩ := gb h
  dsimp only at h
  refine ec_callV0 (k' := 225) (n := 2) (rc := 10) (a := a0) (as := [.int a2]) ⟨rfl, rfl⟩ rfl rfl (Nat.le_of_ble_eq_true rfl) (Nat.le_of_ble_eq_true rfl) (Nat.le_of_ble_eq_true rfl) g1 rfl (t_225 e4) ?_
  refine en_aload rfl rfl ?_
  refine en_iload rfl rfl ?_
  refine ec_iconst cst_0 rfl ?_
  refine ec_iconst cst_3 rfl ?_
  obtain ⟨⟨q5, C6⟩, e7, h⟩ := gb h
  dsimp only at h
  refine ec_callV0 (k' := 224) (n := 4) (rc := 10) (a := a0) (as := [.int a1, .int (0 : Int32), .int (3 : Int32)]) ⟨rfl, rfl⟩ rfl rfl (Nat.le_of_ble_eq_true rfl) (Nat.le_of_ble_eq_true rfl) (Nat.le_of_ble_eq_true rfl) g1 rfl (t_224 e7) ?_
  refine en_aload rfl rfl ?_
  refine ec_getI (ci := 10) (j := 66) ⟨rfl, rfl, rfl⟩ g1 rfl ?_
  rcases gi h with ⟨c8, h⟩ | ⟨c8, h⟩
  · refine en_if_eq_t c8 rfl ?_
    refine en_aload rfl rfl ?_
    refine en_aload rfl rfl ?_
    obtain ⟨r9, e10, h⟩ := gb h
    refine ec_getP (ci := 10) (j := 57) ⟨rfl, rfl, rfl⟩ g1 e10 rfl ?_
    refine ec_iconst cst_0 rfl ?_
    refine ec_iconst cst_30 rfl ?_
    refine en_aload rfl rfl ?_
    refine ec_getI (ci := 10) (j := 40) ⟨rfl, rfl, rfl⟩ g1 rfl ?_
    obtain ⟨⟨q11, C12⟩, e13, h⟩ := gb h
    dsimp only at h
    refine ec_callV1 (k' := 192) (n := 5) (rc := 10) (a := a0) (as := [.ref r9, .int (0 : Int32), .int (30 : Int32), .int (cI C6 a0 40)]) ⟨rfl, rfl⟩ rfl rfl (Nat.le_of_ble_eq_true rfl) (Nat.le_of_ble_eq_true rfl) (Nat.le_of_ble_eq_true rfl) g1 rfl (t_192 e13) ?_
    refine en_istore (l' := [(3, .int q11), (0, .ref a0), (1, .int a1), (2, .int a2)]) rfl rfl ?_
    refine en_iload rfl rfl ?_
    refine ec_iconst cst_m1 rfl ?_
    rcases gi h with ⟨c14, h⟩ | ⟨c14, h⟩
    · refine en_icmp_ne_t c14 rfl ?_
      refine en_aload rfl rfl ?_
      refine ec_iconst cst_5 rfl ?_
      refine ec_putI (ci := 10) (j := 66) ⟨rfl, rfl, rfl⟩ g1 rfl ?_
      refine en_aload rfl rfl ?_
      refine en_iload rfl rfl ?_
      refine ec_putI (ci := 10) (j := 67) ⟨rfl, rfl, rfl⟩ g1 rfl ?_
      refine en_aload rfl rfl ?_
      refine ec_iconst cst_100 rfl ?_
      refine en_aload rfl rfl ?_
      refine ec_getI (ci := 10) (j := 55) ⟨rfl, rfl, rfl⟩ g1 rfl ?_
      refine en_imul rfl ?_
      refine en_aload rfl rfl ?_
      refine ec_getI (ci := 10) (j := 56) ⟨rfl, rfl, rfl⟩ g1 rfl ?_
      refine en_iadd rfl ?_
      refine ec_putI (ci := 10) (j := 68) ⟨rfl, rfl, rfl⟩ g1 rfl ?_
      cases h
      exact en_vret rfl
    · refine en_icmp_ne_f c14 rfl ?_
      cases h
      exact en_vret rfl
  · refine en_if_eq_f c8 rfl ?_
    cases h
    exact en_vret rfl
/-- BulkWriterModel.isSetBy(II)Z -/
def f_227 (n : Nat) (a0 : Nat) (a1 : Int32) (a2 : Int32) (C : AmC) : Option (Int32 × AmC) := if isK a0 10 = true then (cP C a0 38).bind (fun r2 => if isK r2 12 = true then if amIn (((4 : Int32) * a1) + a2) (aLen r2) = true then (if (cI C r2 (Int32.toNatClampNeg (((4 : Int32) * a1) + a2))) = (-1 : Int32) then some ((0 : Int32), C) else some ((1 : Int32), C)) else none else none) else none
set_option maxRecDepth 20000 in
set_option maxHeartbeats 4000000 in
theorem t_227 {n : Nat} {a0 : Nat} {a1 : Int32} {a2 : Int32} {C : AmC} {r : Int32} {C' : AmC} (h : f_227 n a0 a1 a2 C = some (r, C')) : En false 227 0 [(0, .ref a0), (1, .int a1), (2, .int a2)] [] (mkM C) (.inl (some (.int r))) (mkM C') := by
  unfold f_227 at h
  refine en_aload rfl rfl ?_
  obtain ⟨g1, h⟩ := gd h
  obtain ⟨r2, e3, h⟩ := gb h
  refine ec_getP (ci := 10) (j := 38) ⟨rfl, rfl, rfl⟩ g1 e3 rfl ?_
  refine ec_iconst cst_4 rfl ?_
  refine en_iload rfl rfl ?_
  refine en_imul rfl ?_
  refine en_iload rfl rfl ?_
  refine en_iadd rfl ?_
  obtain ⟨g4, h⟩ := gd h
  obtain ⟨g5, h⟩ := gd h
  refine ec_iaload g4 g5 rfl ?_
  refine ec_iconst cst_m1 rfl ?_
  rcases gi h with ⟨c6, h⟩ | ⟨c6, h⟩
  · refine en_icmp_eq_t c6 rfl ?_
    refine ec_iconst cst_0 rfl ?_
    cases h
    exact en_zret (Or.inl rfl) rfl
  · refine en_icmp_eq_f c6 rfl ?_
    refine ec_iconst cst_1 rfl ?_
    refine en_goto rfl ?_
    cases h
    exact en_zret (Or.inr rfl) rfl
/-- BulkWriterModel.madeBy(IIZ)I -/
def f_228 (n : Nat) (a0 : Nat) (a1 : Int32) (a2 : Int32) (a3 : Int32) (C : AmC) : Option (Int32 × AmC) := (if a3 = 0 then if isK a0 10 = true then (cP C a0 38).bind (fun r3 => if isK r3 12 = true then if amIn (((4 : Int32) * a1) + a2) (aLen r3) = true then some ((cI C r3 (Int32.toNatClampNeg (((4 : Int32) * a1) + a2))), C) else none else none) else none else if isK a0 10 = true then (cP C a0 39).bind (fun r8 => if isK r8 12 = true then if amIn (((4 : Int32) * a1) + a2) (aLen r8) = true then some ((cI C r8 (Int32.toNatClampNeg (((4 : Int32) * a1) + a2))), C) else none else none) else none)
set_option maxRecDepth 20000 in
set_option maxHeartbeats 4000000 in
theorem t_228 {n : Nat} {a0 : Nat} {a1 : Int32} {a2 : Int32} {a3 : Int32} {C : AmC} {r : Int32} {C' : AmC} (h : f_228 n a0 a1 a2 a3 C = some (r, C')) : En false 228 0 [(0, .ref a0), (1, .int a1), (2, .int a2), (3, .int a3)] [] (mkM C) (.inl (some (.int r))) (mkM C') := by
  unfold f_228 at h
  refine en_iload rfl rfl ?_
  rcases gi h with ⟨c1, h⟩ | ⟨c1, h⟩
  · refine en_if_eq_t c1 rfl ?_
    refine en_aload rfl rfl ?_
    obtain ⟨g2, h⟩ := gd h
    obtain ⟨r3, e4, h⟩ := gb h
    refine ec_getP (ci := 10) (j := 38) ⟨rfl, rfl, rfl⟩ g2 e4 rfl ?_
    refine ec_iconst cst_4 rfl ?_
    refine en_iload rfl rfl ?_
    refine en_imul rfl ?_
    refine en_iload rfl rfl ?_
    refine en_iadd rfl ?_
    obtain ⟨g5, h⟩ := gd h
    obtain ⟨g6, h⟩ := gd h
    refine ec_iaload g5 g6 rfl ?_
    cases h
    exact en_iret rfl
  · refine en_if_eq_f c1 rfl ?_
    refine en_aload rfl rfl ?_
    obtain ⟨g7, h⟩ := gd h
    obtain ⟨r8, e9, h⟩ := gb h
    refine ec_getP (ci := 10) (j := 39) ⟨rfl, rfl, rfl⟩ g7 e9 rfl ?_
    refine ec_iconst cst_4 rfl ?_
    refine en_iload rfl rfl ?_
    refine en_imul rfl ?_
    refine en_iload rfl rfl ?_
    refine en_iadd rfl ?_
    obtain ⟨g10, h⟩ := gd h
    obtain ⟨g11, h⟩ := gd h
    refine ec_iaload g10 g11 rfl ?_
    refine en_goto rfl ?_
    cases h
    exact en_iret rfl
/-- BulkWriterModel.movedBy(II)I -/
def f_229 (n : Nat) (a0 : Nat) (a1 : Int32) (a2 : Int32) (C : AmC) : Option (Int32 × AmC) := if isK a0 10 = true then (cP C a0 16).bind (fun r2 => if isK r2 12 = true then if amIn a1 (aLen r2) = true then (cP C a0 14).bind (fun r6 => if isK r6 12 = true then if amIn (cI C r2 (Int32.toNatClampNeg a1)) (aLen r6) = true then (if ¬ (cI C r6 (Int32.toNatClampNeg (cI C r2 (Int32.toNatClampNeg a1)))) = (1 : Int32) then some ((99999 : Int32), C) else (cP C a0 15).bind (fun r11 => if isK r11 12 = true then if amIn (cI C r2 (Int32.toNatClampNeg a1)) (aLen r11) = true then (if ¬ (cI C r11 (Int32.toNatClampNeg (cI C r2 (Int32.toNatClampNeg a1)))) = a2 then some ((99999 : Int32), C) else (cP C a0 17).bind (fun r16 => if isK r16 12 = true then if amIn a1 (aLen r16) = true then (if (cI C r16 (Int32.toNatClampNeg a1)) ≤ (2 : Int32) then (cP C a0 17).bind (fun r21 => if isK r21 12 = true then if amIn a1 (aLen r21) = true then (if ¬ (cI C r21 (Int32.toNatClampNeg a1)) = (1 : Int32) then (cP C a0 14).bind (fun r26 => if isK r26 12 = true then if amIn ((cI C r2 (Int32.toNatClampNeg a1)) + (1 : Int32)) (aLen r26) = true then (if ¬ (cI C r26 (Int32.toNatClampNeg ((cI C r2 (Int32.toNatClampNeg a1)) + (1 : Int32)))) = 0 then some ((99999 : Int32), C) else (cP C a0 13).bind (fun r31 => if isK r31 12 = true then if amIn ((cI C r2 (Int32.toNatClampNeg a1)) + (1 : Int32)) (aLen r31) = true then (if ¬ (cI C r31 (Int32.toNatClampNeg ((cI C r2 (Int32.toNatClampNeg a1)) + (1 : Int32)))) = (42 : Int32) then (cP C a0 13).bind (fun r36 => if isK r36 12 = true then if amIn ((cI C r2 (Int32.toNatClampNeg a1)) + (1 : Int32)) (aLen r36) = true then (if ¬ (cI C r36 (Int32.toNatClampNeg ((cI C r2 (Int32.toNatClampNeg a1)) + (1 : Int32)))) = (43 : Int32) then (cP C a0 15).bind (fun r41 => if isK r41 12 = true then if amIn ((cI C r2 (Int32.toNatClampNeg a1)) + (1 : Int32)) (aLen r41) = true then some ((-(cI C r41 (Int32.toNatClampNeg ((cI C r2 (Int32.toNatClampNeg a1)) + (1 : Int32))))), C) else none else none) else (cP C a0 15).bind (fun r45 => if isK r45 12 = true then if amIn ((cI C r2 (Int32.toNatClampNeg a1)) + (1 : Int32)) (aLen r45) = true then some ((cI C r45 (Int32.toNatClampNeg ((cI C r2 (Int32.toNatClampNeg a1)) + (1 : Int32)))), C) else none else none)) else none else none) else some ((99999 : Int32), C)) else none else none)) else none else none) else some ((0 : Int32), C)) else none else none) else some ((99999 : Int32), C)) else none else none)) else none else none)) else none else none) else none else none) else none
set_option maxRecDepth 20000 in
set_option maxHeartbeats 4000000 in
theorem t_229 {n : Nat} {a0 : Nat} {a1 : Int32} {a2 : Int32} {C : AmC} {r : Int32} {C' : AmC} (h : f_229 n a0 a1 a2 C = some (r, C')) : En false 229 0 [(0, .ref a0), (1, .int a1), (2, .int a2)] [] (mkM C) (.inl (some (.int r))) (mkM C') := by
  unfold f_229 at h
  refine en_aload rfl rfl ?_
  obtain ⟨g1, h⟩ := gd h
  obtain ⟨r2, e3, h⟩ := gb h
  refine ec_getP (ci := 10) (j := 16) ⟨rfl, rfl, rfl⟩ g1 e3 rfl ?_
  refine en_iload rfl rfl ?_
  obtain ⟨g4, h⟩ := gd h
  obtain ⟨g5, h⟩ := gd h
  refine ec_iaload g4 g5 rfl ?_
  refine en_istore (l' := [(3, .int (cI C r2 (Int32.toNatClampNeg a1))), (0, .ref a0), (1, .int a1), (2, .int a2)]) rfl rfl ?_
  refine en_aload rfl rfl ?_
  obtain ⟨r6, e7, h⟩ := gb h
  refine ec_getP (ci := 10) (j := 14) ⟨rfl, rfl, rfl⟩ g1 e7 rfl ?_
  refine en_iload rfl rfl ?_
  obtain ⟨g8, h⟩ := gd h
  obtain ⟨g9, h⟩ := gd h
  refine ec_iaload g8 g9 rfl ?_
  refine ec_iconst cst_1 rfl ?_
  rcases gi h with ⟨c10, h⟩ | ⟨c10, h⟩
  · refine en_icmp_ne_t c10 rfl ?_
    refine ec_iconst cst_99999 rfl ?_
    cases h
    exact en_iret rfl
  · refine en_icmp_ne_f c10 rfl ?_
    refine en_aload rfl rfl ?_
    obtain ⟨r11, e12, h⟩ := gb h
    refine ec_getP (ci := 10) (j := 15) ⟨rfl, rfl, rfl⟩ g1 e12 rfl ?_
    refine en_iload rfl rfl ?_
    obtain ⟨g13, h⟩ := gd h
    obtain ⟨g14, h⟩ := gd h
    refine ec_iaload g13 g14 rfl ?_
    refine en_iload rfl rfl ?_
    rcases gi h with ⟨c15, h⟩ | ⟨c15, h⟩
    · refine en_icmp_ne_t c15 rfl ?_
      refine ec_iconst cst_99999 rfl ?_
      cases h
      exact en_iret rfl
    · refine en_icmp_ne_f c15 rfl ?_
      refine en_aload rfl rfl ?_
      obtain ⟨r16, e17, h⟩ := gb h
      refine ec_getP (ci := 10) (j := 17) ⟨rfl, rfl, rfl⟩ g1 e17 rfl ?_
      refine en_iload rfl rfl ?_
      obtain ⟨g18, h⟩ := gd h
      obtain ⟨g19, h⟩ := gd h
      refine ec_iaload g18 g19 rfl ?_
      refine ec_iconst cst_2 rfl ?_
      rcases gi h with ⟨c20, h⟩ | ⟨c20, h⟩
      · refine en_icmp_le_t c20 rfl ?_
        refine en_aload rfl rfl ?_
        obtain ⟨r21, e22, h⟩ := gb h
        refine ec_getP (ci := 10) (j := 17) ⟨rfl, rfl, rfl⟩ g1 e22 rfl ?_
        refine en_iload rfl rfl ?_
        obtain ⟨g23, h⟩ := gd h
        obtain ⟨g24, h⟩ := gd h
        refine ec_iaload g23 g24 rfl ?_
        refine ec_iconst cst_1 rfl ?_
        rcases gi h with ⟨c25, h⟩ | ⟨c25, h⟩
        · refine en_icmp_ne_t c25 rfl ?_
          refine en_aload rfl rfl ?_
          obtain ⟨r26, e27, h⟩ := gb h
          refine ec_getP (ci := 10) (j := 14) ⟨rfl, rfl, rfl⟩ g1 e27 rfl ?_
          refine en_iload rfl rfl ?_
          refine ec_iconst cst_1 rfl ?_
          refine en_iadd rfl ?_
          obtain ⟨g28, h⟩ := gd h
          obtain ⟨g29, h⟩ := gd h
          refine ec_iaload g28 g29 rfl ?_
          rcases gi h with ⟨c30, h⟩ | ⟨c30, h⟩
          · refine en_if_ne_t c30 rfl ?_
            refine ec_iconst cst_99999 rfl ?_
            cases h
            exact en_iret rfl
          · refine en_if_ne_f c30 rfl ?_
            refine en_aload rfl rfl ?_
            obtain ⟨r31, e32, h⟩ := gb h
            refine ec_getP (ci := 10) (j := 13) ⟨rfl, rfl, rfl⟩ g1 e32 rfl ?_
            refine en_iload rfl rfl ?_
            refine ec_iconst cst_1 rfl ?_
            refine en_iadd rfl ?_
            obtain ⟨g33, h⟩ := gd h
            obtain ⟨g34, h⟩ := gd h
            refine ec_iaload g33 g34 rfl ?_
            refine ec_iconst cst_42 rfl ?_
            rcases gi h with ⟨c35, h⟩ | ⟨c35, h⟩
            · refine en_icmp_ne_t c35 rfl ?_
              refine en_aload rfl rfl ?_
              obtain ⟨r36, e37, h⟩ := gb h
              refine ec_getP (ci := 10) (j := 13) ⟨rfl, rfl, rfl⟩ g1 e37 rfl ?_
              refine en_iload rfl rfl ?_
              refine ec_iconst cst_1 rfl ?_
              refine en_iadd rfl ?_
              obtain ⟨g38, h⟩ := gd h
              obtain ⟨g39, h⟩ := gd h
              refine ec_iaload g38 g39 rfl ?_
              refine ec_iconst cst_43 rfl ?_
              rcases gi h with ⟨c40, h⟩ | ⟨c40, h⟩
              · refine en_icmp_ne_t c40 rfl ?_
                refine en_aload rfl rfl ?_
                obtain ⟨r41, e42, h⟩ := gb h
                refine ec_getP (ci := 10) (j := 15) ⟨rfl, rfl, rfl⟩ g1 e42 rfl ?_
                refine en_iload rfl rfl ?_
                refine ec_iconst cst_1 rfl ?_
                refine en_iadd rfl ?_
                obtain ⟨g43, h⟩ := gd h
                obtain ⟨g44, h⟩ := gd h
                refine ec_iaload g43 g44 rfl ?_
                refine en_ineg rfl ?_
                cases h
                exact en_iret rfl
              · refine en_icmp_ne_f c40 rfl ?_
                refine en_aload rfl rfl ?_
                obtain ⟨r45, e46, h⟩ := gb h
                refine ec_getP (ci := 10) (j := 15) ⟨rfl, rfl, rfl⟩ g1 e46 rfl ?_
                refine en_iload rfl rfl ?_
                refine ec_iconst cst_1 rfl ?_
                refine en_iadd rfl ?_
                obtain ⟨g47, h⟩ := gd h
                obtain ⟨g48, h⟩ := gd h
                refine ec_iaload g47 g48 rfl ?_
                refine en_goto rfl ?_
                cases h
                exact en_iret rfl
            · refine en_icmp_ne_f c35 rfl ?_
              refine ec_iconst cst_99999 rfl ?_
              cases h
              exact en_iret rfl
        · refine en_icmp_ne_f c25 rfl ?_
          refine ec_iconst cst_0 rfl ?_
          cases h
          exact en_iret rfl
      · refine en_icmp_le_f c20 rfl ?_
        refine ec_iconst cst_99999 rfl ?_
        cases h
        exact en_iret rfl
/-- BulkWriterModel.isMoved(IIZ)Z -/
def f_230 (n : Nat) (a0 : Nat) (a1 : Int32) (a2 : Int32) (a3 : Int32) (C : AmC) : Option (Int32 × AmC) := if isK a0 10 = true then (f_228 n a0 a1 a2 a3 C).bind (fun z => match z with | (q2, C3) => (if q2 = (-1 : Int32) then some ((0 : Int32), C3) else (f_229 n a0 q2 a2 C3).bind (fun z => match z with | (q6, C7) => (if q6 = 0 then some ((0 : Int32), C7) else some ((1 : Int32), C7))))) else none
set_option maxRecDepth 20000 in
set_option maxHeartbeats 4000000 in
theorem t_230 {n : Nat} {a0 : Nat} {a1 : Int32} {a2 : Int32} {a3 : Int32} {C : AmC} {r : Int32} {C' : AmC} (h : f_230 n a0 a1 a2 a3 C = some (r, C')) : En false 230 0 [(0, .ref a0), (1, .int a1), (2, .int a2), (3, .int a3)] [] (mkM C) (.inl (some (.int r))) (mkM C') := by
  unfold f_230 at h
  refine en_aload rfl rfl ?_
  refine en_iload rfl rfl ?_
  refine en_iload rfl rfl ?_
  refine en_iload rfl rfl ?_
  obtain ⟨g1, h⟩ := gd h
  obtain ⟨⟨q2, C3⟩, e4, h⟩ := gb h
  dsimp only at h
  refine ec_callV1 (k' := 228) (n := 4) (rc := 10) (a := a0) (as := [.int a1, .int a2, .int a3]) ⟨rfl, rfl⟩ rfl rfl (Nat.le_of_ble_eq_true rfl) (Nat.le_of_ble_eq_true rfl) (Nat.le_of_ble_eq_true rfl) g1 rfl (t_228 e4) ?_
  refine en_istore (l' := [(4, .int q2), (0, .ref a0), (1, .int a1), (2, .int a2), (3, .int a3)]) rfl rfl ?_
  refine en_iload rfl rfl ?_
  refine ec_iconst cst_m1 rfl ?_
  rcases gi h with ⟨c5, h⟩ | ⟨c5, h⟩
  · refine en_icmp_eq_t c5 rfl ?_
    refine ec_iconst cst_0 rfl ?_
    cases h
    exact en_zret (Or.inl rfl) rfl
  · refine en_icmp_eq_f c5 rfl ?_
    refine en_aload rfl rfl ?_
    refine en_iload rfl rfl ?_
    refine en_iload rfl rfl ?_
    obtain ⟨⟨q6, C7⟩, e8, h⟩ := gb h
    dsimp only at h
    refine ec_callV1 (k' := 229) (n := 3) (rc := 10) (a := a0) (as := [.int q2, .int a2]) ⟨rfl, rfl⟩ rfl rfl (Nat.le_of_ble_eq_true rfl) (Nat.le_of_ble_eq_true rfl) (Nat.le_of_ble_eq_true rfl) g1 rfl (t_229 e8) ?_
    rcases gi h with ⟨c9, h⟩ | ⟨c9, h⟩
    · refine en_if_eq_t c9 rfl ?_
      refine ec_iconst cst_0 rfl ?_
      cases h
      exact en_zret (Or.inl rfl) rfl
    · refine en_if_eq_f c9 rfl ?_
      refine ec_iconst cst_1 rfl ?_
      refine en_goto rfl ?_
      cases h
      exact en_zret (Or.inr rfl) rfl
/-- BulkWriterModel.isMovedBack(IIZI)Z -/
def f_231 (n : Nat) (a0 : Nat) (a1 : Int32) (a2 : Int32) (a3 : Int32) (a4 : Int32) (C : AmC) : Option (Int32 × AmC) := if isK a0 10 = true then (f_228 n a0 a1 a2 a3 C).bind (fun z => match z with | (q2, C3) => (f_229 n a0 q2 a2 C3).bind (fun z => match z with | (q5, C6) => (if q5 = (99999 : Int32) then some ((0 : Int32), C6) else (f_195 n a4 C6).bind (fun z => match z with | (q9, C10) => (if q9 = 0 then (if 0 ≤ q5 then some ((0 : Int32), C10) else some ((1 : Int32), C10)) else (if q5 ≤ 0 then some ((0 : Int32), C10) else some ((1 : Int32), C10))))))) else none
set_option maxRecDepth 20000 in
set_option maxHeartbeats 4000000 in
theorem t_231 {n : Nat} {a0 : Nat} {a1 : Int32} {a2 : Int32} {a3 : Int32} {a4 : Int32} {C : AmC} {r : Int32} {C' : AmC} (h : f_231 n a0 a1 a2 a3 a4 C = some (r, C')) : En false 231 0 [(0, .ref a0), (1, .int a1), (2, .int a2), (3, .int a3), (4, .int a4)] [] (mkM C) (.inl (some (.int r))) (mkM C') := by
  unfold f_231 at h
  refine en_aload rfl rfl ?_
  refine en_aload rfl rfl ?_
  refine en_iload rfl rfl ?_
  refine en_iload rfl rfl ?_
  refine en_iload rfl rfl ?_
  obtain ⟨g1, h⟩ := gd h
  obtain ⟨⟨q2, C3⟩, e4, h⟩ := gb h
  dsimp only at h
  refine ec_callV1 (k' := 228) (n := 4) (rc := 10) (a := a0) (as := [.int a1, .int a2, .int a3]) ⟨rfl, rfl⟩ rfl rfl (Nat.le_of_ble_eq_true rfl) (Nat.le_of_ble_eq_true rfl) (Nat.le_of_ble_eq_true rfl) g1 rfl (t_228 e4) ?_
  refine en_iload rfl rfl ?_
  obtain ⟨⟨q5, C6⟩, e7, h⟩ := gb h
  dsimp only at h
  refine ec_callV1 (k' := 229) (n := 3) (rc := 10) (a := a0) (as := [.int q2, .int a2]) ⟨rfl, rfl⟩ rfl rfl (Nat.le_of_ble_eq_true rfl) (Nat.le_of_ble_eq_true rfl) (Nat.le_of_ble_eq_true rfl) g1 rfl (t_229 e7) ?_
  refine en_istore (l' := [(5, .int q5), (0, .ref a0), (1, .int a1), (2, .int a2), (3, .int a3), (4, .int a4)]) rfl rfl ?_
  refine en_iload rfl rfl ?_
  refine ec_iconst cst_99999 rfl ?_
  rcases gi h with ⟨c8, h⟩ | ⟨c8, h⟩
  · refine en_icmp_eq_t c8 rfl ?_
    refine ec_iconst cst_0 rfl ?_
    cases h
    exact en_zret (Or.inl rfl) rfl
  · refine en_icmp_eq_f c8 rfl ?_
    refine en_iload rfl rfl ?_
    obtain ⟨⟨q9, C10⟩, e11, h⟩ := gb h
    dsimp only at h
    refine ec_callS1 (k' := 195) (n := 1) (as := [.int a4]) rfl rfl rfl (Nat.le_of_ble_eq_true rfl) (Nat.le_of_ble_eq_true rfl) (Nat.le_of_ble_eq_true rfl) rfl (t_195 e11) ?_
    rcases gi h with ⟨c12, h⟩ | ⟨c12, h⟩
    · refine en_if_eq_t c12 rfl ?_
      refine en_iload rfl rfl ?_
      rcases gi h with ⟨c13, h⟩ | ⟨c13, h⟩
      · refine en_if_ge_t c13 rfl ?_
        refine ec_iconst cst_0 rfl ?_
        cases h
        exact en_zret (Or.inl rfl) rfl
      · refine en_if_ge_f c13 rfl ?_
        refine ec_iconst cst_1 rfl ?_
        refine en_goto rfl ?_
        cases h
        exact en_zret (Or.inr rfl) rfl
    · refine en_if_eq_f c12 rfl ?_
      refine en_iload rfl rfl ?_
      rcases gi h with ⟨c14, h⟩ | ⟨c14, h⟩
      · refine en_if_le_t c14 rfl ?_
        refine ec_iconst cst_0 rfl ?_
        cases h
        exact en_zret (Or.inl rfl) rfl
      · refine en_if_le_f c14 rfl ?_
        refine en_goto rfl ?_
        refine ec_iconst cst_1 rfl ?_
        refine en_goto rfl ?_
        cases h
        exact en_zret (Or.inr rfl) rfl
/-- BulkWriterModel.firstMoved(IIZ)I -/
def f_232 (n : Nat) (a0 : Nat) (a1 : Int32) (a2 : Int32) (a3 : Int32) (C : AmC) : Option (Int32 × AmC) := if isK a0 10 = true then (f_194 n a0 a2 C).bind (fun z => match z with | (q2, C3) => (cP C3 a0 29).bind (fun r5 => if isK r5 12 = true then if amIn q2 (aLen r5) = true then (f_230 n a0 a1 (cI C3 r5 (Int32.toNatClampNeg q2)) a3 C3).bind (fun z => match z with | (q9, C10) => (if q9 = 0 then (cP C10 a0 30).bind (fun r13 => if isK r13 12 = true then if amIn q2 (aLen r13) = true then (if (cI C10 r13 (Int32.toNatClampNeg q2)) = (-1 : Int32) then some ((-1 : Int32), C10) else (cP C10 a0 30).bind (fun r18 => if isK r18 12 = true then if amIn q2 (aLen r18) = true then (f_230 n a0 a1 (cI C10 r18 (Int32.toNatClampNeg q2)) a3 C10).bind (fun z => match z with | (q22, C23) => (if q22 = 0 then some ((-1 : Int32), C23) else (cP C23 a0 30).bind (fun r26 => if isK r26 12 = true then if amIn q2 (aLen r26) = true then some ((cI C23 r26 (Int32.toNatClampNeg q2)), C23) else none else none))) else none else none)) else none else none) else (cP C10 a0 29).bind (fun r30 => if isK r30 12 = true then if amIn q2 (aLen r30) = true then some ((cI C10 r30 (Int32.toNatClampNeg q2)), C10) else none else none))) else none else none)) else none
set_option maxRecDepth 20000 in
set_option maxHeartbeats 4000000 in
theorem t_232 {n : Nat} {a0 : Nat} {a1 : Int32} {a2 : Int32} {a3 : Int32} {C : AmC} {r : Int32} {C' : AmC} (h : f_232 n a0 a1 a2 a3 C = some (r, C')) : En false 232 0 [(0, .ref a0), (1, .int a1), (2, .int a2), (3, .int a3)] [] (mkM C) (.inl (some (.int r))) (mkM C') := by
  unfold f_232 at h
  refine en_aload rfl rfl ?_
  refine en_iload rfl rfl ?_
  obtain ⟨g1, h⟩ := gd h
  obtain ⟨⟨q2, C3⟩, e4, h⟩ := gb h
  dsimp only at h
  refine ec_callV1 (k' := 194) (n := 2) (rc := 10) (a := a0) (as := [.int a2]) ⟨rfl, rfl⟩ rfl rfl (Nat.le_of_ble_eq_true rfl) (Nat.le_of_ble_eq_true rfl) (Nat.le_of_ble_eq_true rfl) g1 rfl (t_194 e4) ?_
  refine en_istore (l' := [(4, .int q2), (0, .ref a0), (1, .int a1), (2, .int a2), (3, .int a3)]) rfl rfl ?_
  refine en_aload rfl rfl ?_
  refine en_iload rfl rfl ?_
  refine en_aload rfl rfl ?_
  obtain ⟨r5, e6, h⟩ := gb h
  refine ec_getP (ci := 10) (j := 29) ⟨rfl, rfl, rfl⟩ g1 e6 rfl ?_
  refine en_iload rfl rfl ?_
  obtain ⟨g7, h⟩ := gd h
  obtain ⟨g8, h⟩ := gd h
  refine ec_iaload g7 g8 rfl ?_
  refine en_iload rfl rfl ?_
  obtain ⟨⟨q9, C10⟩, e11, h⟩ := gb h
  dsimp only at h
  refine ec_callV1 (k' := 230) (n := 4) (rc := 10) (a := a0) (as := [.int a1, .int (cI C3 r5 (Int32.toNatClampNeg q2)), .int a3]) ⟨rfl, rfl⟩ rfl rfl (Nat.le_of_ble_eq_true rfl) (Nat.le_of_ble_eq_true rfl) (Nat.le_of_ble_eq_true rfl) g1 rfl (t_230 e11) ?_
  rcases gi h with ⟨c12, h⟩ | ⟨c12, h⟩
  · refine en_if_eq_t c12 rfl ?_
    refine en_aload rfl rfl ?_
    obtain ⟨r13, e14, h⟩ := gb h
    refine ec_getP (ci := 10) (j := 30) ⟨rfl, rfl, rfl⟩ g1 e14 rfl ?_
    refine en_iload rfl rfl ?_
    obtain ⟨g15, h⟩ := gd h
    obtain ⟨g16, h⟩ := gd h
    refine ec_iaload g15 g16 rfl ?_
    refine ec_iconst cst_m1 rfl ?_
    rcases gi h with ⟨c17, h⟩ | ⟨c17, h⟩
    · refine en_icmp_eq_t c17 rfl ?_
      refine ec_iconst cst_m1 rfl ?_
      cases h
      exact en_iret rfl
    · refine en_icmp_eq_f c17 rfl ?_
      refine en_aload rfl rfl ?_
      refine en_iload rfl rfl ?_
      refine en_aload rfl rfl ?_
      obtain ⟨r18, e19, h⟩ := gb h
      refine ec_getP (ci := 10) (j := 30) ⟨rfl, rfl, rfl⟩ g1 e19 rfl ?_
      refine en_iload rfl rfl ?_
      obtain ⟨g20, h⟩ := gd h
      obtain ⟨g21, h⟩ := gd h
      refine ec_iaload g20 g21 rfl ?_
      refine en_iload rfl rfl ?_
      obtain ⟨⟨q22, C23⟩, e24, h⟩ := gb h
      dsimp only at h
      refine ec_callV1 (k' := 230) (n := 4) (rc := 10) (a := a0) (as := [.int a1, .int (cI C10 r18 (Int32.toNatClampNeg q2)), .int a3]) ⟨rfl, rfl⟩ rfl rfl (Nat.le_of_ble_eq_true rfl) (Nat.le_of_ble_eq_true rfl) (Nat.le_of_ble_eq_true rfl) g1 rfl (t_230 e24) ?_
      rcases gi h with ⟨c25, h⟩ | ⟨c25, h⟩
      · refine en_if_eq_t c25 rfl ?_
        refine ec_iconst cst_m1 rfl ?_
        cases h
        exact en_iret rfl
      · refine en_if_eq_f c25 rfl ?_
        refine en_aload rfl rfl ?_
        obtain ⟨r26, e27, h⟩ := gb h
        refine ec_getP (ci := 10) (j := 30) ⟨rfl, rfl, rfl⟩ g1 e27 rfl ?_
        refine en_iload rfl rfl ?_
        obtain ⟨g28, h⟩ := gd h
        obtain ⟨g29, h⟩ := gd h
        refine ec_iaload g28 g29 rfl ?_
        refine en_goto rfl ?_
        cases h
        exact en_iret rfl
  · refine en_if_eq_f c12 rfl ?_
    refine en_aload rfl rfl ?_
    obtain ⟨r30, e31, h⟩ := gb h
    refine ec_getP (ci := 10) (j := 29) ⟨rfl, rfl, rfl⟩ g1 e31 rfl ?_
    refine en_iload rfl rfl ?_
    obtain ⟨g32, h⟩ := gd h
    obtain ⟨g33, h⟩ := gd h
    refine ec_iaload g32 g33 rfl ?_
    cases h
    exact en_iret rfl
