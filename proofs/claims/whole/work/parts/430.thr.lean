/-! Every throw of the table is the machine's. -/
section AmThrS
variable {p : Program} {l : Launch} {e : Env} {R : Room} {s : State} {m : MethodId} {args : Array Value} {below : List Frame} {meth : Method} {c : Code} {Q : State → Prop} {cc : ByteArray} {own : String} {nL : Nat} {dC : Nat → ClassId} {dI : Nat → Nat → Nat} {ct : Nat → ClassId} {g : Nat → Nat} {b z0 s0 : Nat} {x : Bool} {pc : Nat} {ll : AmL} {st : List Value} {M : AmM}
theorem sn_thr (F : AmF p s m args meth c own cc nL dC dI ct g b z0 x) {n ik is ic sa ix : Nat} {rx : ByteArray} {text : String} (x0 : decode rx 0 = .ok (.aload_n 0, 1)) (x1 : decode rx 1 = .ok (.aload_n 1, 1)) (x2 : decode rx 2 = .ok (.invokespecial ix, 3)) (x5 : decode rx 5 = .ok (.return_, 1)) (hlt : l.stackTraces = false) (hxf : ∀ z ∈ c.exceptionTable.toList, False) (hk : Cond.classLink own ik (amEx n) ∈ amTB) (hi : Cond.initialized (amEx n) ∈ amTB) (hstr : vk_R own is text sa s) (hcls : Bundle.fit (amEx n) = true) (hat : ∀ w ∈ (ax_own own ic (amEx n) ix rx ["java/lang/RuntimeException", "java/lang/Exception"]).filter vx_no, w ∈ lw_tbl ∧ (goodWord w || amNest w) = true) (hgood : ∀ w ∈ Cond.classLink own ik (amEx n) :: Cond.initialized (amEx n) :: (ax_own own ic (amEx n) ix rx ["java/lang/RuntimeException", "java/lang/Exception"]).filter vx_no, vx_ot w = true) (hst : amCat st ≤ 8) (hr1 : 6 ≤ R.frames) (hr2 : 90 ≤ R.locals) (hr3 : mZ M - z0 + 1 ≤ R.cells) (hr4 : mS M - s0 + 6 ≤ R.slots) (d0 : decode cc pc = .ok (.new ik, 3)) (d3 : decode cc (pc + 3) = .ok (.dup, 1)) (d4 : decode cc (pc + 4) = .ok (.ldc is, 2)) (d6 : decode cc (pc + 6) = .ok (.invokespecial ic, 3)) (d9 : decode cc (pc + 9) = .ok (.athrow, 1)) : AmG p l e R s m args below meth c (amQq below args s dC dI ct g b z0 s0 (.inr n) M) nL dC dI ct g b z0 s0 x (pc) (ll) (st) (M) := by
  obtain ⟨hx, hb, hml, hown, hts, hK, hX, hb0, hlk, hg, hex⟩ := F
  intro H locs ls hP hS hl h1 h2 h3
  have hat' : ∀ w ∈ (ax_own own ic (amEx n) ix rx ["java/lang/RuntimeException", "java/lang/Exception"]).filter vx_no, w.before args s = true := by
    intro w hw
    obtain ⟨q1, q2⟩ := hat w hw
    rcases Bool.or_eq_true _ _ ▸ q2 with q3 | q3
    · exact hts w (List.mem_filter.mpr ⟨q1, q3⟩)
    · have q4 := hX.1 w q1 q3
      refine va_Nw.use ?_ q4
      cases w <;> first | rfl | (simp [amNest] at q3)
  refine ax_make (A := amA g b) (names := ["java/lang/RuntimeException", "java/lang/Exception"]) (text := text) (sa := sa) hx hb hlt x0 x1 x2 x5 hown hcls (by decide) (hts _ hk) (hts _ hi) hstr hat' hgood hX.2.1 hX.2.2.1 hS (by rw [hml]; exact hl.1) d0 d3 d4 d6 hr1 ?_ hr3 hr4 (fun ce H1 hz hk9 hq hv hcl => ?_)
  · exact Nat.le_trans (Nat.add_le_add_right (Nat.le_trans (Nat.le_of_eq (am_cats g st)) hst) _) hr2
  · refine vx_athrow hx hb d9 ?_
    have hS1 : va_S (amA g b) s.heap H1 locs := ⟨Nat.le_trans hS.1 hz, fun q q1 q2 => (hk9 q (Nat.lt_of_lt_of_le q1 hS.1)).trans (hS.2.1 q q1 q2), hS.2.2⟩
    exact vx_out (fun z hz => (hxf z hz).elim) hlk hq hv hcl (fun t ht _ => ⟨n, rfl, rfl, by rw [ht]; exact hP.kept (fun k q hq' => hk9 _ (hP k q hq').lt), hS1.F ht⟩) hS.2.2 (Nat.le_refl _) (Nat.le_refl _)
theorem sn_thrW (F : AmF p s m args meth c own cc nL dC dI ct g b z0 x) {n ik is ic sa ix : Nat} {rx : ByteArray} {text : String} (x0 : decode rx 0 = .ok (.aload_n 0, 1)) (x1 : decode rx 1 = .ok (.aload_n 1, 1)) (x2 : decode rx 2 = .ok (.invokespecial ix, 3)) (x5 : decode rx 5 = .ok (.return_, 1)) (hlt : l.stackTraces = false) (hxf : ∀ z ∈ c.exceptionTable.toList, False) (hk : Cond.classLink own ik (amEx n) ∈ amTB) (hi : Cond.initialized (amEx n) ∈ amTB) (hstr : vk_R own is text sa s) (hcls : Bundle.fit (amEx n) = true) (hat : ∀ w ∈ (ax_own own ic (amEx n) ix rx ["java/lang/RuntimeException", "java/lang/Exception"]).filter vx_no, w ∈ lw_tbl ∧ (goodWord w || amNest w) = true) (hgood : ∀ w ∈ Cond.classLink own ik (amEx n) :: Cond.initialized (amEx n) :: (ax_own own ic (amEx n) ix rx ["java/lang/RuntimeException", "java/lang/Exception"]).filter vx_no, vx_ot w = true) (hst : amCat st ≤ 8) (hr1 : 6 ≤ R.frames) (hr2 : 90 ≤ R.locals) (hr3 : mZ M - z0 + 1 ≤ R.cells) (hr4 : mS M - s0 + 6 ≤ R.slots) (d0 : decode cc pc = .ok (.new ik, 3)) (d3 : decode cc (pc + 3) = .ok (.dup, 1)) (d4 : decode cc (pc + 4) = .ok (.ldc_w is, 3)) (d6 : decode cc (pc + 7) = .ok (.invokespecial ic, 3)) (d9 : decode cc (pc + 10) = .ok (.athrow, 1)) : AmG p l e R s m args below meth c (amQq below args s dC dI ct g b z0 s0 (.inr n) M) nL dC dI ct g b z0 s0 x (pc) (ll) (st) (M) := by
  obtain ⟨hx, hb, hml, hown, hts, hK, hX, hb0, hlk, hg, hex⟩ := F
  intro H locs ls hP hS hl h1 h2 h3
  have hat' : ∀ w ∈ (ax_own own ic (amEx n) ix rx ["java/lang/RuntimeException", "java/lang/Exception"]).filter vx_no, w.before args s = true := by
    intro w hw
    obtain ⟨q1, q2⟩ := hat w hw
    rcases Bool.or_eq_true _ _ ▸ q2 with q3 | q3
    · exact hts w (List.mem_filter.mpr ⟨q1, q3⟩)
    · have q4 := hX.1 w q1 q3
      refine va_Nw.use ?_ q4
      cases w <;> first | rfl | (simp [amNest] at q3)
  refine ax_makeW (A := amA g b) (names := ["java/lang/RuntimeException", "java/lang/Exception"]) (text := text) (sa := sa) hx hb hlt x0 x1 x2 x5 hown hcls (by decide) (hts _ hk) (hts _ hi) hstr hat' hgood hX.2.1 hX.2.2.1 hS (by rw [hml]; exact hl.1) d0 d3 d4 d6 hr1 ?_ hr3 hr4 (fun ce H1 hz hk9 hq hv hcl => ?_)
  · exact Nat.le_trans (Nat.add_le_add_right (Nat.le_trans (Nat.le_of_eq (am_cats g st)) hst) _) hr2
  · refine vx_athrow hx hb d9 ?_
    have hS1 : va_S (amA g b) s.heap H1 locs := ⟨Nat.le_trans hS.1 hz, fun q q1 q2 => (hk9 q (Nat.lt_of_lt_of_le q1 hS.1)).trans (hS.2.1 q q1 q2), hS.2.2⟩
    exact vx_out (fun z hz => (hxf z hz).elim) hlk hq hv hcl (fun t ht _ => ⟨n, rfl, rfl, by rw [ht]; exact hP.kept (fun k q hq' => hk9 _ (hP k q hq').lt), hS1.F ht⟩) hS.2.2 (Nat.le_refl _) (Nat.le_refl _)
end AmThrS
theorem ax0_d0 : decode prog_28_method_4_code 0 = .ok (.aload_n 0, 1) := by decide +kernel
theorem ax0_d1 : decode prog_28_method_4_code 1 = .ok (.aload_n 1, 1) := by decide +kernel
theorem ax0_d2 : decode prog_28_method_4_code 2 = .ok (.invokespecial 13, 3) := by decide +kernel
theorem ax0_d5 : decode prog_28_method_4_code 5 = .ok (.return_, 1) := by decide +kernel
set_option maxRecDepth 20000 in
theorem ax0_158_t : ∀ w ∈ (ax_own RX9 158 (amEx 0) 13 prog_28_method_4_code ["java/lang/RuntimeException", "java/lang/Exception"]).filter vx_no, w ∈ lw_tbl := by decide +kernel
theorem ax0_158_g : ∀ w ∈ (ax_own RX9 158 (amEx 0) 13 prog_28_method_4_code ["java/lang/RuntimeException", "java/lang/Exception"]).filter vx_no, (goodWord w || amNest w) = true := by decide +kernel
theorem ax0_158_o : ∀ w ∈ (ax_own RX9 158 (amEx 0) 13 prog_28_method_4_code ["java/lang/RuntimeException", "java/lang/Exception"]).filter vx_no, vx_ot w = true := by decide +kernel
theorem ax0_f : Bundle.fit (amEx 0) = true := by decide +kernel
theorem ax1_d0 : decode prog_17_method_2_code 0 = .ok (.aload_n 0, 1) := by decide +kernel
theorem ax1_d1 : decode prog_17_method_2_code 1 = .ok (.aload_n 1, 1) := by decide +kernel
theorem ax1_d2 : decode prog_17_method_2_code 2 = .ok (.invokespecial 7, 3) := by decide +kernel
theorem ax1_d5 : decode prog_17_method_2_code 5 = .ok (.return_, 1) := by decide +kernel
set_option maxRecDepth 20000 in
theorem ax1_96_t : ∀ w ∈ (ax_own RX9 96 (amEx 1) 7 prog_17_method_2_code ["java/lang/RuntimeException", "java/lang/Exception"]).filter vx_no, w ∈ lw_tbl := by decide +kernel
theorem ax1_96_g : ∀ w ∈ (ax_own RX9 96 (amEx 1) 7 prog_17_method_2_code ["java/lang/RuntimeException", "java/lang/Exception"]).filter vx_no, (goodWord w || amNest w) = true := by decide +kernel
theorem ax1_96_o : ∀ w ∈ (ax_own RX9 96 (amEx 1) 7 prog_17_method_2_code ["java/lang/RuntimeException", "java/lang/Exception"]).filter vx_no, vx_ot w = true := by decide +kernel
theorem ax1_f : Bundle.fit (amEx 1) = true := by decide +kernel
theorem ax0_w : ∀ w ∈ ([.classLink RX9 154 (amEx 0), .initialized (amEx 0)] : List Cond), w ∈ amTB := am_tbof [1208, 175] (by decide +kernel) (by decide +kernel)
theorem ax0_wo : vx_ot (.classLink RX9 154 (amEx 0)) = true ∧ vx_ot (.initialized (amEx 0)) = true := by decide +kernel
theorem ax1_w : ∀ w ∈ ([.classLink RX9 92 (amEx 1), .initialized (amEx 1)] : List Cond), w ∈ amTB := am_tbof [904, 167] (by decide +kernel) (by decide +kernel)
theorem ax1_wo : vx_ot (.classLink RX9 92 (amEx 1)) = true ∧ vx_ot (.initialized (amEx 1)) = true := by decide +kernel
def axS : List (Nat × Nat × Int) := [(119, 6, 1), (121, 61, 0), (123, 11, 0), (130, 27, 0), (139, 8, 1), (143, 7, 0), (144, 7, 0), (145, 3, 0), (146, 7, 0), (147, 5, 0)]
def axChk (k : Nat) : Bool := (List.range (amTab k).length).all (fun i => match aP k i with
  | some (.jsr n) => decide ((k, i, n) ∈ axS)
  | _ => true)
set_option maxRecDepth 20000 in
theorem axChk_all : (List.range 289).all axChk = true := by decide +kernel
theorem ax_site {k i : Nat} {n : Int} (h : aP k i = some (.jsr n)) : (k, i, n) ∈ axS := by
  obtain ⟨hk, hi⟩ := aP_in h
  have h1 := List.all_eq_true.mp (List.all_eq_true.mp axChk_all k (List.mem_range.mpr hk)) i (List.mem_range.mpr hi)
  rw [h] at h1
  exact of_decide_eq_true h1
theorem ax_thr {l : Launch} (hlt : l.stackTraces = false) : AmThr l aY aC aN aR aF aL aPc aP := by
  intro p e R s m args below meth c z0 s0 dC dI ct g b k i n ll st M hP F hst hr3 hr4
  obtain ⟨F0', hnm, hrt, hxf, hRf, hRl⟩ := F
  have hstr := F0'.2.2.2.2.2.2.1.2.2.2.2.2.1
  have hs := ax_site hP
  simp only [axS, List.mem_cons, List.not_mem_nil, or_false, Prod.mk.injEq] at hs
  rcases hs with ⟨rfl, rfl, rfl⟩ | ⟨rfl, rfl, rfl⟩ | ⟨rfl, rfl, rfl⟩ | ⟨rfl, rfl, rfl⟩ | ⟨rfl, rfl, rfl⟩ | ⟨rfl, rfl, rfl⟩ | ⟨rfl, rfl, rfl⟩ | ⟨rfl, rfl, rfl⟩ | ⟨rfl, rfl, rfl⟩ | ⟨rfl, rfl, rfl⟩
  · obtain ⟨sa, hsa⟩ := hstr ("BulkWriter", 94, "the tape has not so many bytes") (by decide)
    exact sn_thr (n := 1) (ix := 7) (rx := prog_17_method_2_code) F0' ax1_d0 ax1_d1 ax1_d2 ax1_d5 hlt hxf (ax1_w _ List.mem_cons_self) (ax1_w _ (List.mem_cons_of_mem _ List.mem_cons_self)) hsa ax1_f (fun w hw => ⟨ax1_96_t w hw, ax1_96_g w hw⟩) (List.forall_mem_cons.mpr ⟨ax1_wo.1, List.forall_mem_cons.mpr ⟨ax1_wo.2, ax1_96_o⟩⟩) hst (Nat.le_trans (by decide +kernel : 6 ≤ aF 119) hRf) (Nat.le_trans (by decide +kernel : 90 ≤ aL 119) hRl) hr3 hr4 (by decide +kernel : decode (aC 119) (aPc 119 6) = .ok (.new 92, 3)) (by decide +kernel : decode (aC 119) (aPc 119 6 + 3) = .ok (.dup, 1)) (by decide +kernel : decode (aC 119) (aPc 119 6 + 4) = .ok (.ldc 94, 2)) (by decide +kernel : decode (aC 119) (aPc 119 6 + 6) = .ok (.invokespecial 96, 3)) (by decide +kernel : decode (aC 119) (aPc 119 6 + 9) = .ok (.athrow, 1))
  · obtain ⟨sa, hsa⟩ := hstr ("BulkWriter", 156, "no such count") (by decide)
    exact sn_thr (n := 0) (ix := 13) (rx := prog_28_method_4_code) F0' ax0_d0 ax0_d1 ax0_d2 ax0_d5 hlt hxf (ax0_w _ List.mem_cons_self) (ax0_w _ (List.mem_cons_of_mem _ List.mem_cons_self)) hsa ax0_f (fun w hw => ⟨ax0_158_t w hw, ax0_158_g w hw⟩) (List.forall_mem_cons.mpr ⟨ax0_wo.1, List.forall_mem_cons.mpr ⟨ax0_wo.2, ax0_158_o⟩⟩) hst (Nat.le_trans (by decide +kernel : 6 ≤ aF 121) hRf) (Nat.le_trans (by decide +kernel : 90 ≤ aL 121) hRl) hr3 hr4 (by decide +kernel : decode (aC 121) (aPc 121 61) = .ok (.new 154, 3)) (by decide +kernel : decode (aC 121) (aPc 121 61 + 3) = .ok (.dup, 1)) (by decide +kernel : decode (aC 121) (aPc 121 61 + 4) = .ok (.ldc 156, 2)) (by decide +kernel : decode (aC 121) (aPc 121 61 + 6) = .ok (.invokespecial 158, 3)) (by decide +kernel : decode (aC 121) (aPc 121 61 + 9) = .ok (.athrow, 1))
  · obtain ⟨sa, hsa⟩ := hstr ("BulkWriter", 170, "no such row of the path") (by decide)
    exact sn_thr (n := 0) (ix := 13) (rx := prog_28_method_4_code) F0' ax0_d0 ax0_d1 ax0_d2 ax0_d5 hlt hxf (ax0_w _ List.mem_cons_self) (ax0_w _ (List.mem_cons_of_mem _ List.mem_cons_self)) hsa ax0_f (fun w hw => ⟨ax0_158_t w hw, ax0_158_g w hw⟩) (List.forall_mem_cons.mpr ⟨ax0_wo.1, List.forall_mem_cons.mpr ⟨ax0_wo.2, ax0_158_o⟩⟩) hst (Nat.le_trans (by decide +kernel : 6 ≤ aF 123) hRf) (Nat.le_trans (by decide +kernel : 90 ≤ aL 123) hRl) hr3 hr4 (by decide +kernel : decode (aC 123) (aPc 123 11) = .ok (.new 154, 3)) (by decide +kernel : decode (aC 123) (aPc 123 11 + 3) = .ok (.dup, 1)) (by decide +kernel : decode (aC 123) (aPc 123 11 + 4) = .ok (.ldc 170, 2)) (by decide +kernel : decode (aC 123) (aPc 123 11 + 6) = .ok (.invokespecial 158, 3)) (by decide +kernel : decode (aC 123) (aPc 123 11 + 9) = .ok (.athrow, 1))
  · obtain ⟨sa, hsa⟩ := hstr ("BulkWriter", 248, "no such write of the order") (by decide)
    exact sn_thr (n := 0) (ix := 13) (rx := prog_28_method_4_code) F0' ax0_d0 ax0_d1 ax0_d2 ax0_d5 hlt hxf (ax0_w _ List.mem_cons_self) (ax0_w _ (List.mem_cons_of_mem _ List.mem_cons_self)) hsa ax0_f (fun w hw => ⟨ax0_158_t w hw, ax0_158_g w hw⟩) (List.forall_mem_cons.mpr ⟨ax0_wo.1, List.forall_mem_cons.mpr ⟨ax0_wo.2, ax0_158_o⟩⟩) hst (Nat.le_trans (by decide +kernel : 6 ≤ aF 130) hRf) (Nat.le_trans (by decide +kernel : 90 ≤ aL 130) hRl) hr3 hr4 (by decide +kernel : decode (aC 130) (aPc 130 27) = .ok (.new 154, 3)) (by decide +kernel : decode (aC 130) (aPc 130 27 + 3) = .ok (.dup, 1)) (by decide +kernel : decode (aC 130) (aPc 130 27 + 4) = .ok (.ldc 248, 2)) (by decide +kernel : decode (aC 130) (aPc 130 27 + 6) = .ok (.invokespecial 158, 3)) (by decide +kernel : decode (aC 130) (aPc 130 27 + 9) = .ok (.athrow, 1))
  · obtain ⟨sa, hsa⟩ := hstr ("BulkWriter", 291, "not so many years") (by decide)
    exact sn_thrW (n := 1) (ix := 7) (rx := prog_17_method_2_code) F0' ax1_d0 ax1_d1 ax1_d2 ax1_d5 hlt hxf (ax1_w _ List.mem_cons_self) (ax1_w _ (List.mem_cons_of_mem _ List.mem_cons_self)) hsa ax1_f (fun w hw => ⟨ax1_96_t w hw, ax1_96_g w hw⟩) (List.forall_mem_cons.mpr ⟨ax1_wo.1, List.forall_mem_cons.mpr ⟨ax1_wo.2, ax1_96_o⟩⟩) hst (Nat.le_trans (by decide +kernel : 6 ≤ aF 139) hRf) (Nat.le_trans (by decide +kernel : 90 ≤ aL 139) hRl) hr3 hr4 (by decide +kernel : decode (aC 139) (aPc 139 8) = .ok (.new 92, 3)) (by decide +kernel : decode (aC 139) (aPc 139 8 + 3) = .ok (.dup, 1)) (by decide +kernel : decode (aC 139) (aPc 139 8 + 4) = .ok (.ldc_w 291, 3)) (by decide +kernel : decode (aC 139) (aPc 139 8 + 7) = .ok (.invokespecial 96, 3)) (by decide +kernel : decode (aC 139) (aPc 139 8 + 10) = .ok (.athrow, 1))
  · obtain ⟨sa, hsa⟩ := hstr ("BulkWriter", 303, "no such statement") (by decide)
    exact sn_thrW (n := 0) (ix := 13) (rx := prog_28_method_4_code) F0' ax0_d0 ax0_d1 ax0_d2 ax0_d5 hlt hxf (ax0_w _ List.mem_cons_self) (ax0_w _ (List.mem_cons_of_mem _ List.mem_cons_self)) hsa ax0_f (fun w hw => ⟨ax0_158_t w hw, ax0_158_g w hw⟩) (List.forall_mem_cons.mpr ⟨ax0_wo.1, List.forall_mem_cons.mpr ⟨ax0_wo.2, ax0_158_o⟩⟩) hst (Nat.le_trans (by decide +kernel : 6 ≤ aF 143) hRf) (Nat.le_trans (by decide +kernel : 90 ≤ aL 143) hRl) hr3 hr4 (by decide +kernel : decode (aC 143) (aPc 143 7) = .ok (.new 154, 3)) (by decide +kernel : decode (aC 143) (aPc 143 7 + 3) = .ok (.dup, 1)) (by decide +kernel : decode (aC 143) (aPc 143 7 + 4) = .ok (.ldc_w 303, 3)) (by decide +kernel : decode (aC 143) (aPc 143 7 + 7) = .ok (.invokespecial 158, 3)) (by decide +kernel : decode (aC 143) (aPc 143 7 + 10) = .ok (.athrow, 1))
  · obtain ⟨sa, hsa⟩ := hstr ("BulkWriter", 305, "no such path") (by decide)
    exact sn_thrW (n := 0) (ix := 13) (rx := prog_28_method_4_code) F0' ax0_d0 ax0_d1 ax0_d2 ax0_d5 hlt hxf (ax0_w _ List.mem_cons_self) (ax0_w _ (List.mem_cons_of_mem _ List.mem_cons_self)) hsa ax0_f (fun w hw => ⟨ax0_158_t w hw, ax0_158_g w hw⟩) (List.forall_mem_cons.mpr ⟨ax0_wo.1, List.forall_mem_cons.mpr ⟨ax0_wo.2, ax0_158_o⟩⟩) hst (Nat.le_trans (by decide +kernel : 6 ≤ aF 144) hRf) (Nat.le_trans (by decide +kernel : 90 ≤ aL 144) hRl) hr3 hr4 (by decide +kernel : decode (aC 144) (aPc 144 7) = .ok (.new 154, 3)) (by decide +kernel : decode (aC 144) (aPc 144 7 + 3) = .ok (.dup, 1)) (by decide +kernel : decode (aC 144) (aPc 144 7 + 4) = .ok (.ldc_w 305, 3)) (by decide +kernel : decode (aC 144) (aPc 144 7 + 7) = .ok (.invokespecial 158, 3)) (by decide +kernel : decode (aC 144) (aPc 144 7 + 10) = .ok (.athrow, 1))
  · obtain ⟨sa, hsa⟩ := hstr ("BulkWriter", 307, "no such place") (by decide)
    exact sn_thrW (n := 0) (ix := 13) (rx := prog_28_method_4_code) F0' ax0_d0 ax0_d1 ax0_d2 ax0_d5 hlt hxf (ax0_w _ List.mem_cons_self) (ax0_w _ (List.mem_cons_of_mem _ List.mem_cons_self)) hsa ax0_f (fun w hw => ⟨ax0_158_t w hw, ax0_158_g w hw⟩) (List.forall_mem_cons.mpr ⟨ax0_wo.1, List.forall_mem_cons.mpr ⟨ax0_wo.2, ax0_158_o⟩⟩) hst (Nat.le_trans (by decide +kernel : 6 ≤ aF 145) hRf) (Nat.le_trans (by decide +kernel : 90 ≤ aL 145) hRl) hr3 hr4 (by decide +kernel : decode (aC 145) (aPc 145 3) = .ok (.new 154, 3)) (by decide +kernel : decode (aC 145) (aPc 145 3 + 3) = .ok (.dup, 1)) (by decide +kernel : decode (aC 145) (aPc 145 3 + 4) = .ok (.ldc_w 307, 3)) (by decide +kernel : decode (aC 145) (aPc 145 3 + 7) = .ok (.invokespecial 158, 3)) (by decide +kernel : decode (aC 145) (aPc 145 3 + 10) = .ok (.athrow, 1))
  · obtain ⟨sa, hsa⟩ := hstr ("BulkWriter", 309, "no such place or column") (by decide)
    exact sn_thrW (n := 0) (ix := 13) (rx := prog_28_method_4_code) F0' ax0_d0 ax0_d1 ax0_d2 ax0_d5 hlt hxf (ax0_w _ List.mem_cons_self) (ax0_w _ (List.mem_cons_of_mem _ List.mem_cons_self)) hsa ax0_f (fun w hw => ⟨ax0_158_t w hw, ax0_158_g w hw⟩) (List.forall_mem_cons.mpr ⟨ax0_wo.1, List.forall_mem_cons.mpr ⟨ax0_wo.2, ax0_158_o⟩⟩) hst (Nat.le_trans (by decide +kernel : 6 ≤ aF 146) hRf) (Nat.le_trans (by decide +kernel : 90 ≤ aL 146) hRl) hr3 hr4 (by decide +kernel : decode (aC 146) (aPc 146 7) = .ok (.new 154, 3)) (by decide +kernel : decode (aC 146) (aPc 146 7 + 3) = .ok (.dup, 1)) (by decide +kernel : decode (aC 146) (aPc 146 7 + 4) = .ok (.ldc_w 309, 3)) (by decide +kernel : decode (aC 146) (aPc 146 7 + 7) = .ok (.invokespecial 158, 3)) (by decide +kernel : decode (aC 146) (aPc 146 7 + 10) = .ok (.athrow, 1))
  · obtain ⟨sa, hsa⟩ := hstr ("BulkWriter", 311, "nothing is told by this number") (by decide)
    exact sn_thrW (n := 0) (ix := 13) (rx := prog_28_method_4_code) F0' ax0_d0 ax0_d1 ax0_d2 ax0_d5 hlt hxf (ax0_w _ List.mem_cons_self) (ax0_w _ (List.mem_cons_of_mem _ List.mem_cons_self)) hsa ax0_f (fun w hw => ⟨ax0_158_t w hw, ax0_158_g w hw⟩) (List.forall_mem_cons.mpr ⟨ax0_wo.1, List.forall_mem_cons.mpr ⟨ax0_wo.2, ax0_158_o⟩⟩) hst (Nat.le_trans (by decide +kernel : 6 ≤ aF 147) hRf) (Nat.le_trans (by decide +kernel : 90 ≤ aL 147) hRl) hr3 hr4 (by decide +kernel : decode (aC 147) (aPc 147 5) = .ok (.new 154, 3)) (by decide +kernel : decode (aC 147) (aPc 147 5 + 3) = .ok (.dup, 1)) (by decide +kernel : decode (aC 147) (aPc 147 5 + 4) = .ok (.ldc_w 311, 3)) (by decide +kernel : decode (aC 147) (aPc 147 5 + 7) = .ok (.invokespecial 158, 3)) (by decide +kernel : decode (aC 147) (aPc 147 5 + 10) = .ok (.athrow, 1))
