/-! The law's methods that call the class and catch what it throws. -/
set_option maxHeartbeats 2000000 in
theorem wr_table {l : Launch} (hlt : l.stackTraces = false) {dC : Nat → ClassId} {dI : Nat → Nat → Nat} {ct : Nat → ClassId} {g : Nat → Nat} {b : Nat} {cL : ClassId} {C C' : AmC} {f : Nat → Int64} {A : Int32 ⊕ Nat} {a1 : Int32} (hg : amHg g b) (hob : b ≤ g (amKN + 2)) (hE : En false 119 0 (lv_args 0 (.ref 0 :: [a1].map Value.int)) [] (mkM C) (ovI A) (mkM C')) (hA : ∀ n, A = .inr n → n = 1) : vx_Met l yL_table (Cond.codeWith yL_table cL_table 4 (some .int) [(0, 9, 12, 13)] :: amTB) { frames := 10, cells := 1, slots := 6, locals := 245 } (lwPre dC dI ct g b cL [.ref (g 0), .int a1, .ref (g (amKN + 2))] C f) (lwQ dC dI ct g b cL C' A hx1) (fun _ _ _ => False) 1 6 (fun q : Nat => b ≤ q) := by
  refine vx_ofWH (cc := cL_table) (maxL := 4) (ret := some .int) (hh := [(0, 9, 12, 13)]) (by decide) rfl ?_
  intro p e s m args below meth c s₁ B hml hv
  obtain ⟨rfl, hP, hO, hK, hKL, hX, hNc⟩ := hv
  have hx := B.exec
  have hb := B.bytes
  have hr := B.returns
  have hlocks := B.notSynchronized
  have hts0 := atoms_spec (ws := Cond.codeWith yL_table cL_table 4 (some .int) [(0, 9, 12, 13)] :: amTB) B.pre
  have hts : ∀ w ∈ amTB, w.before ([.ref (g 0), .int a1, .ref (g (amKN + 2))] : List Value).toArray s = true := fun w hw => hts0 w (List.mem_cons_of_mem _ hw)
  have hown : s.vm.findClass RL = some m.cls := findClass_of_methodNamed B.named
  have htab : c.exceptionTable.toList = tableOf [(0, 9, 12, 13)] := vx_table (x := yL_table) B (hts0 _ List.mem_cons_self)
  have F : LwF p s m ([.ref (g 0), .int a1, .ref (g (amKN + 2))] : List Value).toArray c RL cL_table 4 dC dI ct g b := ⟨hx, hb, hml, hown, hts, hK, hX, hg⟩
  have hl := lv_entry ([.ref (g 0), .int a1, .ref (g (amKN + 2))]) (n := 4) (Nat.le_of_ble_eq_true rfl)
  rw [lg_entry_eq]
  generalize (lg_sl ([.ref (g 0), .int a1, .ref (g (amKN + 2))]) ++ List.replicate (4 - (lg_sl ([.ref (g 0), .int a1, .ref (g (amKN + 2))])).length) Slot.unset).toArray = ls at hl ⊢
  have hl : lv_has ls 4 [(0, .ref (g 0)), (1, .int a1), (2, .ref (g (amKN + 2)))] := hl
  refine lv_aload_n hx hb dL_table_0 rfl (lv_at hl 2 rfl) ?_
  refine lv_iconst (v := 0) hx hb dL_table_1 (by decide) ?_
  refine lv_aload_n hx hb dL_table_2 rfl (lv_at hl 0 rfl) ?_
  refine lv_iload_n hx hb dL_table_3 rfl (lv_at hl 1 rfl) ?_
  refine lw_inv F hlt (is := [a1]) (rest := [.int 0, .ref (g (amKN + 2))]) (A0 := fun q : Nat => b ≤ q) hE ra_119.1 ra_119.2.1 (by rw [ra_119.2.2.1]; exact Nat.le_of_ble_eq_true rfl) (by decide) (by rw [ra_119.2.2.2.1]; decide) lw_w_lk_119 (by rw [ra_119.2.2.2.2.1, ra_119.2.2.2.2.2.1, ra_119.2.2.2.2.2.2]; exact ⟨Nat.le_refl _, Nat.le_refl _⟩) dL_table_4 hP (lw_hb hg hP hO) va_S.rf (fun _ _ _ => rfl) (fun q h => h.1) hl.1 (Nat.le_of_ble_eq_true rfl) ?_ ?_ ?_
  · cases A with
    | inl z => exact ⟨Nat.le_of_ble_eq_true rfl, Nat.le_of_ble_eq_true rfl⟩
    | inr n => exact ⟨Nat.le_of_ble_eq_true rfl, Nat.le_of_ble_eq_true rfl⟩
  · intro v9 e9 H1 locs1 hP1 hS1 hz1 hk1
    cases A with
    | inr n =>
      have e9 : (Sum.inr n : AmO) = .inl v9 := e9
      cases e9
    | inl z =>
      have e9 : (Sum.inl (some (Value.int z)) : AmO) = .inl v9 := e9
      cases e9
      have hO1 := lw_ok hO hk1
      refine (show W p l e _ s m _ below meth c H1 locs1 _ _ _ (F0 m 7 ls (.int z :: [.int 0, .ref (g (amKN + 2))])) from ?_)
      refine lv_i2l hx hb dL_table_7 rfl ?_
      refine lw_last hx hb hKL hg hob hP1 hO1 hS1 dL_table_8 (fun f1 H2 locs2 hf1 hP2 hO2 hS2 => ?_)
      refine W.widen (k := 1) (n := 6) (Nat.le_of_ble_eq_true rfl) (Nat.le_of_ble_eq_true rfl) ?_
      refine lv_goto (tgt := 15) hx hb dL_table_9 (by decide) ?_
      refine lv_iconst (v := 0) hx hb dL_table_15 (by decide) ?_
      refine vx_ret ?_
      exact W.iret (v := 0) hx hb hr (fun t ht hW => ⟨0, f1, ⟨rfl, hf1⟩, rfl, by rw [ht]; exact hP2, by rw [ht]; exact hO2, hS2.F ht⟩) hS2.2.2 dL_table_16
  · intro n9 e9 H1 locs1 q9 ce hP1 hS1 hz1 hk1 hc1 hc2 hc3
    cases A with
    | inl z =>
      have e9 : (Sum.inl (some (Value.int z)) : AmO) = .inr n9 := e9
      cases e9
    | inr n =>
      have e9 : (Sum.inr n : AmO) = .inr n9 := e9
      cases e9
      have hO1 := lw_ok hO hk1
      obtain rfl := hA _ rfl
      refine vx_catch (name := "java/lang/IllegalArgumentException") hown [] ⟨0, 9, 12, 13⟩ [] (by rw [htab]; rfl) (fun z h => nomatch h) (by decide) (by decide) (hts _ lw_w_iae) (va_Nw.use rfl (hX.1 _ lw_ca_1 rfl)) hc1 hc2 hc3 ?_
      refine lv_astore_n (lv' := [(3, .ref q9), (0, .ref (g 0)), (1, .int a1), (2, .ref (g (amKN + 2)))]) hx hb dL_table_12 rfl hl (by decide) rfl (fun ls hl => ?_)
      refine lv_iconst (v := 1) hx hb dL_table_13 (by decide) ?_
      refine W.widen (k := 1) (n := 6) (Nat.le_of_ble_eq_true rfl) (Nat.le_of_ble_eq_true rfl) ?_
      refine vx_ret ?_
      exact W.iret (v := 1) hx hb hr (fun t ht hW => ⟨1, f, by first | rfl | decide, rfl, by rw [ht]; exact hP1, by rw [ht]; exact hO1, hS1.F ht⟩) hS1.2.2 dL_table_14
set_option maxHeartbeats 2000000 in
theorem wr_count {l : Launch} (hlt : l.stackTraces = false) {dC : Nat → ClassId} {dI : Nat → Nat → Nat} {ct : Nat → ClassId} {g : Nat → Nat} {b : Nat} {cL : ClassId} {C C' : AmC} {f : Nat → Int64} {A : Int32 ⊕ Nat} {a1 : Int32} (hg : amHg g b) (hob : b ≤ g (amKN + 2)) (hE : En false 121 0 (lv_args 0 (.ref 0 :: [a1].map Value.int)) [] (mkM C) (ovI A) (mkM C')) (hA : ∀ n, A = .inr n → n = 0) : vx_Met l yL_count (Cond.codeWith yL_count cL_count 4 (some .int) [(0, 9, 12, 18)] :: amTB) { frames := 7, cells := 1, slots := 6, locals := 111 } (lwPre dC dI ct g b cL [.ref (g 0), .int a1, .ref (g (amKN + 2))] C f) (lwQ dC dI ct g b cL C' A hx1) (fun _ _ _ => False) 1 6 (fun q : Nat => b ≤ q) := by
  refine vx_ofWH (cc := cL_count) (maxL := 4) (ret := some .int) (hh := [(0, 9, 12, 18)]) (by decide) rfl ?_
  intro p e s m args below meth c s₁ B hml hv
  obtain ⟨rfl, hP, hO, hK, hKL, hX, hNc⟩ := hv
  have hx := B.exec
  have hb := B.bytes
  have hr := B.returns
  have hlocks := B.notSynchronized
  have hts0 := atoms_spec (ws := Cond.codeWith yL_count cL_count 4 (some .int) [(0, 9, 12, 18)] :: amTB) B.pre
  have hts : ∀ w ∈ amTB, w.before ([.ref (g 0), .int a1, .ref (g (amKN + 2))] : List Value).toArray s = true := fun w hw => hts0 w (List.mem_cons_of_mem _ hw)
  have hown : s.vm.findClass RL = some m.cls := findClass_of_methodNamed B.named
  have htab : c.exceptionTable.toList = tableOf [(0, 9, 12, 18)] := vx_table (x := yL_count) B (hts0 _ List.mem_cons_self)
  have F : LwF p s m ([.ref (g 0), .int a1, .ref (g (amKN + 2))] : List Value).toArray c RL cL_count 4 dC dI ct g b := ⟨hx, hb, hml, hown, hts, hK, hX, hg⟩
  have hl := lv_entry ([.ref (g 0), .int a1, .ref (g (amKN + 2))]) (n := 4) (Nat.le_of_ble_eq_true rfl)
  rw [lg_entry_eq]
  generalize (lg_sl ([.ref (g 0), .int a1, .ref (g (amKN + 2))]) ++ List.replicate (4 - (lg_sl ([.ref (g 0), .int a1, .ref (g (amKN + 2))])).length) Slot.unset).toArray = ls at hl ⊢
  have hl : lv_has ls 4 [(0, .ref (g 0)), (1, .int a1), (2, .ref (g (amKN + 2)))] := hl
  refine lv_aload_n hx hb dL_count_0 rfl (lv_at hl 2 rfl) ?_
  refine lv_iconst (v := 0) hx hb dL_count_1 (by decide) ?_
  refine lv_aload_n hx hb dL_count_2 rfl (lv_at hl 0 rfl) ?_
  refine lv_iload_n hx hb dL_count_3 rfl (lv_at hl 1 rfl) ?_
  refine lw_inv F hlt (is := [a1]) (rest := [.int 0, .ref (g (amKN + 2))]) (A0 := fun q : Nat => b ≤ q) hE ra_121.1 ra_121.2.1 (by rw [ra_121.2.2.1]; exact Nat.le_of_ble_eq_true rfl) (by decide) (by rw [ra_121.2.2.2.1]; decide) lw_w_lk_121 (by rw [ra_121.2.2.2.2.1, ra_121.2.2.2.2.2.1, ra_121.2.2.2.2.2.2]; exact ⟨Nat.le_refl _, Nat.le_refl _⟩) dL_count_4 hP (lw_hb hg hP hO) va_S.rf (fun _ _ _ => rfl) (fun q h => h.1) hl.1 (Nat.le_of_ble_eq_true rfl) ?_ ?_ ?_
  · cases A with
    | inl z => exact ⟨Nat.le_of_ble_eq_true rfl, Nat.le_of_ble_eq_true rfl⟩
    | inr n => exact ⟨Nat.le_of_ble_eq_true rfl, Nat.le_of_ble_eq_true rfl⟩
  · intro v9 e9 H1 locs1 hP1 hS1 hz1 hk1
    cases A with
    | inr n =>
      have e9 : (Sum.inr n : AmO) = .inl v9 := e9
      cases e9
    | inl z =>
      have e9 : (Sum.inl (some (Value.int z)) : AmO) = .inl v9 := e9
      cases e9
      have hO1 := lw_ok hO hk1
      refine (show W p l e _ s m _ below meth c H1 locs1 _ _ _ (F0 m 7 ls (.int z :: [.int 0, .ref (g (amKN + 2))])) from ?_)
      refine lv_i2l hx hb dL_count_7 rfl ?_
      refine lw_last hx hb hKL hg hob hP1 hO1 hS1 dL_count_8 (fun f1 H2 locs2 hf1 hP2 hO2 hS2 => ?_)
      refine W.widen (k := 1) (n := 6) (Nat.le_of_ble_eq_true rfl) (Nat.le_of_ble_eq_true rfl) ?_
      refine lv_goto (tgt := 15) hx hb dL_count_9 (by decide) ?_
      refine lv_iconst (v := 0) hx hb dL_count_15 (by decide) ?_
      refine vx_ret ?_
      exact W.iret (v := 0) hx hb hr (fun t ht hW => ⟨0, f1, ⟨rfl, hf1⟩, rfl, by rw [ht]; exact hP2, by rw [ht]; exact hO2, hS2.F ht⟩) hS2.2.2 dL_count_16
  · intro n9 e9 H1 locs1 q9 ce hP1 hS1 hz1 hk1 hc1 hc2 hc3
    cases A with
    | inl z =>
      have e9 : (Sum.inl (some (Value.int z)) : AmO) = .inr n9 := e9
      cases e9
    | inr n =>
      have e9 : (Sum.inr n : AmO) = .inr n9 := e9
      cases e9
      have hO1 := lw_ok hO hk1
      obtain rfl := hA _ rfl
      refine vx_catch (name := "java/util/NoSuchElementException") hown [] ⟨0, 9, 12, 18⟩ [] (by rw [htab]; rfl) (fun z h => nomatch h) (by decide) (by decide) (hts _ lw_w_nse) (va_Nw.use rfl (hX.1 _ lw_ca_0 rfl)) hc1 hc2 hc3 ?_
      refine lv_astore_n (lv' := [(3, .ref q9), (0, .ref (g 0)), (1, .int a1), (2, .ref (g (amKN + 2)))]) hx hb dL_count_12 rfl hl (by decide) rfl (fun ls hl => ?_)
      refine lv_iconst (v := 1) hx hb dL_count_13 (by decide) ?_
      refine W.widen (k := 1) (n := 6) (Nat.le_of_ble_eq_true rfl) (Nat.le_of_ble_eq_true rfl) ?_
      refine vx_ret ?_
      exact W.iret (v := 1) hx hb hr (fun t ht hW => ⟨1, f, by first | rfl | decide, rfl, by rw [ht]; exact hP1, by rw [ht]; exact hO1, hS1.F ht⟩) hS1.2.2 dL_count_14
set_option maxHeartbeats 2000000 in
theorem wr_cell {l : Launch} (hlt : l.stackTraces = false) {dC : Nat → ClassId} {dI : Nat → Nat → Nat} {ct : Nat → ClassId} {g : Nat → Nat} {b : Nat} {cL : ClassId} {C C' : AmC} {f : Nat → Int64} {A : Int32 ⊕ Nat} {a1 a2 : Int32} (hg : amHg g b) (hob : b ≤ g (amKN + 2)) (hE : En false 122 0 (lv_args 0 (.ref 0 :: [a1, a2].map Value.int)) [] (mkM C) (ovI A) (mkM C')) (hA : ∀ n, A = .inr n → n = 0) : vx_Met l yL_cell (Cond.codeWith yL_cell cL_cell 5 (some .int) [(0, 10, 13, 18)] :: amTB) { frames := 8, cells := 1, slots := 6, locals := 134 } (lwPre dC dI ct g b cL [.ref (g 0), .int a1, .int a2, .ref (g (amKN + 2))] C f) (lwQ dC dI ct g b cL C' A hx1) (fun _ _ _ => False) 1 6 (fun q : Nat => b ≤ q) := by
  refine vx_ofWH (cc := cL_cell) (maxL := 5) (ret := some .int) (hh := [(0, 10, 13, 18)]) (by decide) rfl ?_
  intro p e s m args below meth c s₁ B hml hv
  obtain ⟨rfl, hP, hO, hK, hKL, hX, hNc⟩ := hv
  have hx := B.exec
  have hb := B.bytes
  have hr := B.returns
  have hlocks := B.notSynchronized
  have hts0 := atoms_spec (ws := Cond.codeWith yL_cell cL_cell 5 (some .int) [(0, 10, 13, 18)] :: amTB) B.pre
  have hts : ∀ w ∈ amTB, w.before ([.ref (g 0), .int a1, .int a2, .ref (g (amKN + 2))] : List Value).toArray s = true := fun w hw => hts0 w (List.mem_cons_of_mem _ hw)
  have hown : s.vm.findClass RL = some m.cls := findClass_of_methodNamed B.named
  have htab : c.exceptionTable.toList = tableOf [(0, 10, 13, 18)] := vx_table (x := yL_cell) B (hts0 _ List.mem_cons_self)
  have F : LwF p s m ([.ref (g 0), .int a1, .int a2, .ref (g (amKN + 2))] : List Value).toArray c RL cL_cell 5 dC dI ct g b := ⟨hx, hb, hml, hown, hts, hK, hX, hg⟩
  have hl := lv_entry ([.ref (g 0), .int a1, .int a2, .ref (g (amKN + 2))]) (n := 5) (Nat.le_of_ble_eq_true rfl)
  rw [lg_entry_eq]
  generalize (lg_sl ([.ref (g 0), .int a1, .int a2, .ref (g (amKN + 2))]) ++ List.replicate (5 - (lg_sl ([.ref (g 0), .int a1, .int a2, .ref (g (amKN + 2))])).length) Slot.unset).toArray = ls at hl ⊢
  have hl : lv_has ls 5 [(0, .ref (g 0)), (1, .int a1), (2, .int a2), (3, .ref (g (amKN + 2)))] := hl
  refine lv_aload_n hx hb dL_cell_0 rfl (lv_at hl 3 rfl) ?_
  refine lv_iconst (v := 0) hx hb dL_cell_1 (by decide) ?_
  refine lv_aload_n hx hb dL_cell_2 rfl (lv_at hl 0 rfl) ?_
  refine lv_iload_n hx hb dL_cell_3 rfl (lv_at hl 1 rfl) ?_
  refine lv_iload_n hx hb dL_cell_4 rfl (lv_at hl 2 rfl) ?_
  refine lw_inv F hlt (is := [a1, a2]) (rest := [.int 0, .ref (g (amKN + 2))]) (A0 := fun q : Nat => b ≤ q) hE ra_122.1 ra_122.2.1 (by rw [ra_122.2.2.1]; exact Nat.le_of_ble_eq_true rfl) (by decide) (by rw [ra_122.2.2.2.1]; decide) lw_w_lk_122 (by rw [ra_122.2.2.2.2.1, ra_122.2.2.2.2.2.1, ra_122.2.2.2.2.2.2]; exact ⟨Nat.le_refl _, Nat.le_refl _⟩) dL_cell_5 hP (lw_hb hg hP hO) va_S.rf (fun _ _ _ => rfl) (fun q h => h.1) hl.1 (Nat.le_of_ble_eq_true rfl) ?_ ?_ ?_
  · cases A with
    | inl z => exact ⟨Nat.le_of_ble_eq_true rfl, Nat.le_of_ble_eq_true rfl⟩
    | inr n => exact ⟨Nat.le_of_ble_eq_true rfl, Nat.le_of_ble_eq_true rfl⟩
  · intro v9 e9 H1 locs1 hP1 hS1 hz1 hk1
    cases A with
    | inr n =>
      have e9 : (Sum.inr n : AmO) = .inl v9 := e9
      cases e9
    | inl z =>
      have e9 : (Sum.inl (some (Value.int z)) : AmO) = .inl v9 := e9
      cases e9
      have hO1 := lw_ok hO hk1
      refine (show W p l e _ s m _ below meth c H1 locs1 _ _ _ (F0 m 8 ls (.int z :: [.int 0, .ref (g (amKN + 2))])) from ?_)
      refine lv_i2l hx hb dL_cell_8 rfl ?_
      refine lw_last hx hb hKL hg hob hP1 hO1 hS1 dL_cell_9 (fun f1 H2 locs2 hf1 hP2 hO2 hS2 => ?_)
      refine W.widen (k := 1) (n := 6) (Nat.le_of_ble_eq_true rfl) (Nat.le_of_ble_eq_true rfl) ?_
      refine lv_goto (tgt := 17) hx hb dL_cell_10 (by decide) ?_
      refine lv_iconst (v := 0) hx hb dL_cell_17 (by decide) ?_
      refine vx_ret ?_
      exact W.iret (v := 0) hx hb hr (fun t ht hW => ⟨0, f1, ⟨rfl, hf1⟩, rfl, by rw [ht]; exact hP2, by rw [ht]; exact hO2, hS2.F ht⟩) hS2.2.2 dL_cell_18
  · intro n9 e9 H1 locs1 q9 ce hP1 hS1 hz1 hk1 hc1 hc2 hc3
    cases A with
    | inl z =>
      have e9 : (Sum.inl (some (Value.int z)) : AmO) = .inr n9 := e9
      cases e9
    | inr n =>
      have e9 : (Sum.inr n : AmO) = .inr n9 := e9
      cases e9
      have hO1 := lw_ok hO hk1
      obtain rfl := hA _ rfl
      refine vx_catch (name := "java/util/NoSuchElementException") hown [] ⟨0, 10, 13, 18⟩ [] (by rw [htab]; rfl) (fun z h => nomatch h) (by decide) (by decide) (hts _ lw_w_nse) (va_Nw.use rfl (hX.1 _ lw_ca_0 rfl)) hc1 hc2 hc3 ?_
      refine lv_astore (lv' := [(4, .ref q9), (0, .ref (g 0)), (1, .int a1), (2, .int a2), (3, .ref (g (amKN + 2)))]) hx hb dL_cell_13 hl (by decide) rfl (fun ls hl => ?_)
      refine lv_iconst (v := 1) hx hb dL_cell_15 (by decide) ?_
      refine W.widen (k := 1) (n := 6) (Nat.le_of_ble_eq_true rfl) (Nat.le_of_ble_eq_true rfl) ?_
      refine vx_ret ?_
      exact W.iret (v := 1) hx hb hr (fun t ht hW => ⟨1, f, by first | rfl | decide, rfl, by rw [ht]; exact hP1, by rw [ht]; exact hO1, hS1.F ht⟩) hS1.2.2 dL_cell_16
set_option maxHeartbeats 2000000 in
theorem wr_along {l : Launch} (hlt : l.stackTraces = false) {dC : Nat → ClassId} {dI : Nat → Nat → Nat} {ct : Nat → ClassId} {g : Nat → Nat} {b : Nat} {cL : ClassId} {C C' : AmC} {f : Nat → Int64} {A : Int32 ⊕ Nat} {a1 a2 : Int32} (hg : amHg g b) (hob : b ≤ g (amKN + 2)) (hE : En false 123 0 (lv_args 0 (.ref 0 :: [a1, a2].map Value.int)) [] (mkM C) (ovI A) (mkM C')) (hA : ∀ n, A = .inr n → n = 0) : vx_Met l yL_along (Cond.codeWith yL_along cL_along 5 (some .int) [(0, 10, 13, 18)] :: amTB) { frames := 8, cells := 1, slots := 6, locals := 135 } (lwPre dC dI ct g b cL [.ref (g 0), .int a1, .int a2, .ref (g (amKN + 2))] C f) (lwQ dC dI ct g b cL C' A hx1) (fun _ _ _ => False) 1 6 (fun q : Nat => b ≤ q) := by
  refine vx_ofWH (cc := cL_along) (maxL := 5) (ret := some .int) (hh := [(0, 10, 13, 18)]) (by decide) rfl ?_
  intro p e s m args below meth c s₁ B hml hv
  obtain ⟨rfl, hP, hO, hK, hKL, hX, hNc⟩ := hv
  have hx := B.exec
  have hb := B.bytes
  have hr := B.returns
  have hlocks := B.notSynchronized
  have hts0 := atoms_spec (ws := Cond.codeWith yL_along cL_along 5 (some .int) [(0, 10, 13, 18)] :: amTB) B.pre
  have hts : ∀ w ∈ amTB, w.before ([.ref (g 0), .int a1, .int a2, .ref (g (amKN + 2))] : List Value).toArray s = true := fun w hw => hts0 w (List.mem_cons_of_mem _ hw)
  have hown : s.vm.findClass RL = some m.cls := findClass_of_methodNamed B.named
  have htab : c.exceptionTable.toList = tableOf [(0, 10, 13, 18)] := vx_table (x := yL_along) B (hts0 _ List.mem_cons_self)
  have F : LwF p s m ([.ref (g 0), .int a1, .int a2, .ref (g (amKN + 2))] : List Value).toArray c RL cL_along 5 dC dI ct g b := ⟨hx, hb, hml, hown, hts, hK, hX, hg⟩
  have hl := lv_entry ([.ref (g 0), .int a1, .int a2, .ref (g (amKN + 2))]) (n := 5) (Nat.le_of_ble_eq_true rfl)
  rw [lg_entry_eq]
  generalize (lg_sl ([.ref (g 0), .int a1, .int a2, .ref (g (amKN + 2))]) ++ List.replicate (5 - (lg_sl ([.ref (g 0), .int a1, .int a2, .ref (g (amKN + 2))])).length) Slot.unset).toArray = ls at hl ⊢
  have hl : lv_has ls 5 [(0, .ref (g 0)), (1, .int a1), (2, .int a2), (3, .ref (g (amKN + 2)))] := hl
  refine lv_aload_n hx hb dL_along_0 rfl (lv_at hl 3 rfl) ?_
  refine lv_iconst (v := 0) hx hb dL_along_1 (by decide) ?_
  refine lv_aload_n hx hb dL_along_2 rfl (lv_at hl 0 rfl) ?_
  refine lv_iload_n hx hb dL_along_3 rfl (lv_at hl 1 rfl) ?_
  refine lv_iload_n hx hb dL_along_4 rfl (lv_at hl 2 rfl) ?_
  refine lw_inv F hlt (is := [a1, a2]) (rest := [.int 0, .ref (g (amKN + 2))]) (A0 := fun q : Nat => b ≤ q) hE ra_123.1 ra_123.2.1 (by rw [ra_123.2.2.1]; exact Nat.le_of_ble_eq_true rfl) (by decide) (by rw [ra_123.2.2.2.1]; decide) lw_w_lk_123 (by rw [ra_123.2.2.2.2.1, ra_123.2.2.2.2.2.1, ra_123.2.2.2.2.2.2]; exact ⟨Nat.le_refl _, Nat.le_refl _⟩) dL_along_5 hP (lw_hb hg hP hO) va_S.rf (fun _ _ _ => rfl) (fun q h => h.1) hl.1 (Nat.le_of_ble_eq_true rfl) ?_ ?_ ?_
  · cases A with
    | inl z => exact ⟨Nat.le_of_ble_eq_true rfl, Nat.le_of_ble_eq_true rfl⟩
    | inr n => exact ⟨Nat.le_of_ble_eq_true rfl, Nat.le_of_ble_eq_true rfl⟩
  · intro v9 e9 H1 locs1 hP1 hS1 hz1 hk1
    cases A with
    | inr n =>
      have e9 : (Sum.inr n : AmO) = .inl v9 := e9
      cases e9
    | inl z =>
      have e9 : (Sum.inl (some (Value.int z)) : AmO) = .inl v9 := e9
      cases e9
      have hO1 := lw_ok hO hk1
      refine (show W p l e _ s m _ below meth c H1 locs1 _ _ _ (F0 m 8 ls (.int z :: [.int 0, .ref (g (amKN + 2))])) from ?_)
      refine lv_i2l hx hb dL_along_8 rfl ?_
      refine lw_last hx hb hKL hg hob hP1 hO1 hS1 dL_along_9 (fun f1 H2 locs2 hf1 hP2 hO2 hS2 => ?_)
      refine W.widen (k := 1) (n := 6) (Nat.le_of_ble_eq_true rfl) (Nat.le_of_ble_eq_true rfl) ?_
      refine lv_goto (tgt := 17) hx hb dL_along_10 (by decide) ?_
      refine lv_iconst (v := 0) hx hb dL_along_17 (by decide) ?_
      refine vx_ret ?_
      exact W.iret (v := 0) hx hb hr (fun t ht hW => ⟨0, f1, ⟨rfl, hf1⟩, rfl, by rw [ht]; exact hP2, by rw [ht]; exact hO2, hS2.F ht⟩) hS2.2.2 dL_along_18
  · intro n9 e9 H1 locs1 q9 ce hP1 hS1 hz1 hk1 hc1 hc2 hc3
    cases A with
    | inl z =>
      have e9 : (Sum.inl (some (Value.int z)) : AmO) = .inr n9 := e9
      cases e9
    | inr n =>
      have e9 : (Sum.inr n : AmO) = .inr n9 := e9
      cases e9
      have hO1 := lw_ok hO hk1
      obtain rfl := hA _ rfl
      refine vx_catch (name := "java/util/NoSuchElementException") hown [] ⟨0, 10, 13, 18⟩ [] (by rw [htab]; rfl) (fun z h => nomatch h) (by decide) (by decide) (hts _ lw_w_nse) (va_Nw.use rfl (hX.1 _ lw_ca_0 rfl)) hc1 hc2 hc3 ?_
      refine lv_astore (lv' := [(4, .ref q9), (0, .ref (g 0)), (1, .int a1), (2, .int a2), (3, .ref (g (amKN + 2)))]) hx hb dL_along_13 hl (by decide) rfl (fun ls hl => ?_)
      refine lv_iconst (v := 1) hx hb dL_along_15 (by decide) ?_
      refine W.widen (k := 1) (n := 6) (Nat.le_of_ble_eq_true rfl) (Nat.le_of_ble_eq_true rfl) ?_
      refine vx_ret ?_
      exact W.iret (v := 1) hx hb hr (fun t ht hW => ⟨1, f, by first | rfl | decide, rfl, by rw [ht]; exact hP1, by rw [ht]; exact hO1, hS1.F ht⟩) hS1.2.2 dL_along_16
set_option maxHeartbeats 2000000 in
theorem wr_right {l : Launch} (hlt : l.stackTraces = false) {dC : Nat → ClassId} {dI : Nat → Nat → Nat} {ct : Nat → ClassId} {g : Nat → Nat} {b : Nat} {cL : ClassId} {C C' : AmC} {f : Nat → Int64} {A : Int32 ⊕ Nat} {a1 a2 : Int32} (hg : amHg g b) (hob : b ≤ g (amKN + 2)) (hE : En false 124 0 (lv_args 0 (.ref 0 :: [a1, a2].map Value.int)) [] (mkM C) (ovI A) (mkM C')) (hA : ∀ n, A = .inr n → n = 0) : vx_Met l yL_right (Cond.codeWith yL_right cL_right 5 (some .int) [(0, 10, 13, 18)] :: amTB) { frames := 8, cells := 1, slots := 6, locals := 200 } (lwPre dC dI ct g b cL [.ref (g 0), .int a1, .int a2, .ref (g (amKN + 2))] C f) (lwQ dC dI ct g b cL C' A hx1) (fun _ _ _ => False) 1 6 (fun q : Nat => b ≤ q) := by
  refine vx_ofWH (cc := cL_right) (maxL := 5) (ret := some .int) (hh := [(0, 10, 13, 18)]) (by decide) rfl ?_
  intro p e s m args below meth c s₁ B hml hv
  obtain ⟨rfl, hP, hO, hK, hKL, hX, hNc⟩ := hv
  have hx := B.exec
  have hb := B.bytes
  have hr := B.returns
  have hlocks := B.notSynchronized
  have hts0 := atoms_spec (ws := Cond.codeWith yL_right cL_right 5 (some .int) [(0, 10, 13, 18)] :: amTB) B.pre
  have hts : ∀ w ∈ amTB, w.before ([.ref (g 0), .int a1, .int a2, .ref (g (amKN + 2))] : List Value).toArray s = true := fun w hw => hts0 w (List.mem_cons_of_mem _ hw)
  have hown : s.vm.findClass RL = some m.cls := findClass_of_methodNamed B.named
  have htab : c.exceptionTable.toList = tableOf [(0, 10, 13, 18)] := vx_table (x := yL_right) B (hts0 _ List.mem_cons_self)
  have F : LwF p s m ([.ref (g 0), .int a1, .int a2, .ref (g (amKN + 2))] : List Value).toArray c RL cL_right 5 dC dI ct g b := ⟨hx, hb, hml, hown, hts, hK, hX, hg⟩
  have hl := lv_entry ([.ref (g 0), .int a1, .int a2, .ref (g (amKN + 2))]) (n := 5) (Nat.le_of_ble_eq_true rfl)
  rw [lg_entry_eq]
  generalize (lg_sl ([.ref (g 0), .int a1, .int a2, .ref (g (amKN + 2))]) ++ List.replicate (5 - (lg_sl ([.ref (g 0), .int a1, .int a2, .ref (g (amKN + 2))])).length) Slot.unset).toArray = ls at hl ⊢
  have hl : lv_has ls 5 [(0, .ref (g 0)), (1, .int a1), (2, .int a2), (3, .ref (g (amKN + 2)))] := hl
  refine lv_aload_n hx hb dL_right_0 rfl (lv_at hl 3 rfl) ?_
  refine lv_iconst (v := 0) hx hb dL_right_1 (by decide) ?_
  refine lv_aload_n hx hb dL_right_2 rfl (lv_at hl 0 rfl) ?_
  refine lv_iload_n hx hb dL_right_3 rfl (lv_at hl 1 rfl) ?_
  refine lv_iload_n hx hb dL_right_4 rfl (lv_at hl 2 rfl) ?_
  refine lw_inv F hlt (is := [a1, a2]) (rest := [.int 0, .ref (g (amKN + 2))]) (A0 := fun q : Nat => b ≤ q) hE ra_124.1 ra_124.2.1 (by rw [ra_124.2.2.1]; exact Nat.le_of_ble_eq_true rfl) (by decide) (by rw [ra_124.2.2.2.1]; decide) lw_w_lk_124 (by rw [ra_124.2.2.2.2.1, ra_124.2.2.2.2.2.1, ra_124.2.2.2.2.2.2]; exact ⟨Nat.le_refl _, Nat.le_refl _⟩) dL_right_5 hP (lw_hb hg hP hO) va_S.rf (fun _ _ _ => rfl) (fun q h => h.1) hl.1 (Nat.le_of_ble_eq_true rfl) ?_ ?_ ?_
  · cases A with
    | inl z => exact ⟨Nat.le_of_ble_eq_true rfl, Nat.le_of_ble_eq_true rfl⟩
    | inr n => exact ⟨Nat.le_of_ble_eq_true rfl, Nat.le_of_ble_eq_true rfl⟩
  · intro v9 e9 H1 locs1 hP1 hS1 hz1 hk1
    cases A with
    | inr n =>
      have e9 : (Sum.inr n : AmO) = .inl v9 := e9
      cases e9
    | inl z =>
      have e9 : (Sum.inl (some (Value.int z)) : AmO) = .inl v9 := e9
      cases e9
      have hO1 := lw_ok hO hk1
      refine (show W p l e _ s m _ below meth c H1 locs1 _ _ _ (F0 m 8 ls (.int z :: [.int 0, .ref (g (amKN + 2))])) from ?_)
      refine lv_i2l hx hb dL_right_8 rfl ?_
      refine lw_last hx hb hKL hg hob hP1 hO1 hS1 dL_right_9 (fun f1 H2 locs2 hf1 hP2 hO2 hS2 => ?_)
      refine W.widen (k := 1) (n := 6) (Nat.le_of_ble_eq_true rfl) (Nat.le_of_ble_eq_true rfl) ?_
      refine lv_goto (tgt := 17) hx hb dL_right_10 (by decide) ?_
      refine lv_iconst (v := 0) hx hb dL_right_17 (by decide) ?_
      refine vx_ret ?_
      exact W.iret (v := 0) hx hb hr (fun t ht hW => ⟨0, f1, ⟨rfl, hf1⟩, rfl, by rw [ht]; exact hP2, by rw [ht]; exact hO2, hS2.F ht⟩) hS2.2.2 dL_right_18
  · intro n9 e9 H1 locs1 q9 ce hP1 hS1 hz1 hk1 hc1 hc2 hc3
    cases A with
    | inl z =>
      have e9 : (Sum.inl (some (Value.int z)) : AmO) = .inr n9 := e9
      cases e9
    | inr n =>
      have e9 : (Sum.inr n : AmO) = .inr n9 := e9
      cases e9
      have hO1 := lw_ok hO hk1
      obtain rfl := hA _ rfl
      refine vx_catch (name := "java/util/NoSuchElementException") hown [] ⟨0, 10, 13, 18⟩ [] (by rw [htab]; rfl) (fun z h => nomatch h) (by decide) (by decide) (hts _ lw_w_nse) (va_Nw.use rfl (hX.1 _ lw_ca_0 rfl)) hc1 hc2 hc3 ?_
      refine lv_astore (lv' := [(4, .ref q9), (0, .ref (g 0)), (1, .int a1), (2, .int a2), (3, .ref (g (amKN + 2)))]) hx hb dL_right_13 hl (by decide) rfl (fun ls hl => ?_)
      refine lv_iconst (v := 1) hx hb dL_right_15 (by decide) ?_
      refine W.widen (k := 1) (n := 6) (Nat.le_of_ble_eq_true rfl) (Nat.le_of_ble_eq_true rfl) ?_
      refine vx_ret ?_
      exact W.iret (v := 1) hx hb hr (fun t ht hW => ⟨1, f, by first | rfl | decide, rfl, by rw [ht]; exact hP1, by rw [ht]; exact hO1, hS1.F ht⟩) hS1.2.2 dL_right_16
set_option maxHeartbeats 2000000 in
theorem wr_plan {l : Launch} (hlt : l.stackTraces = false) {dC : Nat → ClassId} {dI : Nat → Nat → Nat} {ct : Nat → ClassId} {g : Nat → Nat} {b : Nat} {cL : ClassId} {C C' : AmC} {f : Nat → Int64} {A : Int32 ⊕ Nat} {a1 a2 a3 : Int32} (hg : amHg g b) (hob : b ≤ g (amKN + 2)) (hE : En false 125 0 (lv_args 0 (.ref 0 :: [a1, a2, a3].map Value.int)) [] (mkM C) (ovI A) (mkM C')) (hA : ∀ n, A = .inr n → n = 0) : vx_Met l yL_plan (Cond.codeWith yL_plan cL_plan 6 (some .int) [(0, 12, 15, 18)] :: amTB) { frames := 8, cells := 1, slots := 6, locals := 157 } (lwPre dC dI ct g b cL [.ref (g 0), .int a1, .int a2, .int a3, .ref (g (amKN + 2))] C f) (lwQ dC dI ct g b cL C' A hx1) (fun _ _ _ => False) 1 6 (fun q : Nat => b ≤ q) := by
  refine vx_ofWH (cc := cL_plan) (maxL := 6) (ret := some .int) (hh := [(0, 12, 15, 18)]) (by decide) rfl ?_
  intro p e s m args below meth c s₁ B hml hv
  obtain ⟨rfl, hP, hO, hK, hKL, hX, hNc⟩ := hv
  have hx := B.exec
  have hb := B.bytes
  have hr := B.returns
  have hlocks := B.notSynchronized
  have hts0 := atoms_spec (ws := Cond.codeWith yL_plan cL_plan 6 (some .int) [(0, 12, 15, 18)] :: amTB) B.pre
  have hts : ∀ w ∈ amTB, w.before ([.ref (g 0), .int a1, .int a2, .int a3, .ref (g (amKN + 2))] : List Value).toArray s = true := fun w hw => hts0 w (List.mem_cons_of_mem _ hw)
  have hown : s.vm.findClass RL = some m.cls := findClass_of_methodNamed B.named
  have htab : c.exceptionTable.toList = tableOf [(0, 12, 15, 18)] := vx_table (x := yL_plan) B (hts0 _ List.mem_cons_self)
  have F : LwF p s m ([.ref (g 0), .int a1, .int a2, .int a3, .ref (g (amKN + 2))] : List Value).toArray c RL cL_plan 6 dC dI ct g b := ⟨hx, hb, hml, hown, hts, hK, hX, hg⟩
  have hl := lv_entry ([.ref (g 0), .int a1, .int a2, .int a3, .ref (g (amKN + 2))]) (n := 6) (Nat.le_of_ble_eq_true rfl)
  rw [lg_entry_eq]
  generalize (lg_sl ([.ref (g 0), .int a1, .int a2, .int a3, .ref (g (amKN + 2))]) ++ List.replicate (6 - (lg_sl ([.ref (g 0), .int a1, .int a2, .int a3, .ref (g (amKN + 2))])).length) Slot.unset).toArray = ls at hl ⊢
  have hl : lv_has ls 6 [(0, .ref (g 0)), (1, .int a1), (2, .int a2), (3, .int a3), (4, .ref (g (amKN + 2)))] := hl
  refine lv_aload hx hb dL_plan_0 (lv_at hl 4 rfl) ?_
  refine lv_iconst (v := 0) hx hb dL_plan_2 (by decide) ?_
  refine lv_aload_n hx hb dL_plan_3 rfl (lv_at hl 0 rfl) ?_
  refine lv_iload_n hx hb dL_plan_4 rfl (lv_at hl 1 rfl) ?_
  refine lv_iload_n hx hb dL_plan_5 rfl (lv_at hl 2 rfl) ?_
  refine lv_iload_n hx hb dL_plan_6 rfl (lv_at hl 3 rfl) ?_
  refine lw_inv F hlt (is := [a1, a2, a3]) (rest := [.int 0, .ref (g (amKN + 2))]) (A0 := fun q : Nat => b ≤ q) hE ra_125.1 ra_125.2.1 (by rw [ra_125.2.2.1]; exact Nat.le_of_ble_eq_true rfl) (by decide) (by rw [ra_125.2.2.2.1]; decide) lw_w_lk_125 (by rw [ra_125.2.2.2.2.1, ra_125.2.2.2.2.2.1, ra_125.2.2.2.2.2.2]; exact ⟨Nat.le_refl _, Nat.le_refl _⟩) dL_plan_7 hP (lw_hb hg hP hO) va_S.rf (fun _ _ _ => rfl) (fun q h => h.1) hl.1 (Nat.le_of_ble_eq_true rfl) ?_ ?_ ?_
  · cases A with
    | inl z => exact ⟨Nat.le_of_ble_eq_true rfl, Nat.le_of_ble_eq_true rfl⟩
    | inr n => exact ⟨Nat.le_of_ble_eq_true rfl, Nat.le_of_ble_eq_true rfl⟩
  · intro v9 e9 H1 locs1 hP1 hS1 hz1 hk1
    cases A with
    | inr n =>
      have e9 : (Sum.inr n : AmO) = .inl v9 := e9
      cases e9
    | inl z =>
      have e9 : (Sum.inl (some (Value.int z)) : AmO) = .inl v9 := e9
      cases e9
      have hO1 := lw_ok hO hk1
      refine (show W p l e _ s m _ below meth c H1 locs1 _ _ _ (F0 m 10 ls (.int z :: [.int 0, .ref (g (amKN + 2))])) from ?_)
      refine lv_i2l hx hb dL_plan_10 rfl ?_
      refine lw_last hx hb hKL hg hob hP1 hO1 hS1 dL_plan_11 (fun f1 H2 locs2 hf1 hP2 hO2 hS2 => ?_)
      refine W.widen (k := 1) (n := 6) (Nat.le_of_ble_eq_true rfl) (Nat.le_of_ble_eq_true rfl) ?_
      refine lv_goto (tgt := 19) hx hb dL_plan_12 (by decide) ?_
      refine lv_iconst (v := 0) hx hb dL_plan_19 (by decide) ?_
      refine vx_ret ?_
      exact W.iret (v := 0) hx hb hr (fun t ht hW => ⟨0, f1, ⟨rfl, hf1⟩, rfl, by rw [ht]; exact hP2, by rw [ht]; exact hO2, hS2.F ht⟩) hS2.2.2 dL_plan_20
  · intro n9 e9 H1 locs1 q9 ce hP1 hS1 hz1 hk1 hc1 hc2 hc3
    cases A with
    | inl z =>
      have e9 : (Sum.inl (some (Value.int z)) : AmO) = .inr n9 := e9
      cases e9
    | inr n =>
      have e9 : (Sum.inr n : AmO) = .inr n9 := e9
      cases e9
      have hO1 := lw_ok hO hk1
      obtain rfl := hA _ rfl
      refine vx_catch (name := "java/util/NoSuchElementException") hown [] ⟨0, 12, 15, 18⟩ [] (by rw [htab]; rfl) (fun z h => nomatch h) (by decide) (by decide) (hts _ lw_w_nse) (va_Nw.use rfl (hX.1 _ lw_ca_0 rfl)) hc1 hc2 hc3 ?_
      refine lv_astore (lv' := [(5, .ref q9), (0, .ref (g 0)), (1, .int a1), (2, .int a2), (3, .int a3), (4, .ref (g (amKN + 2)))]) hx hb dL_plan_15 hl (by decide) rfl (fun ls hl => ?_)
      refine lv_iconst (v := 1) hx hb dL_plan_17 (by decide) ?_
      refine W.widen (k := 1) (n := 6) (Nat.le_of_ble_eq_true rfl) (Nat.le_of_ble_eq_true rfl) ?_
      refine vx_ret ?_
      exact W.iret (v := 1) hx hb hr (fun t ht hW => ⟨1, f, by first | rfl | decide, rfl, by rw [ht]; exact hP1, by rw [ht]; exact hO1, hS1.F ht⟩) hS1.2.2 dL_plan_18
set_option maxHeartbeats 2000000 in
theorem wr_goes {l : Launch} (hlt : l.stackTraces = false) {dC : Nat → ClassId} {dI : Nat → Nat → Nat} {ct : Nat → ClassId} {g : Nat → Nat} {b : Nat} {cL : ClassId} {C C' : AmC} {f : Nat → Int64} {A : Int32 ⊕ Nat} {a1 a2 a3 a4 : Int32} (hg : amHg g b) (hob : b ≤ g (amKN + 2)) (hE : En false 126 0 (lv_args 0 (.ref 0 :: [a1, a2, a3, a4].map Value.int)) [] (mkM C) (ovI A) (mkM C')) (hA : ∀ n, A = .inr n → n = 0) : vx_Met l yL_goes (Cond.codeWith yL_goes cL_goes 7 (some .int) [(0, 14, 17, 18)] :: amTB) { frames := 8, cells := 1, slots := 6, locals := 202 } (lwPre dC dI ct g b cL [.ref (g 0), .int a1, .int a2, .int a3, .int a4, .ref (g (amKN + 2))] C f) (lwQ dC dI ct g b cL C' A hx1) (fun _ _ _ => False) 1 6 (fun q : Nat => b ≤ q) := by
  refine vx_ofWH (cc := cL_goes) (maxL := 7) (ret := some .int) (hh := [(0, 14, 17, 18)]) (by decide) rfl ?_
  intro p e s m args below meth c s₁ B hml hv
  obtain ⟨rfl, hP, hO, hK, hKL, hX, hNc⟩ := hv
  have hx := B.exec
  have hb := B.bytes
  have hr := B.returns
  have hlocks := B.notSynchronized
  have hts0 := atoms_spec (ws := Cond.codeWith yL_goes cL_goes 7 (some .int) [(0, 14, 17, 18)] :: amTB) B.pre
  have hts : ∀ w ∈ amTB, w.before ([.ref (g 0), .int a1, .int a2, .int a3, .int a4, .ref (g (amKN + 2))] : List Value).toArray s = true := fun w hw => hts0 w (List.mem_cons_of_mem _ hw)
  have hown : s.vm.findClass RL = some m.cls := findClass_of_methodNamed B.named
  have htab : c.exceptionTable.toList = tableOf [(0, 14, 17, 18)] := vx_table (x := yL_goes) B (hts0 _ List.mem_cons_self)
  have F : LwF p s m ([.ref (g 0), .int a1, .int a2, .int a3, .int a4, .ref (g (amKN + 2))] : List Value).toArray c RL cL_goes 7 dC dI ct g b := ⟨hx, hb, hml, hown, hts, hK, hX, hg⟩
  have hl := lv_entry ([.ref (g 0), .int a1, .int a2, .int a3, .int a4, .ref (g (amKN + 2))]) (n := 7) (Nat.le_of_ble_eq_true rfl)
  rw [lg_entry_eq]
  generalize (lg_sl ([.ref (g 0), .int a1, .int a2, .int a3, .int a4, .ref (g (amKN + 2))]) ++ List.replicate (7 - (lg_sl ([.ref (g 0), .int a1, .int a2, .int a3, .int a4, .ref (g (amKN + 2))])).length) Slot.unset).toArray = ls at hl ⊢
  have hl : lv_has ls 7 [(0, .ref (g 0)), (1, .int a1), (2, .int a2), (3, .int a3), (4, .int a4), (5, .ref (g (amKN + 2)))] := hl
  refine lv_aload hx hb dL_goes_0 (lv_at hl 5 rfl) ?_
  refine lv_iconst (v := 0) hx hb dL_goes_2 (by decide) ?_
  refine lv_aload_n hx hb dL_goes_3 rfl (lv_at hl 0 rfl) ?_
  refine lv_iload_n hx hb dL_goes_4 rfl (lv_at hl 1 rfl) ?_
  refine lv_iload_n hx hb dL_goes_5 rfl (lv_at hl 2 rfl) ?_
  refine lv_iload_n hx hb dL_goes_6 rfl (lv_at hl 3 rfl) ?_
  refine lv_iload hx hb dL_goes_7 (lv_at hl 4 rfl) ?_
  refine lw_inv F hlt (is := [a1, a2, a3, a4]) (rest := [.int 0, .ref (g (amKN + 2))]) (A0 := fun q : Nat => b ≤ q) hE ra_126.1 ra_126.2.1 (by rw [ra_126.2.2.1]; exact Nat.le_of_ble_eq_true rfl) (by decide) (by rw [ra_126.2.2.2.1]; decide) lw_w_lk_126 (by rw [ra_126.2.2.2.2.1, ra_126.2.2.2.2.2.1, ra_126.2.2.2.2.2.2]; exact ⟨Nat.le_refl _, Nat.le_refl _⟩) dL_goes_9 hP (lw_hb hg hP hO) va_S.rf (fun _ _ _ => rfl) (fun q h => h.1) hl.1 (Nat.le_of_ble_eq_true rfl) ?_ ?_ ?_
  · cases A with
    | inl z => exact ⟨Nat.le_of_ble_eq_true rfl, Nat.le_of_ble_eq_true rfl⟩
    | inr n => exact ⟨Nat.le_of_ble_eq_true rfl, Nat.le_of_ble_eq_true rfl⟩
  · intro v9 e9 H1 locs1 hP1 hS1 hz1 hk1
    cases A with
    | inr n =>
      have e9 : (Sum.inr n : AmO) = .inl v9 := e9
      cases e9
    | inl z =>
      have e9 : (Sum.inl (some (Value.int z)) : AmO) = .inl v9 := e9
      cases e9
      have hO1 := lw_ok hO hk1
      refine (show W p l e _ s m _ below meth c H1 locs1 _ _ _ (F0 m 12 ls (.int z :: [.int 0, .ref (g (amKN + 2))])) from ?_)
      refine lv_i2l hx hb dL_goes_12 rfl ?_
      refine lw_last hx hb hKL hg hob hP1 hO1 hS1 dL_goes_13 (fun f1 H2 locs2 hf1 hP2 hO2 hS2 => ?_)
      refine W.widen (k := 1) (n := 6) (Nat.le_of_ble_eq_true rfl) (Nat.le_of_ble_eq_true rfl) ?_
      refine lv_goto (tgt := 21) hx hb dL_goes_14 (by decide) ?_
      refine lv_iconst (v := 0) hx hb dL_goes_21 (by decide) ?_
      refine vx_ret ?_
      exact W.iret (v := 0) hx hb hr (fun t ht hW => ⟨0, f1, ⟨rfl, hf1⟩, rfl, by rw [ht]; exact hP2, by rw [ht]; exact hO2, hS2.F ht⟩) hS2.2.2 dL_goes_22
  · intro n9 e9 H1 locs1 q9 ce hP1 hS1 hz1 hk1 hc1 hc2 hc3
    cases A with
    | inl z =>
      have e9 : (Sum.inl (some (Value.int z)) : AmO) = .inr n9 := e9
      cases e9
    | inr n =>
      have e9 : (Sum.inr n : AmO) = .inr n9 := e9
      cases e9
      have hO1 := lw_ok hO hk1
      obtain rfl := hA _ rfl
      refine vx_catch (name := "java/util/NoSuchElementException") hown [] ⟨0, 14, 17, 18⟩ [] (by rw [htab]; rfl) (fun z h => nomatch h) (by decide) (by decide) (hts _ lw_w_nse) (va_Nw.use rfl (hX.1 _ lw_ca_0 rfl)) hc1 hc2 hc3 ?_
      refine lv_astore (lv' := [(6, .ref q9), (0, .ref (g 0)), (1, .int a1), (2, .int a2), (3, .int a3), (4, .int a4), (5, .ref (g (amKN + 2)))]) hx hb dL_goes_17 hl (by decide) rfl (fun ls hl => ?_)
      refine lv_iconst (v := 1) hx hb dL_goes_19 (by decide) ?_
      refine W.widen (k := 1) (n := 6) (Nat.le_of_ble_eq_true rfl) (Nat.le_of_ble_eq_true rfl) ?_
      refine vx_ret ?_
      exact W.iret (v := 1) hx hb hr (fun t ht hW => ⟨1, f, by first | rfl | decide, rfl, by rw [ht]; exact hP1, by rw [ht]; exact hO1, hS1.F ht⟩) hS1.2.2 dL_goes_20
set_option maxHeartbeats 2000000 in
theorem wr_wrongPaths {l : Launch} (hlt : l.stackTraces = false) {dC : Nat → ClassId} {dI : Nat → Nat → Nat} {ct : Nat → ClassId} {g : Nat → Nat} {b : Nat} {cL : ClassId} {C C' : AmC} {f : Nat → Int64} {A : Int32 ⊕ Nat} {a1 : Int32} (hg : amHg g b) (hob : b ≤ g (amKN + 2)) (hE : En false 127 0 (lv_args 0 (.ref 0 :: [a1].map Value.int)) [] (mkM C) (ovI A) (mkM C')) (hA : ∀ n, A = .inr n → n = 0) : vx_Met l yL_wrongPaths (Cond.codeWith yL_wrongPaths cL_wrongPaths 4 (some .int) [(0, 9, 12, 18)] :: amTB) { frames := 8, cells := 1, slots := 6, locals := 201 } (lwPre dC dI ct g b cL [.ref (g 0), .int a1, .ref (g (amKN + 2))] C f) (lwQ dC dI ct g b cL C' A hx1) (fun _ _ _ => False) 1 6 (fun q : Nat => b ≤ q) := by
  refine vx_ofWH (cc := cL_wrongPaths) (maxL := 4) (ret := some .int) (hh := [(0, 9, 12, 18)]) (by decide) rfl ?_
  intro p e s m args below meth c s₁ B hml hv
  obtain ⟨rfl, hP, hO, hK, hKL, hX, hNc⟩ := hv
  have hx := B.exec
  have hb := B.bytes
  have hr := B.returns
  have hlocks := B.notSynchronized
  have hts0 := atoms_spec (ws := Cond.codeWith yL_wrongPaths cL_wrongPaths 4 (some .int) [(0, 9, 12, 18)] :: amTB) B.pre
  have hts : ∀ w ∈ amTB, w.before ([.ref (g 0), .int a1, .ref (g (amKN + 2))] : List Value).toArray s = true := fun w hw => hts0 w (List.mem_cons_of_mem _ hw)
  have hown : s.vm.findClass RL = some m.cls := findClass_of_methodNamed B.named
  have htab : c.exceptionTable.toList = tableOf [(0, 9, 12, 18)] := vx_table (x := yL_wrongPaths) B (hts0 _ List.mem_cons_self)
  have F : LwF p s m ([.ref (g 0), .int a1, .ref (g (amKN + 2))] : List Value).toArray c RL cL_wrongPaths 4 dC dI ct g b := ⟨hx, hb, hml, hown, hts, hK, hX, hg⟩
  have hl := lv_entry ([.ref (g 0), .int a1, .ref (g (amKN + 2))]) (n := 4) (Nat.le_of_ble_eq_true rfl)
  rw [lg_entry_eq]
  generalize (lg_sl ([.ref (g 0), .int a1, .ref (g (amKN + 2))]) ++ List.replicate (4 - (lg_sl ([.ref (g 0), .int a1, .ref (g (amKN + 2))])).length) Slot.unset).toArray = ls at hl ⊢
  have hl : lv_has ls 4 [(0, .ref (g 0)), (1, .int a1), (2, .ref (g (amKN + 2)))] := hl
  refine lv_aload_n hx hb dL_wrongPaths_0 rfl (lv_at hl 2 rfl) ?_
  refine lv_iconst (v := 0) hx hb dL_wrongPaths_1 (by decide) ?_
  refine lv_aload_n hx hb dL_wrongPaths_2 rfl (lv_at hl 0 rfl) ?_
  refine lv_iload_n hx hb dL_wrongPaths_3 rfl (lv_at hl 1 rfl) ?_
  refine lw_inv F hlt (is := [a1]) (rest := [.int 0, .ref (g (amKN + 2))]) (A0 := fun q : Nat => b ≤ q) hE ra_127.1 ra_127.2.1 (by rw [ra_127.2.2.1]; exact Nat.le_of_ble_eq_true rfl) (by decide) (by rw [ra_127.2.2.2.1]; decide) lw_w_lk_127 (by rw [ra_127.2.2.2.2.1, ra_127.2.2.2.2.2.1, ra_127.2.2.2.2.2.2]; exact ⟨Nat.le_refl _, Nat.le_refl _⟩) dL_wrongPaths_4 hP (lw_hb hg hP hO) va_S.rf (fun _ _ _ => rfl) (fun q h => h.1) hl.1 (Nat.le_of_ble_eq_true rfl) ?_ ?_ ?_
  · cases A with
    | inl z => exact ⟨Nat.le_of_ble_eq_true rfl, Nat.le_of_ble_eq_true rfl⟩
    | inr n => exact ⟨Nat.le_of_ble_eq_true rfl, Nat.le_of_ble_eq_true rfl⟩
  · intro v9 e9 H1 locs1 hP1 hS1 hz1 hk1
    cases A with
    | inr n =>
      have e9 : (Sum.inr n : AmO) = .inl v9 := e9
      cases e9
    | inl z =>
      have e9 : (Sum.inl (some (Value.int z)) : AmO) = .inl v9 := e9
      cases e9
      have hO1 := lw_ok hO hk1
      refine (show W p l e _ s m _ below meth c H1 locs1 _ _ _ (F0 m 7 ls (.int z :: [.int 0, .ref (g (amKN + 2))])) from ?_)
      refine lv_i2l hx hb dL_wrongPaths_7 rfl ?_
      refine lw_last hx hb hKL hg hob hP1 hO1 hS1 dL_wrongPaths_8 (fun f1 H2 locs2 hf1 hP2 hO2 hS2 => ?_)
      refine W.widen (k := 1) (n := 6) (Nat.le_of_ble_eq_true rfl) (Nat.le_of_ble_eq_true rfl) ?_
      refine lv_goto (tgt := 15) hx hb dL_wrongPaths_9 (by decide) ?_
      refine lv_iconst (v := 0) hx hb dL_wrongPaths_15 (by decide) ?_
      refine vx_ret ?_
      exact W.iret (v := 0) hx hb hr (fun t ht hW => ⟨0, f1, ⟨rfl, hf1⟩, rfl, by rw [ht]; exact hP2, by rw [ht]; exact hO2, hS2.F ht⟩) hS2.2.2 dL_wrongPaths_16
  · intro n9 e9 H1 locs1 q9 ce hP1 hS1 hz1 hk1 hc1 hc2 hc3
    cases A with
    | inl z =>
      have e9 : (Sum.inl (some (Value.int z)) : AmO) = .inr n9 := e9
      cases e9
    | inr n =>
      have e9 : (Sum.inr n : AmO) = .inr n9 := e9
      cases e9
      have hO1 := lw_ok hO hk1
      obtain rfl := hA _ rfl
      refine vx_catch (name := "java/util/NoSuchElementException") hown [] ⟨0, 9, 12, 18⟩ [] (by rw [htab]; rfl) (fun z h => nomatch h) (by decide) (by decide) (hts _ lw_w_nse) (va_Nw.use rfl (hX.1 _ lw_ca_0 rfl)) hc1 hc2 hc3 ?_
      refine lv_astore_n (lv' := [(3, .ref q9), (0, .ref (g 0)), (1, .int a1), (2, .ref (g (amKN + 2)))]) hx hb dL_wrongPaths_12 rfl hl (by decide) rfl (fun ls hl => ?_)
      refine lv_iconst (v := 1) hx hb dL_wrongPaths_13 (by decide) ?_
      refine W.widen (k := 1) (n := 6) (Nat.le_of_ble_eq_true rfl) (Nat.le_of_ble_eq_true rfl) ?_
      refine vx_ret ?_
      exact W.iret (v := 1) hx hb hr (fun t ht hW => ⟨1, f, by first | rfl | decide, rfl, by rw [ht]; exact hP1, by rw [ht]; exact hO1, hS1.F ht⟩) hS1.2.2 dL_wrongPaths_14
set_option maxHeartbeats 2000000 in
theorem wr_cheapest {l : Launch} (hlt : l.stackTraces = false) {dC : Nat → ClassId} {dI : Nat → Nat → Nat} {ct : Nat → ClassId} {g : Nat → Nat} {b : Nat} {cL : ClassId} {C C' : AmC} {f : Nat → Int64} {A : Int32 ⊕ Nat} {a1 a2 : Int32} (hg : amHg g b) (hob : b ≤ g (amKN + 2)) (hE : En false 128 0 (lv_args 0 (.ref 0 :: [a1, a2].map Value.int)) [] (mkM C) (ovI A) (mkM C')) (hA : ∀ n, A = .inr n → n = 0) : vx_Met l yL_cheapest (Cond.codeWith yL_cheapest cL_cheapest 5 (some .int) [(0, 10, 13, 18)] :: amTB) { frames := 8, cells := 1, slots := 6, locals := 160 } (lwPre dC dI ct g b cL [.ref (g 0), .int a1, .int a2, .ref (g (amKN + 2))] C f) (lwQ dC dI ct g b cL C' A hx1) (fun _ _ _ => False) 1 6 (fun q : Nat => b ≤ q) := by
  refine vx_ofWH (cc := cL_cheapest) (maxL := 5) (ret := some .int) (hh := [(0, 10, 13, 18)]) (by decide) rfl ?_
  intro p e s m args below meth c s₁ B hml hv
  obtain ⟨rfl, hP, hO, hK, hKL, hX, hNc⟩ := hv
  have hx := B.exec
  have hb := B.bytes
  have hr := B.returns
  have hlocks := B.notSynchronized
  have hts0 := atoms_spec (ws := Cond.codeWith yL_cheapest cL_cheapest 5 (some .int) [(0, 10, 13, 18)] :: amTB) B.pre
  have hts : ∀ w ∈ amTB, w.before ([.ref (g 0), .int a1, .int a2, .ref (g (amKN + 2))] : List Value).toArray s = true := fun w hw => hts0 w (List.mem_cons_of_mem _ hw)
  have hown : s.vm.findClass RL = some m.cls := findClass_of_methodNamed B.named
  have htab : c.exceptionTable.toList = tableOf [(0, 10, 13, 18)] := vx_table (x := yL_cheapest) B (hts0 _ List.mem_cons_self)
  have F : LwF p s m ([.ref (g 0), .int a1, .int a2, .ref (g (amKN + 2))] : List Value).toArray c RL cL_cheapest 5 dC dI ct g b := ⟨hx, hb, hml, hown, hts, hK, hX, hg⟩
  have hl := lv_entry ([.ref (g 0), .int a1, .int a2, .ref (g (amKN + 2))]) (n := 5) (Nat.le_of_ble_eq_true rfl)
  rw [lg_entry_eq]
  generalize (lg_sl ([.ref (g 0), .int a1, .int a2, .ref (g (amKN + 2))]) ++ List.replicate (5 - (lg_sl ([.ref (g 0), .int a1, .int a2, .ref (g (amKN + 2))])).length) Slot.unset).toArray = ls at hl ⊢
  have hl : lv_has ls 5 [(0, .ref (g 0)), (1, .int a1), (2, .int a2), (3, .ref (g (amKN + 2)))] := hl
  refine lv_aload_n hx hb dL_cheapest_0 rfl (lv_at hl 3 rfl) ?_
  refine lv_iconst (v := 0) hx hb dL_cheapest_1 (by decide) ?_
  refine lv_aload_n hx hb dL_cheapest_2 rfl (lv_at hl 0 rfl) ?_
  refine lv_iload_n hx hb dL_cheapest_3 rfl (lv_at hl 1 rfl) ?_
  refine lv_iload_n hx hb dL_cheapest_4 rfl (lv_at hl 2 rfl) ?_
  refine lw_inv F hlt (is := [a1, a2]) (rest := [.int 0, .ref (g (amKN + 2))]) (A0 := fun q : Nat => b ≤ q) hE ra_128.1 ra_128.2.1 (by rw [ra_128.2.2.1]; exact Nat.le_of_ble_eq_true rfl) (by decide) (by rw [ra_128.2.2.2.1]; decide) lw_w_lk_128 (by rw [ra_128.2.2.2.2.1, ra_128.2.2.2.2.2.1, ra_128.2.2.2.2.2.2]; exact ⟨Nat.le_refl _, Nat.le_refl _⟩) dL_cheapest_5 hP (lw_hb hg hP hO) va_S.rf (fun _ _ _ => rfl) (fun q h => h.1) hl.1 (Nat.le_of_ble_eq_true rfl) ?_ ?_ ?_
  · cases A with
    | inl z => exact ⟨Nat.le_of_ble_eq_true rfl, Nat.le_of_ble_eq_true rfl⟩
    | inr n => exact ⟨Nat.le_of_ble_eq_true rfl, Nat.le_of_ble_eq_true rfl⟩
  · intro v9 e9 H1 locs1 hP1 hS1 hz1 hk1
    cases A with
    | inr n =>
      have e9 : (Sum.inr n : AmO) = .inl v9 := e9
      cases e9
    | inl z =>
      have e9 : (Sum.inl (some (Value.int z)) : AmO) = .inl v9 := e9
      cases e9
      have hO1 := lw_ok hO hk1
      refine (show W p l e _ s m _ below meth c H1 locs1 _ _ _ (F0 m 8 ls (.int z :: [.int 0, .ref (g (amKN + 2))])) from ?_)
      refine lv_i2l hx hb dL_cheapest_8 rfl ?_
      refine lw_last hx hb hKL hg hob hP1 hO1 hS1 dL_cheapest_9 (fun f1 H2 locs2 hf1 hP2 hO2 hS2 => ?_)
      refine W.widen (k := 1) (n := 6) (Nat.le_of_ble_eq_true rfl) (Nat.le_of_ble_eq_true rfl) ?_
      refine lv_goto (tgt := 17) hx hb dL_cheapest_10 (by decide) ?_
      refine lv_iconst (v := 0) hx hb dL_cheapest_17 (by decide) ?_
      refine vx_ret ?_
      exact W.iret (v := 0) hx hb hr (fun t ht hW => ⟨0, f1, ⟨rfl, hf1⟩, rfl, by rw [ht]; exact hP2, by rw [ht]; exact hO2, hS2.F ht⟩) hS2.2.2 dL_cheapest_18
  · intro n9 e9 H1 locs1 q9 ce hP1 hS1 hz1 hk1 hc1 hc2 hc3
    cases A with
    | inl z =>
      have e9 : (Sum.inl (some (Value.int z)) : AmO) = .inr n9 := e9
      cases e9
    | inr n =>
      have e9 : (Sum.inr n : AmO) = .inr n9 := e9
      cases e9
      have hO1 := lw_ok hO hk1
      obtain rfl := hA _ rfl
      refine vx_catch (name := "java/util/NoSuchElementException") hown [] ⟨0, 10, 13, 18⟩ [] (by rw [htab]; rfl) (fun z h => nomatch h) (by decide) (by decide) (hts _ lw_w_nse) (va_Nw.use rfl (hX.1 _ lw_ca_0 rfl)) hc1 hc2 hc3 ?_
      refine lv_astore (lv' := [(4, .ref q9), (0, .ref (g 0)), (1, .int a1), (2, .int a2), (3, .ref (g (amKN + 2)))]) hx hb dL_cheapest_13 hl (by decide) rfl (fun ls hl => ?_)
      refine lv_iconst (v := 1) hx hb dL_cheapest_15 (by decide) ?_
      refine W.widen (k := 1) (n := 6) (Nat.le_of_ble_eq_true rfl) (Nat.le_of_ble_eq_true rfl) ?_
      refine vx_ret ?_
      exact W.iret (v := 1) hx hb hr (fun t ht hW => ⟨1, f, by first | rfl | decide, rfl, by rw [ht]; exact hP1, by rw [ht]; exact hO1, hS1.F ht⟩) hS1.2.2 dL_cheapest_16
set_option maxHeartbeats 2000000 in
theorem wr_clashes {l : Launch} (hlt : l.stackTraces = false) {dC : Nat → ClassId} {dI : Nat → Nat → Nat} {ct : Nat → ClassId} {g : Nat → Nat} {b : Nat} {cL : ClassId} {C C' : AmC} {f : Nat → Int64} {A : Int32 ⊕ Nat} {a1 : Int32} (hg : amHg g b) (hob : b ≤ g (amKN + 2)) (hE : En false 129 0 (lv_args 0 (.ref 0 :: [a1].map Value.int)) [] (mkM C) (ovI A) (mkM C')) (hA : ∀ n, A = .inr n → n = 0) : vx_Met l yL_clashes (Cond.codeWith yL_clashes cL_clashes 4 (some .int) [(0, 9, 12, 18)] :: amTB) { frames := 8, cells := 1, slots := 6, locals := 201 } (lwPre dC dI ct g b cL [.ref (g 0), .int a1, .ref (g (amKN + 2))] C f) (lwQ dC dI ct g b cL C' A hx1) (fun _ _ _ => False) 1 6 (fun q : Nat => b ≤ q) := by
  refine vx_ofWH (cc := cL_clashes) (maxL := 4) (ret := some .int) (hh := [(0, 9, 12, 18)]) (by decide) rfl ?_
  intro p e s m args below meth c s₁ B hml hv
  obtain ⟨rfl, hP, hO, hK, hKL, hX, hNc⟩ := hv
  have hx := B.exec
  have hb := B.bytes
  have hr := B.returns
  have hlocks := B.notSynchronized
  have hts0 := atoms_spec (ws := Cond.codeWith yL_clashes cL_clashes 4 (some .int) [(0, 9, 12, 18)] :: amTB) B.pre
  have hts : ∀ w ∈ amTB, w.before ([.ref (g 0), .int a1, .ref (g (amKN + 2))] : List Value).toArray s = true := fun w hw => hts0 w (List.mem_cons_of_mem _ hw)
  have hown : s.vm.findClass RL = some m.cls := findClass_of_methodNamed B.named
  have htab : c.exceptionTable.toList = tableOf [(0, 9, 12, 18)] := vx_table (x := yL_clashes) B (hts0 _ List.mem_cons_self)
  have F : LwF p s m ([.ref (g 0), .int a1, .ref (g (amKN + 2))] : List Value).toArray c RL cL_clashes 4 dC dI ct g b := ⟨hx, hb, hml, hown, hts, hK, hX, hg⟩
  have hl := lv_entry ([.ref (g 0), .int a1, .ref (g (amKN + 2))]) (n := 4) (Nat.le_of_ble_eq_true rfl)
  rw [lg_entry_eq]
  generalize (lg_sl ([.ref (g 0), .int a1, .ref (g (amKN + 2))]) ++ List.replicate (4 - (lg_sl ([.ref (g 0), .int a1, .ref (g (amKN + 2))])).length) Slot.unset).toArray = ls at hl ⊢
  have hl : lv_has ls 4 [(0, .ref (g 0)), (1, .int a1), (2, .ref (g (amKN + 2)))] := hl
  refine lv_aload_n hx hb dL_clashes_0 rfl (lv_at hl 2 rfl) ?_
  refine lv_iconst (v := 0) hx hb dL_clashes_1 (by decide) ?_
  refine lv_aload_n hx hb dL_clashes_2 rfl (lv_at hl 0 rfl) ?_
  refine lv_iload_n hx hb dL_clashes_3 rfl (lv_at hl 1 rfl) ?_
  refine lw_inv F hlt (is := [a1]) (rest := [.int 0, .ref (g (amKN + 2))]) (A0 := fun q : Nat => b ≤ q) hE ra_129.1 ra_129.2.1 (by rw [ra_129.2.2.1]; exact Nat.le_of_ble_eq_true rfl) (by decide) (by rw [ra_129.2.2.2.1]; decide) lw_w_lk_129 (by rw [ra_129.2.2.2.2.1, ra_129.2.2.2.2.2.1, ra_129.2.2.2.2.2.2]; exact ⟨Nat.le_refl _, Nat.le_refl _⟩) dL_clashes_4 hP (lw_hb hg hP hO) va_S.rf (fun _ _ _ => rfl) (fun q h => h.1) hl.1 (Nat.le_of_ble_eq_true rfl) ?_ ?_ ?_
  · cases A with
    | inl z => exact ⟨Nat.le_of_ble_eq_true rfl, Nat.le_of_ble_eq_true rfl⟩
    | inr n => exact ⟨Nat.le_of_ble_eq_true rfl, Nat.le_of_ble_eq_true rfl⟩
  · intro v9 e9 H1 locs1 hP1 hS1 hz1 hk1
    cases A with
    | inr n =>
      have e9 : (Sum.inr n : AmO) = .inl v9 := e9
      cases e9
    | inl z =>
      have e9 : (Sum.inl (some (Value.int z)) : AmO) = .inl v9 := e9
      cases e9
      have hO1 := lw_ok hO hk1
      refine (show W p l e _ s m _ below meth c H1 locs1 _ _ _ (F0 m 7 ls (.int z :: [.int 0, .ref (g (amKN + 2))])) from ?_)
      refine lv_i2l hx hb dL_clashes_7 rfl ?_
      refine lw_last hx hb hKL hg hob hP1 hO1 hS1 dL_clashes_8 (fun f1 H2 locs2 hf1 hP2 hO2 hS2 => ?_)
      refine W.widen (k := 1) (n := 6) (Nat.le_of_ble_eq_true rfl) (Nat.le_of_ble_eq_true rfl) ?_
      refine lv_goto (tgt := 15) hx hb dL_clashes_9 (by decide) ?_
      refine lv_iconst (v := 0) hx hb dL_clashes_15 (by decide) ?_
      refine vx_ret ?_
      exact W.iret (v := 0) hx hb hr (fun t ht hW => ⟨0, f1, ⟨rfl, hf1⟩, rfl, by rw [ht]; exact hP2, by rw [ht]; exact hO2, hS2.F ht⟩) hS2.2.2 dL_clashes_16
  · intro n9 e9 H1 locs1 q9 ce hP1 hS1 hz1 hk1 hc1 hc2 hc3
    cases A with
    | inl z =>
      have e9 : (Sum.inl (some (Value.int z)) : AmO) = .inr n9 := e9
      cases e9
    | inr n =>
      have e9 : (Sum.inr n : AmO) = .inr n9 := e9
      cases e9
      have hO1 := lw_ok hO hk1
      obtain rfl := hA _ rfl
      refine vx_catch (name := "java/util/NoSuchElementException") hown [] ⟨0, 9, 12, 18⟩ [] (by rw [htab]; rfl) (fun z h => nomatch h) (by decide) (by decide) (hts _ lw_w_nse) (va_Nw.use rfl (hX.1 _ lw_ca_0 rfl)) hc1 hc2 hc3 ?_
      refine lv_astore_n (lv' := [(3, .ref q9), (0, .ref (g 0)), (1, .int a1), (2, .ref (g (amKN + 2)))]) hx hb dL_clashes_12 rfl hl (by decide) rfl (fun ls hl => ?_)
      refine lv_iconst (v := 1) hx hb dL_clashes_13 (by decide) ?_
      refine W.widen (k := 1) (n := 6) (Nat.le_of_ble_eq_true rfl) (Nat.le_of_ble_eq_true rfl) ?_
      refine vx_ret ?_
      exact W.iret (v := 1) hx hb hr (fun t ht hW => ⟨1, f, by first | rfl | decide, rfl, by rw [ht]; exact hP1, by rw [ht]; exact hO1, hS1.F ht⟩) hS1.2.2 dL_clashes_14
set_option maxHeartbeats 2000000 in
theorem wr_order {l : Launch} (hlt : l.stackTraces = false) {dC : Nat → ClassId} {dI : Nat → Nat → Nat} {ct : Nat → ClassId} {g : Nat → Nat} {b : Nat} {cL : ClassId} {C C' : AmC} {f : Nat → Int64} {A : Int32 ⊕ Nat} {a1 a2 : Int32} (hg : amHg g b) (hob : b ≤ g (amKN + 2)) (hE : En false 130 0 (lv_args 0 (.ref 0 :: [a1, a2].map Value.int)) [] (mkM C) (ovI A) (mkM C')) (hA : ∀ n, A = .inr n → n = 0) : vx_Met l yL_order (Cond.codeWith yL_order cL_order 5 (some .int) [(0, 10, 13, 18)] :: amTB) { frames := 8, cells := 1, slots := 6, locals := 201 } (lwPre dC dI ct g b cL [.ref (g 0), .int a1, .int a2, .ref (g (amKN + 2))] C f) (lwQ dC dI ct g b cL C' A hx1) (fun _ _ _ => False) 1 6 (fun q : Nat => b ≤ q) := by
  refine vx_ofWH (cc := cL_order) (maxL := 5) (ret := some .int) (hh := [(0, 10, 13, 18)]) (by decide) rfl ?_
  intro p e s m args below meth c s₁ B hml hv
  obtain ⟨rfl, hP, hO, hK, hKL, hX, hNc⟩ := hv
  have hx := B.exec
  have hb := B.bytes
  have hr := B.returns
  have hlocks := B.notSynchronized
  have hts0 := atoms_spec (ws := Cond.codeWith yL_order cL_order 5 (some .int) [(0, 10, 13, 18)] :: amTB) B.pre
  have hts : ∀ w ∈ amTB, w.before ([.ref (g 0), .int a1, .int a2, .ref (g (amKN + 2))] : List Value).toArray s = true := fun w hw => hts0 w (List.mem_cons_of_mem _ hw)
  have hown : s.vm.findClass RL = some m.cls := findClass_of_methodNamed B.named
  have htab : c.exceptionTable.toList = tableOf [(0, 10, 13, 18)] := vx_table (x := yL_order) B (hts0 _ List.mem_cons_self)
  have F : LwF p s m ([.ref (g 0), .int a1, .int a2, .ref (g (amKN + 2))] : List Value).toArray c RL cL_order 5 dC dI ct g b := ⟨hx, hb, hml, hown, hts, hK, hX, hg⟩
  have hl := lv_entry ([.ref (g 0), .int a1, .int a2, .ref (g (amKN + 2))]) (n := 5) (Nat.le_of_ble_eq_true rfl)
  rw [lg_entry_eq]
  generalize (lg_sl ([.ref (g 0), .int a1, .int a2, .ref (g (amKN + 2))]) ++ List.replicate (5 - (lg_sl ([.ref (g 0), .int a1, .int a2, .ref (g (amKN + 2))])).length) Slot.unset).toArray = ls at hl ⊢
  have hl : lv_has ls 5 [(0, .ref (g 0)), (1, .int a1), (2, .int a2), (3, .ref (g (amKN + 2)))] := hl
  refine lv_aload_n hx hb dL_order_0 rfl (lv_at hl 3 rfl) ?_
  refine lv_iconst (v := 0) hx hb dL_order_1 (by decide) ?_
  refine lv_aload_n hx hb dL_order_2 rfl (lv_at hl 0 rfl) ?_
  refine lv_iload_n hx hb dL_order_3 rfl (lv_at hl 1 rfl) ?_
  refine lv_iload_n hx hb dL_order_4 rfl (lv_at hl 2 rfl) ?_
  refine lw_inv F hlt (is := [a1, a2]) (rest := [.int 0, .ref (g (amKN + 2))]) (A0 := fun q : Nat => b ≤ q) hE ra_130.1 ra_130.2.1 (by rw [ra_130.2.2.1]; exact Nat.le_of_ble_eq_true rfl) (by decide) (by rw [ra_130.2.2.2.1]; decide) lw_w_lk_130 (by rw [ra_130.2.2.2.2.1, ra_130.2.2.2.2.2.1, ra_130.2.2.2.2.2.2]; exact ⟨Nat.le_refl _, Nat.le_refl _⟩) dL_order_5 hP (lw_hb hg hP hO) va_S.rf (fun _ _ _ => rfl) (fun q h => h.1) hl.1 (Nat.le_of_ble_eq_true rfl) ?_ ?_ ?_
  · cases A with
    | inl z => exact ⟨Nat.le_of_ble_eq_true rfl, Nat.le_of_ble_eq_true rfl⟩
    | inr n => exact ⟨Nat.le_of_ble_eq_true rfl, Nat.le_of_ble_eq_true rfl⟩
  · intro v9 e9 H1 locs1 hP1 hS1 hz1 hk1
    cases A with
    | inr n =>
      have e9 : (Sum.inr n : AmO) = .inl v9 := e9
      cases e9
    | inl z =>
      have e9 : (Sum.inl (some (Value.int z)) : AmO) = .inl v9 := e9
      cases e9
      have hO1 := lw_ok hO hk1
      refine (show W p l e _ s m _ below meth c H1 locs1 _ _ _ (F0 m 8 ls (.int z :: [.int 0, .ref (g (amKN + 2))])) from ?_)
      refine lv_i2l hx hb dL_order_8 rfl ?_
      refine lw_last hx hb hKL hg hob hP1 hO1 hS1 dL_order_9 (fun f1 H2 locs2 hf1 hP2 hO2 hS2 => ?_)
      refine W.widen (k := 1) (n := 6) (Nat.le_of_ble_eq_true rfl) (Nat.le_of_ble_eq_true rfl) ?_
      refine lv_goto (tgt := 17) hx hb dL_order_10 (by decide) ?_
      refine lv_iconst (v := 0) hx hb dL_order_17 (by decide) ?_
      refine vx_ret ?_
      exact W.iret (v := 0) hx hb hr (fun t ht hW => ⟨0, f1, ⟨rfl, hf1⟩, rfl, by rw [ht]; exact hP2, by rw [ht]; exact hO2, hS2.F ht⟩) hS2.2.2 dL_order_18
  · intro n9 e9 H1 locs1 q9 ce hP1 hS1 hz1 hk1 hc1 hc2 hc3
    cases A with
    | inl z =>
      have e9 : (Sum.inl (some (Value.int z)) : AmO) = .inr n9 := e9
      cases e9
    | inr n =>
      have e9 : (Sum.inr n : AmO) = .inr n9 := e9
      cases e9
      have hO1 := lw_ok hO hk1
      obtain rfl := hA _ rfl
      refine vx_catch (name := "java/util/NoSuchElementException") hown [] ⟨0, 10, 13, 18⟩ [] (by rw [htab]; rfl) (fun z h => nomatch h) (by decide) (by decide) (hts _ lw_w_nse) (va_Nw.use rfl (hX.1 _ lw_ca_0 rfl)) hc1 hc2 hc3 ?_
      refine lv_astore (lv' := [(4, .ref q9), (0, .ref (g 0)), (1, .int a1), (2, .int a2), (3, .ref (g (amKN + 2)))]) hx hb dL_order_13 hl (by decide) rfl (fun ls hl => ?_)
      refine lv_iconst (v := 1) hx hb dL_order_15 (by decide) ?_
      refine W.widen (k := 1) (n := 6) (Nat.le_of_ble_eq_true rfl) (Nat.le_of_ble_eq_true rfl) ?_
      refine vx_ret ?_
      exact W.iret (v := 1) hx hb hr (fun t ht hW => ⟨1, f, by first | rfl | decide, rfl, by rw [ht]; exact hP1, by rw [ht]; exact hO1, hS1.F ht⟩) hS1.2.2 dL_order_16
set_option maxHeartbeats 2000000 in
theorem wr_run {l : Launch} (hlt : l.stackTraces = false) {dC : Nat → ClassId} {dI : Nat → Nat → Nat} {ct : Nat → ClassId} {g : Nat → Nat} {b : Nat} {cL : ClassId} {C C' : AmC} {f : Nat → Int64} {A : Int32 ⊕ Nat} {a1 : Int32} (hg : amHg g b) (hob : b ≤ g (amKN + 2)) (hE : En false 131 0 (lv_args 0 (.ref 0 :: [a1].map Value.int)) [] (mkM C) (ovI A) (mkM C')) (hA : ∀ n, A = .inr n → n = 0) : vx_Met l yL_run (Cond.codeWith yL_run cL_run 4 (some .int) [(0, 9, 12, 18)] :: amTB) { frames := 8, cells := 1, slots := 6, locals := 199 } (lwPre dC dI ct g b cL [.ref (g 0), .int a1, .ref (g (amKN + 2))] C f) (lwQ dC dI ct g b cL C' A hx1) (fun _ _ _ => False) 1 6 (fun q : Nat => b ≤ q) := by
  refine vx_ofWH (cc := cL_run) (maxL := 4) (ret := some .int) (hh := [(0, 9, 12, 18)]) (by decide) rfl ?_
  intro p e s m args below meth c s₁ B hml hv
  obtain ⟨rfl, hP, hO, hK, hKL, hX, hNc⟩ := hv
  have hx := B.exec
  have hb := B.bytes
  have hr := B.returns
  have hlocks := B.notSynchronized
  have hts0 := atoms_spec (ws := Cond.codeWith yL_run cL_run 4 (some .int) [(0, 9, 12, 18)] :: amTB) B.pre
  have hts : ∀ w ∈ amTB, w.before ([.ref (g 0), .int a1, .ref (g (amKN + 2))] : List Value).toArray s = true := fun w hw => hts0 w (List.mem_cons_of_mem _ hw)
  have hown : s.vm.findClass RL = some m.cls := findClass_of_methodNamed B.named
  have htab : c.exceptionTable.toList = tableOf [(0, 9, 12, 18)] := vx_table (x := yL_run) B (hts0 _ List.mem_cons_self)
  have F : LwF p s m ([.ref (g 0), .int a1, .ref (g (amKN + 2))] : List Value).toArray c RL cL_run 4 dC dI ct g b := ⟨hx, hb, hml, hown, hts, hK, hX, hg⟩
  have hl := lv_entry ([.ref (g 0), .int a1, .ref (g (amKN + 2))]) (n := 4) (Nat.le_of_ble_eq_true rfl)
  rw [lg_entry_eq]
  generalize (lg_sl ([.ref (g 0), .int a1, .ref (g (amKN + 2))]) ++ List.replicate (4 - (lg_sl ([.ref (g 0), .int a1, .ref (g (amKN + 2))])).length) Slot.unset).toArray = ls at hl ⊢
  have hl : lv_has ls 4 [(0, .ref (g 0)), (1, .int a1), (2, .ref (g (amKN + 2)))] := hl
  refine lv_aload_n hx hb dL_run_0 rfl (lv_at hl 2 rfl) ?_
  refine lv_iconst (v := 0) hx hb dL_run_1 (by decide) ?_
  refine lv_aload_n hx hb dL_run_2 rfl (lv_at hl 0 rfl) ?_
  refine lv_iload_n hx hb dL_run_3 rfl (lv_at hl 1 rfl) ?_
  refine lw_inv F hlt (is := [a1]) (rest := [.int 0, .ref (g (amKN + 2))]) (A0 := fun q : Nat => b ≤ q) hE ra_131.1 ra_131.2.1 (by rw [ra_131.2.2.1]; exact Nat.le_of_ble_eq_true rfl) (by decide) (by rw [ra_131.2.2.2.1]; decide) lw_w_lk_131 (by rw [ra_131.2.2.2.2.1, ra_131.2.2.2.2.2.1, ra_131.2.2.2.2.2.2]; exact ⟨Nat.le_refl _, Nat.le_refl _⟩) dL_run_4 hP (lw_hb hg hP hO) va_S.rf (fun _ _ _ => rfl) (fun q h => h.1) hl.1 (Nat.le_of_ble_eq_true rfl) ?_ ?_ ?_
  · cases A with
    | inl z => exact ⟨Nat.le_of_ble_eq_true rfl, Nat.le_of_ble_eq_true rfl⟩
    | inr n => exact ⟨Nat.le_of_ble_eq_true rfl, Nat.le_of_ble_eq_true rfl⟩
  · intro v9 e9 H1 locs1 hP1 hS1 hz1 hk1
    cases A with
    | inr n =>
      have e9 : (Sum.inr n : AmO) = .inl v9 := e9
      cases e9
    | inl z =>
      have e9 : (Sum.inl (some (Value.int z)) : AmO) = .inl v9 := e9
      cases e9
      have hO1 := lw_ok hO hk1
      refine (show W p l e _ s m _ below meth c H1 locs1 _ _ _ (F0 m 7 ls (.int z :: [.int 0, .ref (g (amKN + 2))])) from ?_)
      refine lv_i2l hx hb dL_run_7 rfl ?_
      refine lw_last hx hb hKL hg hob hP1 hO1 hS1 dL_run_8 (fun f1 H2 locs2 hf1 hP2 hO2 hS2 => ?_)
      refine W.widen (k := 1) (n := 6) (Nat.le_of_ble_eq_true rfl) (Nat.le_of_ble_eq_true rfl) ?_
      refine lv_goto (tgt := 15) hx hb dL_run_9 (by decide) ?_
      refine lv_iconst (v := 0) hx hb dL_run_15 (by decide) ?_
      refine vx_ret ?_
      exact W.iret (v := 0) hx hb hr (fun t ht hW => ⟨0, f1, ⟨rfl, hf1⟩, rfl, by rw [ht]; exact hP2, by rw [ht]; exact hO2, hS2.F ht⟩) hS2.2.2 dL_run_16
  · intro n9 e9 H1 locs1 q9 ce hP1 hS1 hz1 hk1 hc1 hc2 hc3
    cases A with
    | inl z =>
      have e9 : (Sum.inl (some (Value.int z)) : AmO) = .inr n9 := e9
      cases e9
    | inr n =>
      have e9 : (Sum.inr n : AmO) = .inr n9 := e9
      cases e9
      have hO1 := lw_ok hO hk1
      obtain rfl := hA _ rfl
      refine vx_catch (name := "java/util/NoSuchElementException") hown [] ⟨0, 9, 12, 18⟩ [] (by rw [htab]; rfl) (fun z h => nomatch h) (by decide) (by decide) (hts _ lw_w_nse) (va_Nw.use rfl (hX.1 _ lw_ca_0 rfl)) hc1 hc2 hc3 ?_
      refine lv_astore_n (lv' := [(3, .ref q9), (0, .ref (g 0)), (1, .int a1), (2, .ref (g (amKN + 2)))]) hx hb dL_run_12 rfl hl (by decide) rfl (fun ls hl => ?_)
      refine lv_iconst (v := 1) hx hb dL_run_13 (by decide) ?_
      refine W.widen (k := 1) (n := 6) (Nat.le_of_ble_eq_true rfl) (Nat.le_of_ble_eq_true rfl) ?_
      refine vx_ret ?_
      exact W.iret (v := 1) hx hb hr (fun t ht hW => ⟨1, f, by first | rfl | decide, rfl, by rw [ht]; exact hP1, by rw [ht]; exact hO1, hS1.F ht⟩) hS1.2.2 dL_run_14
set_option maxHeartbeats 2000000 in
theorem wr_lay {l : Launch} (hlt : l.stackTraces = false) {dC : Nat → ClassId} {dI : Nat → Nat → Nat} {ct : Nat → ClassId} {g : Nat → Nat} {b : Nat} {cL : ClassId} {C C' : AmC} {f : Nat → Int64} {A : Int32 ⊕ Nat} {a1 a2 a3 : Int32} (hg : amHg g b) (hob : b ≤ g (amKN + 2)) (hE : En false 132 0 (lv_args 0 (.ref 0 :: [a1, a2, a3].map Value.int)) [] (mkM C) (ovI A) (mkM C')) (hA : ∀ n, A = .inr n → n = 0) : vx_Met l yL_lay (Cond.codeWith yL_lay cL_lay 6 (some .int) [(0, 12, 15, 18)] :: amTB) { frames := 8, cells := 1, slots := 6, locals := 136 } (lwPre dC dI ct g b cL [.ref (g 0), .int a1, .int a2, .int a3, .ref (g (amKN + 2))] C f) (lwQ dC dI ct g b cL C' A hx1) (fun _ _ _ => False) 1 6 (fun q : Nat => b ≤ q) := by
  refine vx_ofWH (cc := cL_lay) (maxL := 6) (ret := some .int) (hh := [(0, 12, 15, 18)]) (by decide) rfl ?_
  intro p e s m args below meth c s₁ B hml hv
  obtain ⟨rfl, hP, hO, hK, hKL, hX, hNc⟩ := hv
  have hx := B.exec
  have hb := B.bytes
  have hr := B.returns
  have hlocks := B.notSynchronized
  have hts0 := atoms_spec (ws := Cond.codeWith yL_lay cL_lay 6 (some .int) [(0, 12, 15, 18)] :: amTB) B.pre
  have hts : ∀ w ∈ amTB, w.before ([.ref (g 0), .int a1, .int a2, .int a3, .ref (g (amKN + 2))] : List Value).toArray s = true := fun w hw => hts0 w (List.mem_cons_of_mem _ hw)
  have hown : s.vm.findClass RL = some m.cls := findClass_of_methodNamed B.named
  have htab : c.exceptionTable.toList = tableOf [(0, 12, 15, 18)] := vx_table (x := yL_lay) B (hts0 _ List.mem_cons_self)
  have F : LwF p s m ([.ref (g 0), .int a1, .int a2, .int a3, .ref (g (amKN + 2))] : List Value).toArray c RL cL_lay 6 dC dI ct g b := ⟨hx, hb, hml, hown, hts, hK, hX, hg⟩
  have hl := lv_entry ([.ref (g 0), .int a1, .int a2, .int a3, .ref (g (amKN + 2))]) (n := 6) (Nat.le_of_ble_eq_true rfl)
  rw [lg_entry_eq]
  generalize (lg_sl ([.ref (g 0), .int a1, .int a2, .int a3, .ref (g (amKN + 2))]) ++ List.replicate (6 - (lg_sl ([.ref (g 0), .int a1, .int a2, .int a3, .ref (g (amKN + 2))])).length) Slot.unset).toArray = ls at hl ⊢
  have hl : lv_has ls 6 [(0, .ref (g 0)), (1, .int a1), (2, .int a2), (3, .int a3), (4, .ref (g (amKN + 2)))] := hl
  refine lv_aload hx hb dL_lay_0 (lv_at hl 4 rfl) ?_
  refine lv_iconst (v := 0) hx hb dL_lay_2 (by decide) ?_
  refine lv_aload_n hx hb dL_lay_3 rfl (lv_at hl 0 rfl) ?_
  refine lv_iload_n hx hb dL_lay_4 rfl (lv_at hl 1 rfl) ?_
  refine lv_iload_n hx hb dL_lay_5 rfl (lv_at hl 2 rfl) ?_
  refine lv_iload_n hx hb dL_lay_6 rfl (lv_at hl 3 rfl) ?_
  refine lw_inv F hlt (is := [a1, a2, a3]) (rest := [.int 0, .ref (g (amKN + 2))]) (A0 := fun q : Nat => b ≤ q) hE ra_132.1 ra_132.2.1 (by rw [ra_132.2.2.1]; exact Nat.le_of_ble_eq_true rfl) (by decide) (by rw [ra_132.2.2.2.1]; decide) lw_w_lk_132 (by rw [ra_132.2.2.2.2.1, ra_132.2.2.2.2.2.1, ra_132.2.2.2.2.2.2]; exact ⟨Nat.le_refl _, Nat.le_refl _⟩) dL_lay_7 hP (lw_hb hg hP hO) va_S.rf (fun _ _ _ => rfl) (fun q h => h.1) hl.1 (Nat.le_of_ble_eq_true rfl) ?_ ?_ ?_
  · cases A with
    | inl z => exact ⟨Nat.le_of_ble_eq_true rfl, Nat.le_of_ble_eq_true rfl⟩
    | inr n => exact ⟨Nat.le_of_ble_eq_true rfl, Nat.le_of_ble_eq_true rfl⟩
  · intro v9 e9 H1 locs1 hP1 hS1 hz1 hk1
    cases A with
    | inr n =>
      have e9 : (Sum.inr n : AmO) = .inl v9 := e9
      cases e9
    | inl z =>
      have e9 : (Sum.inl (some (Value.int z)) : AmO) = .inl v9 := e9
      cases e9
      have hO1 := lw_ok hO hk1
      refine (show W p l e _ s m _ below meth c H1 locs1 _ _ _ (F0 m 10 ls (.int z :: [.int 0, .ref (g (amKN + 2))])) from ?_)
      refine lv_i2l hx hb dL_lay_10 rfl ?_
      refine lw_last hx hb hKL hg hob hP1 hO1 hS1 dL_lay_11 (fun f1 H2 locs2 hf1 hP2 hO2 hS2 => ?_)
      refine W.widen (k := 1) (n := 6) (Nat.le_of_ble_eq_true rfl) (Nat.le_of_ble_eq_true rfl) ?_
      refine lv_goto (tgt := 19) hx hb dL_lay_12 (by decide) ?_
      refine lv_iconst (v := 0) hx hb dL_lay_19 (by decide) ?_
      refine vx_ret ?_
      exact W.iret (v := 0) hx hb hr (fun t ht hW => ⟨0, f1, ⟨rfl, hf1⟩, rfl, by rw [ht]; exact hP2, by rw [ht]; exact hO2, hS2.F ht⟩) hS2.2.2 dL_lay_20
  · intro n9 e9 H1 locs1 q9 ce hP1 hS1 hz1 hk1 hc1 hc2 hc3
    cases A with
    | inl z =>
      have e9 : (Sum.inl (some (Value.int z)) : AmO) = .inr n9 := e9
      cases e9
    | inr n =>
      have e9 : (Sum.inr n : AmO) = .inr n9 := e9
      cases e9
      have hO1 := lw_ok hO hk1
      obtain rfl := hA _ rfl
      refine vx_catch (name := "java/util/NoSuchElementException") hown [] ⟨0, 12, 15, 18⟩ [] (by rw [htab]; rfl) (fun z h => nomatch h) (by decide) (by decide) (hts _ lw_w_nse) (va_Nw.use rfl (hX.1 _ lw_ca_0 rfl)) hc1 hc2 hc3 ?_
      refine lv_astore (lv' := [(5, .ref q9), (0, .ref (g 0)), (1, .int a1), (2, .int a2), (3, .int a3), (4, .ref (g (amKN + 2)))]) hx hb dL_lay_15 hl (by decide) rfl (fun ls hl => ?_)
      refine lv_iconst (v := 1) hx hb dL_lay_17 (by decide) ?_
      refine W.widen (k := 1) (n := 6) (Nat.le_of_ble_eq_true rfl) (Nat.le_of_ble_eq_true rfl) ?_
      refine vx_ret ?_
      exact W.iret (v := 1) hx hb hr (fun t ht hW => ⟨1, f, by first | rfl | decide, rfl, by rw [ht]; exact hP1, by rw [ht]; exact hO1, hS1.F ht⟩) hS1.2.2 dL_lay_18
set_option maxHeartbeats 2000000 in
theorem wr_take {l : Launch} (hlt : l.stackTraces = false) {dC : Nat → ClassId} {dI : Nat → Nat → Nat} {ct : Nat → ClassId} {g : Nat → Nat} {b : Nat} {cL : ClassId} {C C' : AmC} {f : Nat → Int64} {A : Int32 ⊕ Nat} {a1 : Int32} (hg : amHg g b) (hob : b ≤ g (amKN + 2)) (hE : En false 133 0 (lv_args 0 (.ref 0 :: [a1].map Value.int)) [] (mkM C) (ovI A) (mkM C')) (hA : ∀ n, A = .inr n → n = 0) : vx_Met l yL_take (Cond.codeWith yL_take cL_take 4 (some .int) [(0, 9, 12, 18)] :: amTB) { frames := 8, cells := 1, slots := 6, locals := 132 } (lwPre dC dI ct g b cL [.ref (g 0), .int a1, .ref (g (amKN + 2))] C f) (lwQ dC dI ct g b cL C' A hx1) (fun _ _ _ => False) 1 6 (fun q : Nat => b ≤ q) := by
  refine vx_ofWH (cc := cL_take) (maxL := 4) (ret := some .int) (hh := [(0, 9, 12, 18)]) (by decide) rfl ?_
  intro p e s m args below meth c s₁ B hml hv
  obtain ⟨rfl, hP, hO, hK, hKL, hX, hNc⟩ := hv
  have hx := B.exec
  have hb := B.bytes
  have hr := B.returns
  have hlocks := B.notSynchronized
  have hts0 := atoms_spec (ws := Cond.codeWith yL_take cL_take 4 (some .int) [(0, 9, 12, 18)] :: amTB) B.pre
  have hts : ∀ w ∈ amTB, w.before ([.ref (g 0), .int a1, .ref (g (amKN + 2))] : List Value).toArray s = true := fun w hw => hts0 w (List.mem_cons_of_mem _ hw)
  have hown : s.vm.findClass RL = some m.cls := findClass_of_methodNamed B.named
  have htab : c.exceptionTable.toList = tableOf [(0, 9, 12, 18)] := vx_table (x := yL_take) B (hts0 _ List.mem_cons_self)
  have F : LwF p s m ([.ref (g 0), .int a1, .ref (g (amKN + 2))] : List Value).toArray c RL cL_take 4 dC dI ct g b := ⟨hx, hb, hml, hown, hts, hK, hX, hg⟩
  have hl := lv_entry ([.ref (g 0), .int a1, .ref (g (amKN + 2))]) (n := 4) (Nat.le_of_ble_eq_true rfl)
  rw [lg_entry_eq]
  generalize (lg_sl ([.ref (g 0), .int a1, .ref (g (amKN + 2))]) ++ List.replicate (4 - (lg_sl ([.ref (g 0), .int a1, .ref (g (amKN + 2))])).length) Slot.unset).toArray = ls at hl ⊢
  have hl : lv_has ls 4 [(0, .ref (g 0)), (1, .int a1), (2, .ref (g (amKN + 2)))] := hl
  refine lv_aload_n hx hb dL_take_0 rfl (lv_at hl 2 rfl) ?_
  refine lv_iconst (v := 0) hx hb dL_take_1 (by decide) ?_
  refine lv_aload_n hx hb dL_take_2 rfl (lv_at hl 0 rfl) ?_
  refine lv_iload_n hx hb dL_take_3 rfl (lv_at hl 1 rfl) ?_
  refine lw_inv F hlt (is := [a1]) (rest := [.int 0, .ref (g (amKN + 2))]) (A0 := fun q : Nat => b ≤ q) hE ra_133.1 ra_133.2.1 (by rw [ra_133.2.2.1]; exact Nat.le_of_ble_eq_true rfl) (by decide) (by rw [ra_133.2.2.2.1]; decide) lw_w_lk_133 (by rw [ra_133.2.2.2.2.1, ra_133.2.2.2.2.2.1, ra_133.2.2.2.2.2.2]; exact ⟨Nat.le_refl _, Nat.le_refl _⟩) dL_take_4 hP (lw_hb hg hP hO) va_S.rf (fun _ _ _ => rfl) (fun q h => h.1) hl.1 (Nat.le_of_ble_eq_true rfl) ?_ ?_ ?_
  · cases A with
    | inl z => exact ⟨Nat.le_of_ble_eq_true rfl, Nat.le_of_ble_eq_true rfl⟩
    | inr n => exact ⟨Nat.le_of_ble_eq_true rfl, Nat.le_of_ble_eq_true rfl⟩
  · intro v9 e9 H1 locs1 hP1 hS1 hz1 hk1
    cases A with
    | inr n =>
      have e9 : (Sum.inr n : AmO) = .inl v9 := e9
      cases e9
    | inl z =>
      have e9 : (Sum.inl (some (Value.int z)) : AmO) = .inl v9 := e9
      cases e9
      have hO1 := lw_ok hO hk1
      refine (show W p l e _ s m _ below meth c H1 locs1 _ _ _ (F0 m 7 ls (.int z :: [.int 0, .ref (g (amKN + 2))])) from ?_)
      refine lv_i2l hx hb dL_take_7 rfl ?_
      refine lw_last hx hb hKL hg hob hP1 hO1 hS1 dL_take_8 (fun f1 H2 locs2 hf1 hP2 hO2 hS2 => ?_)
      refine W.widen (k := 1) (n := 6) (Nat.le_of_ble_eq_true rfl) (Nat.le_of_ble_eq_true rfl) ?_
      refine lv_goto (tgt := 15) hx hb dL_take_9 (by decide) ?_
      refine lv_iconst (v := 0) hx hb dL_take_15 (by decide) ?_
      refine vx_ret ?_
      exact W.iret (v := 0) hx hb hr (fun t ht hW => ⟨0, f1, ⟨rfl, hf1⟩, rfl, by rw [ht]; exact hP2, by rw [ht]; exact hO2, hS2.F ht⟩) hS2.2.2 dL_take_16
  · intro n9 e9 H1 locs1 q9 ce hP1 hS1 hz1 hk1 hc1 hc2 hc3
    cases A with
    | inl z =>
      have e9 : (Sum.inl (some (Value.int z)) : AmO) = .inr n9 := e9
      cases e9
    | inr n =>
      have e9 : (Sum.inr n : AmO) = .inr n9 := e9
      cases e9
      have hO1 := lw_ok hO hk1
      obtain rfl := hA _ rfl
      refine vx_catch (name := "java/util/NoSuchElementException") hown [] ⟨0, 9, 12, 18⟩ [] (by rw [htab]; rfl) (fun z h => nomatch h) (by decide) (by decide) (hts _ lw_w_nse) (va_Nw.use rfl (hX.1 _ lw_ca_0 rfl)) hc1 hc2 hc3 ?_
      refine lv_astore_n (lv' := [(3, .ref q9), (0, .ref (g 0)), (1, .int a1), (2, .ref (g (amKN + 2)))]) hx hb dL_take_12 rfl hl (by decide) rfl (fun ls hl => ?_)
      refine lv_iconst (v := 1) hx hb dL_take_13 (by decide) ?_
      refine W.widen (k := 1) (n := 6) (Nat.le_of_ble_eq_true rfl) (Nat.le_of_ble_eq_true rfl) ?_
      refine vx_ret ?_
      exact W.iret (v := 1) hx hb hr (fun t ht hW => ⟨1, f, by first | rfl | decide, rfl, by rw [ht]; exact hP1, by rw [ht]; exact hO1, hS1.F ht⟩) hS1.2.2 dL_take_14
set_option maxHeartbeats 2000000 in
theorem wr_look {l : Launch} (hlt : l.stackTraces = false) {dC : Nat → ClassId} {dI : Nat → Nat → Nat} {ct : Nat → ClassId} {g : Nat → Nat} {b : Nat} {cL : ClassId} {C C' : AmC} {f : Nat → Int64} {A : Int32 ⊕ Nat} {a1 : Int32} (hg : amHg g b) (hob : b ≤ g (amKN + 2)) (hE : En false 137 0 (lv_args 0 (.ref 0 :: [a1].map Value.int)) [] (mkM C) (ovI A) (mkM C')) (hA : ∀ n, A = .inr n → n = 0) : vx_Met l yL_look (Cond.codeWith yL_look cL_look 4 (some .int) [(0, 9, 12, 18)] :: amTB) { frames := 8, cells := 1, slots := 6, locals := 204 } (lwPre dC dI ct g b cL [.ref (g 0), .int a1, .ref (g (amKN + 2))] C f) (lwQ dC dI ct g b cL C' A hx1) (fun _ _ _ => False) 1 6 (fun q : Nat => b ≤ q) := by
  refine vx_ofWH (cc := cL_look) (maxL := 4) (ret := some .int) (hh := [(0, 9, 12, 18)]) (by decide) rfl ?_
  intro p e s m args below meth c s₁ B hml hv
  obtain ⟨rfl, hP, hO, hK, hKL, hX, hNc⟩ := hv
  have hx := B.exec
  have hb := B.bytes
  have hr := B.returns
  have hlocks := B.notSynchronized
  have hts0 := atoms_spec (ws := Cond.codeWith yL_look cL_look 4 (some .int) [(0, 9, 12, 18)] :: amTB) B.pre
  have hts : ∀ w ∈ amTB, w.before ([.ref (g 0), .int a1, .ref (g (amKN + 2))] : List Value).toArray s = true := fun w hw => hts0 w (List.mem_cons_of_mem _ hw)
  have hown : s.vm.findClass RL = some m.cls := findClass_of_methodNamed B.named
  have htab : c.exceptionTable.toList = tableOf [(0, 9, 12, 18)] := vx_table (x := yL_look) B (hts0 _ List.mem_cons_self)
  have F : LwF p s m ([.ref (g 0), .int a1, .ref (g (amKN + 2))] : List Value).toArray c RL cL_look 4 dC dI ct g b := ⟨hx, hb, hml, hown, hts, hK, hX, hg⟩
  have hl := lv_entry ([.ref (g 0), .int a1, .ref (g (amKN + 2))]) (n := 4) (Nat.le_of_ble_eq_true rfl)
  rw [lg_entry_eq]
  generalize (lg_sl ([.ref (g 0), .int a1, .ref (g (amKN + 2))]) ++ List.replicate (4 - (lg_sl ([.ref (g 0), .int a1, .ref (g (amKN + 2))])).length) Slot.unset).toArray = ls at hl ⊢
  have hl : lv_has ls 4 [(0, .ref (g 0)), (1, .int a1), (2, .ref (g (amKN + 2)))] := hl
  refine lv_aload_n hx hb dL_look_0 rfl (lv_at hl 2 rfl) ?_
  refine lv_iconst (v := 0) hx hb dL_look_1 (by decide) ?_
  refine lv_aload_n hx hb dL_look_2 rfl (lv_at hl 0 rfl) ?_
  refine lv_iload_n hx hb dL_look_3 rfl (lv_at hl 1 rfl) ?_
  refine lw_inv F hlt (is := [a1]) (rest := [.int 0, .ref (g (amKN + 2))]) (A0 := fun q : Nat => b ≤ q) hE ra_137.1 ra_137.2.1 (by rw [ra_137.2.2.1]; exact Nat.le_of_ble_eq_true rfl) (by decide) (by rw [ra_137.2.2.2.1]; decide) lw_w_lk_137 (by rw [ra_137.2.2.2.2.1, ra_137.2.2.2.2.2.1, ra_137.2.2.2.2.2.2]; exact ⟨Nat.le_refl _, Nat.le_refl _⟩) dL_look_4 hP (lw_hb hg hP hO) va_S.rf (fun _ _ _ => rfl) (fun q h => h.1) hl.1 (Nat.le_of_ble_eq_true rfl) ?_ ?_ ?_
  · cases A with
    | inl z => exact ⟨Nat.le_of_ble_eq_true rfl, Nat.le_of_ble_eq_true rfl⟩
    | inr n => exact ⟨Nat.le_of_ble_eq_true rfl, Nat.le_of_ble_eq_true rfl⟩
  · intro v9 e9 H1 locs1 hP1 hS1 hz1 hk1
    cases A with
    | inr n =>
      have e9 : (Sum.inr n : AmO) = .inl v9 := e9
      cases e9
    | inl z =>
      have e9 : (Sum.inl (some (Value.int z)) : AmO) = .inl v9 := e9
      cases e9
      have hO1 := lw_ok hO hk1
      refine (show W p l e _ s m _ below meth c H1 locs1 _ _ _ (F0 m 7 ls (.int z :: [.int 0, .ref (g (amKN + 2))])) from ?_)
      refine lv_i2l hx hb dL_look_7 rfl ?_
      refine lw_last hx hb hKL hg hob hP1 hO1 hS1 dL_look_8 (fun f1 H2 locs2 hf1 hP2 hO2 hS2 => ?_)
      refine W.widen (k := 1) (n := 6) (Nat.le_of_ble_eq_true rfl) (Nat.le_of_ble_eq_true rfl) ?_
      refine lv_goto (tgt := 15) hx hb dL_look_9 (by decide) ?_
      refine lv_iconst (v := 0) hx hb dL_look_15 (by decide) ?_
      refine vx_ret ?_
      exact W.iret (v := 0) hx hb hr (fun t ht hW => ⟨0, f1, ⟨rfl, hf1⟩, rfl, by rw [ht]; exact hP2, by rw [ht]; exact hO2, hS2.F ht⟩) hS2.2.2 dL_look_16
  · intro n9 e9 H1 locs1 q9 ce hP1 hS1 hz1 hk1 hc1 hc2 hc3
    cases A with
    | inl z =>
      have e9 : (Sum.inl (some (Value.int z)) : AmO) = .inr n9 := e9
      cases e9
    | inr n =>
      have e9 : (Sum.inr n : AmO) = .inr n9 := e9
      cases e9
      have hO1 := lw_ok hO hk1
      obtain rfl := hA _ rfl
      refine vx_catch (name := "java/util/NoSuchElementException") hown [] ⟨0, 9, 12, 18⟩ [] (by rw [htab]; rfl) (fun z h => nomatch h) (by decide) (by decide) (hts _ lw_w_nse) (va_Nw.use rfl (hX.1 _ lw_ca_0 rfl)) hc1 hc2 hc3 ?_
      refine lv_astore_n (lv' := [(3, .ref q9), (0, .ref (g 0)), (1, .int a1), (2, .ref (g (amKN + 2)))]) hx hb dL_look_12 rfl hl (by decide) rfl (fun ls hl => ?_)
      refine lv_iconst (v := 1) hx hb dL_look_13 (by decide) ?_
      refine W.widen (k := 1) (n := 6) (Nat.le_of_ble_eq_true rfl) (Nat.le_of_ble_eq_true rfl) ?_
      refine vx_ret ?_
      exact W.iret (v := 1) hx hb hr (fun t ht hW => ⟨1, f, by first | rfl | decide, rfl, by rw [ht]; exact hP1, by rw [ht]; exact hO1, hS1.F ht⟩) hS1.2.2 dL_look_14
set_option maxHeartbeats 2000000 in
theorem wr_years {l : Launch} (hlt : l.stackTraces = false) {dC : Nat → ClassId} {dI : Nat → Nat → Nat} {ct : Nat → ClassId} {g : Nat → Nat} {b : Nat} {cL : ClassId} {C C' : AmC} {f : Nat → Int64} {A : Int32 ⊕ Nat} {a1 a2 a3 : Int32} (hg : amHg g b) (hob : b ≤ g (amKN + 2)) (hE : En false 139 0 (lv_args 0 (.ref 0 :: [a1, a2, a3].map Value.int)) [] (mkM C) (ovI A) (mkM C')) (hA : ∀ n, A = .inr n → n = 0 ∨ n = 1) : vx_Met l yL_years (Cond.codeWith yL_years cL_years 6 (some .int) [(0, 12, 15, 18), (0, 12, 19, 13)] :: amTB) { frames := 8, cells := 1, slots := 6, locals := 207 } (lwPre dC dI ct g b cL [.ref (g 0), .int a1, .int a2, .int a3, .ref (g (amKN + 2))] C f) (lwQ dC dI ct g b cL C' A hxy) (fun _ _ _ => False) 1 6 (fun q : Nat => b ≤ q) := by
  refine vx_ofWH (cc := cL_years) (maxL := 6) (ret := some .int) (hh := [(0, 12, 15, 18), (0, 12, 19, 13)]) (by decide) rfl ?_
  intro p e s m args below meth c s₁ B hml hv
  obtain ⟨rfl, hP, hO, hK, hKL, hX, hNc⟩ := hv
  have hx := B.exec
  have hb := B.bytes
  have hr := B.returns
  have hlocks := B.notSynchronized
  have hts0 := atoms_spec (ws := Cond.codeWith yL_years cL_years 6 (some .int) [(0, 12, 15, 18), (0, 12, 19, 13)] :: amTB) B.pre
  have hts : ∀ w ∈ amTB, w.before ([.ref (g 0), .int a1, .int a2, .int a3, .ref (g (amKN + 2))] : List Value).toArray s = true := fun w hw => hts0 w (List.mem_cons_of_mem _ hw)
  have hown : s.vm.findClass RL = some m.cls := findClass_of_methodNamed B.named
  have htab : c.exceptionTable.toList = tableOf [(0, 12, 15, 18), (0, 12, 19, 13)] := vx_table (x := yL_years) B (hts0 _ List.mem_cons_self)
  have F : LwF p s m ([.ref (g 0), .int a1, .int a2, .int a3, .ref (g (amKN + 2))] : List Value).toArray c RL cL_years 6 dC dI ct g b := ⟨hx, hb, hml, hown, hts, hK, hX, hg⟩
  have hl := lv_entry ([.ref (g 0), .int a1, .int a2, .int a3, .ref (g (amKN + 2))]) (n := 6) (Nat.le_of_ble_eq_true rfl)
  rw [lg_entry_eq]
  generalize (lg_sl ([.ref (g 0), .int a1, .int a2, .int a3, .ref (g (amKN + 2))]) ++ List.replicate (6 - (lg_sl ([.ref (g 0), .int a1, .int a2, .int a3, .ref (g (amKN + 2))])).length) Slot.unset).toArray = ls at hl ⊢
  have hl : lv_has ls 6 [(0, .ref (g 0)), (1, .int a1), (2, .int a2), (3, .int a3), (4, .ref (g (amKN + 2)))] := hl
  refine lv_aload hx hb dL_years_0 (lv_at hl 4 rfl) ?_
  refine lv_iconst (v := 0) hx hb dL_years_2 (by decide) ?_
  refine lv_aload_n hx hb dL_years_3 rfl (lv_at hl 0 rfl) ?_
  refine lv_iload_n hx hb dL_years_4 rfl (lv_at hl 1 rfl) ?_
  refine lv_iload_n hx hb dL_years_5 rfl (lv_at hl 2 rfl) ?_
  refine lv_iload_n hx hb dL_years_6 rfl (lv_at hl 3 rfl) ?_
  refine lw_inv F hlt (is := [a1, a2, a3]) (rest := [.int 0, .ref (g (amKN + 2))]) (A0 := fun q : Nat => b ≤ q) hE ra_139.1 ra_139.2.1 (by rw [ra_139.2.2.1]; exact Nat.le_of_ble_eq_true rfl) (by decide) (by rw [ra_139.2.2.2.1]; decide) lw_w_lk_139 (by rw [ra_139.2.2.2.2.1, ra_139.2.2.2.2.2.1, ra_139.2.2.2.2.2.2]; exact ⟨Nat.le_refl _, Nat.le_refl _⟩) dL_years_7 hP (lw_hb hg hP hO) va_S.rf (fun _ _ _ => rfl) (fun q h => h.1) hl.1 (Nat.le_of_ble_eq_true rfl) ?_ ?_ ?_
  · cases A with
    | inl z => exact ⟨Nat.le_of_ble_eq_true rfl, Nat.le_of_ble_eq_true rfl⟩
    | inr n => exact ⟨Nat.le_of_ble_eq_true rfl, Nat.le_of_ble_eq_true rfl⟩
  · intro v9 e9 H1 locs1 hP1 hS1 hz1 hk1
    cases A with
    | inr n =>
      have e9 : (Sum.inr n : AmO) = .inl v9 := e9
      cases e9
    | inl z =>
      have e9 : (Sum.inl (some (Value.int z)) : AmO) = .inl v9 := e9
      cases e9
      have hO1 := lw_ok hO hk1
      refine (show W p l e _ s m _ below meth c H1 locs1 _ _ _ (F0 m 10 ls (.int z :: [.int 0, .ref (g (amKN + 2))])) from ?_)
      refine lv_i2l hx hb dL_years_10 rfl ?_
      refine lw_last hx hb hKL hg hob hP1 hO1 hS1 dL_years_11 (fun f1 H2 locs2 hf1 hP2 hO2 hS2 => ?_)
      refine W.widen (k := 1) (n := 6) (Nat.le_of_ble_eq_true rfl) (Nat.le_of_ble_eq_true rfl) ?_
      refine lv_goto (tgt := 23) hx hb dL_years_12 (by decide) ?_
      refine lv_iconst (v := 0) hx hb dL_years_23 (by decide) ?_
      refine vx_ret ?_
      exact W.iret (v := 0) hx hb hr (fun t ht hW => ⟨0, f1, ⟨rfl, hf1⟩, rfl, by rw [ht]; exact hP2, by rw [ht]; exact hO2, hS2.F ht⟩) hS2.2.2 dL_years_24
  · intro n9 e9 H1 locs1 q9 ce hP1 hS1 hz1 hk1 hc1 hc2 hc3
    cases A with
    | inl z =>
      have e9 : (Sum.inl (some (Value.int z)) : AmO) = .inr n9 := e9
      cases e9
    | inr n =>
      have e9 : (Sum.inr n : AmO) = .inr n9 := e9
      cases e9
      have hO1 := lw_ok hO hk1
      rcases hA _ rfl with rfl | rfl
      · refine vx_catch (name := "java/util/NoSuchElementException") hown [] ⟨0, 12, 15, 18⟩ [⟨0, 12, 19, 13⟩] (by rw [htab]; rfl) (fun z h => nomatch h) (by decide) (by decide) (hts _ lw_w_nse) (va_Nw.use rfl (hX.1 _ lw_ca_0 rfl)) hc1 hc2 hc3 ?_
        refine lv_astore (lv' := [(5, .ref q9), (0, .ref (g 0)), (1, .int a1), (2, .int a2), (3, .int a3), (4, .ref (g (amKN + 2)))]) hx hb dL_years_15 hl (by decide) rfl (fun ls hl => ?_)
        refine lv_iconst (v := 1) hx hb dL_years_17 (by decide) ?_
        refine W.widen (k := 1) (n := 6) (Nat.le_of_ble_eq_true rfl) (Nat.le_of_ble_eq_true rfl) ?_
        refine vx_ret ?_
        exact W.iret (v := 1) hx hb hr (fun t ht hW => ⟨1, f, by first | rfl | decide, rfl, by rw [ht]; exact hP1, by rw [ht]; exact hO1, hS1.F ht⟩) hS1.2.2 dL_years_18
      · refine vx_catch (name := "java/lang/IllegalArgumentException") hown [⟨0, 12, 15, 18⟩] ⟨0, 12, 19, 13⟩ [] (by rw [htab]; rfl) (fun z h => by rw [List.mem_singleton.mp h]; exact Or.inr ⟨by decide, _, hts _ lw_w_nse, hNc⟩) (by decide) (by decide) (hts _ lw_w_iae) (va_Nw.use rfl (hX.1 _ lw_ca_1 rfl)) hc1 hc2 hc3 ?_
        refine lv_astore (lv' := [(5, .ref q9), (0, .ref (g 0)), (1, .int a1), (2, .int a2), (3, .int a3), (4, .ref (g (amKN + 2)))]) hx hb dL_years_19 hl (by decide) rfl (fun ls hl => ?_)
        refine lv_iconst (v := 2) hx hb dL_years_21 (by decide) ?_
        refine W.widen (k := 1) (n := 6) (Nat.le_of_ble_eq_true rfl) (Nat.le_of_ble_eq_true rfl) ?_
        refine vx_ret ?_
        exact W.iret (v := 2) hx hb hr (fun t ht hW => ⟨2, f, by first | rfl | decide, rfl, by rw [ht]; exact hP1, by rw [ht]; exact hO1, hS1.F ht⟩) hS1.2.2 dL_years_22
