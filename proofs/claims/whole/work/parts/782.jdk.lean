/-! The JDK's String.length and charAt, of the class's text of words: the callers. -/
theorem jch : ∀ j, j < 95 → ((amWl.getD j 0 &&& 255).toUInt32 % 65536).toInt32 = amWc j ∧ narrow .char (.int (amWc j)) = .int (amWc j) := by decide +kernel
theorem jin {i : Int32} (h : amIn i 95 = true) : ¬ i < 0 ∧ i < 95 ∧ i.toNatClampNeg < 95 := by
  simp only [amIn, Bool.and_eq_true, decide_eq_true_eq] at h
  have h0 : ¬ i < 0 := by simpa using h.1
  refine ⟨h0, ?_, h.2⟩
  obtain ⟨k, hk, rfl⟩ := (i_cs i).resolve_left h0
  have h2 := h.2
  rw [x_cl hk] at h2
  exact (x_lt (b := 95) hk (by decide)).mpr h2
section JDK2
variable {l : Launch} {A : Nat → Prop} {sK sV : Nat}
theorem mJ_chk0 {i n : Int32} (h0 : ¬ i < 0) (h1 : i < n) : Met l yJ0_checkIndex_df160 (jWs yJ0_checkIndex_df160 cJ0_checkIndex_df160 2 none) (jRm 1 22) (jPc A sK sV [.int i, .int n]) (va_Qv (fun (_ : Unit) => True) (fun _ _ => True) (fun _ => False)) 0 0 (fun _ => False) := by
  refine Met.ofW (cc := cJ0_checkIndex_df160) (maxL := 2) (ret := none) (by decide) rfl ?_
  intro p e s m args below meth c s₁ B hml hv
  obtain ⟨rfl, hJ⟩ := hv
  have hx := B.exec
  have hb := B.bytes
  have hr := B.returns
  have hts := atoms_spec (ws := jWs yJ0_checkIndex_df160 cJ0_checkIndex_df160 2 none) B.pre
  have ht : ∀ w ∈ jWd, w.before #[Value.int i, Value.int n] s = true := fun w h => hts w (List.mem_cons_of_mem _ (jw h))
  have hown : s.vm.findClass RJ0 = some m.cls := findClass_of_methodNamed B.named
  have hlocks := B.notSynchronized
  have hS : va_S (fun _ => False) s.heap s.heap [] := va_S.rf
  obtain ⟨d0, d1, d2, d5, d8, d9⟩ := dj_chk0
  have hl := lv_entry ([.int i, .int n]) (n := 2) (Nat.le_of_ble_eq_true rfl)
  rw [lg_entry_eq]
  generalize (lg_sl ([.int i, .int n]) ++ List.replicate (2 - (lg_sl ([.int i, .int n])).length) Slot.unset).toArray = ls at hl ⊢
  have hl : lv_has ls 2 [(0, .int i), (1, .int n)] := hl
  refine lv_iload_n hx hb d0 rfl (lv_at hl 0 rfl) ?_
  refine lv_iload_n hx hb d1 rfl (lv_at hl 1 rfl) ?_
  have go : ∀ fv : Value, (fv = .null ∨ ∃ q : Nat, fv = .ref q) → va_Z "jdk/internal/util/Preconditions" "SIOOBE_FORMATTER" "Ljava/util/function/BiFunction;" fv A s s.heap → W p l e (headSpec (jWs yJ0_checkIndex_df160 cJ0_checkIndex_df160 2 none) (jRm 1 22)).room s m #[Value.int i, Value.int n] below meth c s.heap [] 0 0 (MQ below (va_Qv (fun (_ : Unit) => True) (fun _ _ => True) (fun _ => False)) #[Value.int i, Value.int n] s 0 0 (fun _ => False)) (F0 m 2 ls [.int n, .int i]) := by
    intro fv hf hZ
    refine va_gets (A := A) hx hb hZ (jS hS) hown (ht _ (List.mem_of_getElem? (i := 22) rfl)) (fun _ h => h) d2 ?_
    refine va_calli (va_runS (As := [.int i, .int n, fv]) (rest := []) ⟨hx, hb, hml, hown, hts⟩ (mJ_chk3 (A := A) (sK := sK) (sV := sV) h0 h1 hf) ⟨callB_of 3 hts ((jWs_good (List.mem_of_getElem? (i := 6) rfl)).2 _ _ _ _) rfl rfl rfl (ht _ (List.mem_of_getElem? (i := 25) rfl)) (ht _ (List.mem_of_getElem? (i := 23) rfl)) (by decide +kernel) ⟨Nat.le_of_ble_eq_true rfl, Nat.le_of_ble_eq_true rfl⟩, ht _ (List.mem_of_getElem? (i := 24) rfl)⟩ ⟨jPc_b, fun U hU hW => ⟨rfl, hJ.go hS hU hW⟩⟩ rfl rfl hl.1 rfl (lv_room (Nat.le_of_ble_eq_true rfl)) d5 ⟨Nat.zero_le _, Nat.zero_le _⟩) hS (fun q _ h => h) (fun q h => h) (fun r u t H1 locs1 ht1 hvm hp hB hz hk hS1 => ?_)
    refine lv_pop hx hb d8 rfl ?_
    exact W.vret hx hb hr (fun t ht hW => ⟨⟨(), rfl, trivial, trivial⟩, hS1.F ht⟩) hS1.2.2 d9
  rcases hJ.2.2.2.2.2 with hZ | ⟨q, hZ⟩
  · exact go .null (Or.inl rfl) hZ
  · exact go (.ref q) (Or.inr ⟨q, rfl⟩) hZ
theorem mJ_chr1 {i : Int32} (hi : amIn i 95 = true) : Met l yJ1_charAt_3b067 (jWs yJ1_charAt_3b067 cJ1_charAt_3b067 2 (some .char)) (jRm 2 43) (jPc A sK sV [.ref sV, .int i]) (jQ (amWc i.toNatClampNeg)) 0 0 (fun _ => False) := by
  obtain ⟨h0, h1, h2⟩ := jin hi
  refine Met.ofW (cc := cJ1_charAt_3b067) (maxL := 2) (ret := some .char) (by decide) rfl ?_
  intro p e s m args below meth c s₁ B hml hv
  obtain ⟨rfl, hJ⟩ := hv
  have hx := B.exec
  have hb := B.bytes
  have hr := B.returns
  have hts := atoms_spec (ws := jWs yJ1_charAt_3b067 cJ1_charAt_3b067 2 (some .char)) B.pre
  have ht : ∀ w ∈ jWd, w.before #[Value.ref sV, Value.int i] s = true := fun w h => hts w (List.mem_cons_of_mem _ (jw h))
  have hown : s.vm.findClass RJ1 = some m.cls := findClass_of_methodNamed B.named
  have hlocks := B.notSynchronized
  have hS : va_S (fun _ => False) s.heap s.heap [] := va_S.rf
  obtain ⟨d0, d1, d2, d3, d6, d7, d8, d9, d12, d13, d14⟩ := dj_chr1
  have hl := lv_entry ([.ref sV, .int i]) (n := 2) (Nat.le_of_ble_eq_true rfl)
  rw [lg_entry_eq]
  generalize (lg_sl ([.ref sV, .int i]) ++ List.replicate (2 - (lg_sl ([.ref sV, .int i])).length) Slot.unset).toArray = ls at hl ⊢
  have hl : lv_has ls 2 [(0, .ref sV), (1, .int i)] := hl
  refine lv_iload_n hx hb d0 rfl (lv_at hl 1 rfl) ?_
  refine lv_aload_n hx hb d1 rfl (lv_at hl 0 rfl) ?_
  refine va_tlen (A := A) hx hb hJ.2.2.2.1 (jS hS) (v := 95) (by decide) d2 ?_
  refine va_callv (va_runS (As := [.int i, .int 95]) (rest := []) ⟨hx, hb, hml, hown, hts⟩ (mJ_chk0 (A := A) (sK := sK) (sV := sV) h0 h1) ⟨callB_of 2 hts ((jWs_good (List.mem_of_getElem? (i := 4) rfl)).2 _ _ _ _) rfl rfl rfl (ht _ (List.mem_of_getElem? (i := 13) rfl)) (ht _ (List.mem_of_getElem? (i := 20) rfl)) (by decide +kernel) ⟨Nat.le_of_ble_eq_true rfl, Nat.le_of_ble_eq_true rfl⟩, ht _ (List.mem_of_getElem? (i := 21) rfl)⟩ ⟨jPc_b, fun U hU hW => ⟨rfl, hJ.go hS hU hW⟩⟩ rfl rfl hl.1 rfl (lv_room (Nat.le_of_ble_eq_true rfl)) d3 ⟨Nat.zero_le _, Nat.zero_le _⟩) hS (fun q _ h => h) (fun q h => h) (fun u t H1 locs1 ht1 hvm hp hB hz hk hS1 => ?_)
  refine lv_aload_n hx hb d6 rfl (lv_at hl 0 rfl) ?_
  refine lv_iload_n hx hb d7 rfl (lv_at hl 1 rfl) ?_
  refine va_tb (A := A) hx hb hJ.2.2.2.1 (jS hS1) (am_ofIn hi) (v := .int (amWl.getD i.toNatClampNeg 0)) rfl d8 ?_
  refine lv_sipush (v := 255) hx hb d9 (by decide) ?_
  refine lv_iand hx hb d12 ?_
  refine lv_i2c (v := amWc i.toNatClampNeg) hx hb d13 (jch _ h2).1 ?_
  exact W.zret (v := amWc i.toNatClampNeg) hx hb hr (jch _ h2).2 (fun t ht hW => ⟨⟨_, (), rfl, rfl, trivial⟩, hS1.F ht⟩) hS1.2.2 d14
theorem jrecv {s : State} {H : Heap} {locs : List Loc} (hJ : jW A sK sV s s.heap) (hS : va_S (fun _ => False) s.heap H locs) : ∃ cellB : Cell, H[sK]? = some cellB ∧ cellB.vm.isStatics = false ∧ s.vm.findClass RJ0 = some cellB.cls := by
  obtain ⟨cell, h1, h2, h3, h4⟩ := hJ.1
  exact ⟨cell, by rw [hS.2.1 sK (Array.getElem?_eq_some_iff.mp h1).1 id]; exact h1, h2, h3⟩
theorem mJ_len : Met l yJ0_length_8abf5 (jWs yJ0_length_8abf5 cJ0_length_8abf5 1 (some .int)) (jRm 1 20) (jPc A sK sV [.ref sK]) (jQ 95) 0 0 (fun _ => False) := by
  refine Met.ofW (cc := cJ0_length_8abf5) (maxL := 1) (ret := some .int) (by decide) rfl ?_
  intro p e s m args below meth c s₁ B hml hv
  obtain ⟨rfl, hJ⟩ := hv
  have hx := B.exec
  have hb := B.bytes
  have hr := B.returns
  have hts := atoms_spec (ws := jWs yJ0_length_8abf5 cJ0_length_8abf5 1 (some .int)) B.pre
  have ht : ∀ w ∈ jWd, w.before #[Value.ref sK] s = true := fun w h => hts w (List.mem_cons_of_mem _ (jw h))
  have hown : s.vm.findClass RJ0 = some m.cls := findClass_of_methodNamed B.named
  have hlocks := B.notSynchronized
  have hS : va_S (fun _ => False) s.heap s.heap [] := va_S.rf
  obtain ⟨d0, d1, d4, d5, d6, d9, d10⟩ := dj_len
  have hl := lv_entry ([.ref sK]) (n := 1) (Nat.le_of_ble_eq_true rfl)
  rw [lg_entry_eq]
  generalize (lg_sl ([.ref sK]) ++ List.replicate (1 - (lg_sl ([.ref sK])).length) Slot.unset).toArray = ls at hl ⊢
  have hl : lv_has ls 1 [(0, .ref sK)] := hl
  refine lv_aload_n hx hb d0 rfl (lv_at hl 0 rfl) ?_
  refine vk_getf (A := A) hx hb hJ.2.2.1 (jS hS) hown (ht _ (List.mem_of_getElem? (i := 9) rfl)) (fun _ h => h) d1 ?_
  refine va_tlen (A := A) hx hb hJ.2.2.2.1 (jS hS) (v := 95) (by decide) d4 ?_
  refine lv_aload_n hx hb d5 rfl (lv_at hl 0 rfl) ?_
  refine va_calli (va_runV (As := []) (rest := [.int 95]) ⟨hx, hb, hml, hown, hts⟩ (mJ_coder (A := A) (sK := sK) (sV := sV)) ⟨callB_of 0 hts ((jWs_good (List.mem_of_getElem? (i := 0) rfl)).2 _ _ _ _) rfl rfl rfl (ht _ (List.mem_of_getElem? (i := 13) rfl)) (ht _ (List.mem_of_getElem? (i := 10) rfl)) (by decide +kernel) ⟨Nat.le_of_ble_eq_true rfl, Nat.le_of_ble_eq_true rfl⟩, ht _ (List.mem_of_getElem? (i := 11) rfl), ht _ (List.mem_of_getElem? (i := 12) rfl)⟩ ⟨jPc_b, jrecv hJ hS, fun U hU hW => ⟨rfl, hJ.go hS hU hW⟩⟩ rfl rfl hl.1 rfl (lv_room (Nat.le_of_ble_eq_true rfl)) d6 ⟨Nat.zero_le _, Nat.zero_le _⟩) hS (fun q _ h => h) (fun q h => h) (fun r u t H1 locs1 ht1 hvm hp hB hz hk hS1 => ?_)
  have hp : r = 0 := hp
  subst hp
  refine lv_ishr hx hb d9 ?_
  exact W.iret (v := (95 : Int32) >>> ((0 : Int32) &&& 31)) hx hb hr (fun t ht hW => ⟨⟨_, (), rfl, by decide, trivial⟩, hS1.F ht⟩) hS1.2.2 d10
theorem mJ_chr0 {i : Int32} (hi : amIn i 95 = true) : Met l yJ0_charAt_5068e (jWs yJ0_charAt_5068e cJ0_charAt_5068e 2 (some .char)) (jRm 3 64) (jPc A sK sV [.ref sK, .int i]) (jQ (amWc i.toNatClampNeg)) 0 0 (fun _ => False) := by
  obtain ⟨h0, h1, h2⟩ := jin hi
  refine Met.ofW (cc := cJ0_charAt_5068e) (maxL := 2) (ret := some .char) (by decide) rfl ?_
  intro p e s m args below meth c s₁ B hml hv
  obtain ⟨rfl, hJ⟩ := hv
  have hx := B.exec
  have hb := B.bytes
  have hr := B.returns
  have hts := atoms_spec (ws := jWs yJ0_charAt_5068e cJ0_charAt_5068e 2 (some .char)) B.pre
  have ht : ∀ w ∈ jWd, w.before #[Value.ref sK, Value.int i] s = true := fun w h => hts w (List.mem_cons_of_mem _ (jw h))
  have hown : s.vm.findClass RJ0 = some m.cls := findClass_of_methodNamed B.named
  have hlocks := B.notSynchronized
  have hS : va_S (fun _ => False) s.heap s.heap [] := va_S.rf
  obtain ⟨d0, d1, d4, d7, d8, d11, d12, d15⟩ := dj_chr0
  have hl := lv_entry ([.ref sK, .int i]) (n := 2) (Nat.le_of_ble_eq_true rfl)
  rw [lg_entry_eq]
  generalize (lg_sl ([.ref sK, .int i]) ++ List.replicate (2 - (lg_sl ([.ref sK, .int i])).length) Slot.unset).toArray = ls at hl ⊢
  have hl : lv_has ls 2 [(0, .ref sK), (1, .int i)] := hl
  refine lv_aload_n hx hb d0 rfl (lv_at hl 0 rfl) ?_
  refine va_calli (va_runV (As := []) (rest := []) ⟨hx, hb, hml, hown, hts⟩ (mJ_isLat (A := A) (sK := sK) (sV := sV)) ⟨callB_of 0 hts ((jWs_good (List.mem_of_getElem? (i := 1) rfl)).2 _ _ _ _) rfl rfl rfl (ht _ (List.mem_of_getElem? (i := 13) rfl)) (ht _ (List.mem_of_getElem? (i := 14) rfl)) (by decide +kernel) ⟨Nat.le_of_ble_eq_true rfl, Nat.le_of_ble_eq_true rfl⟩, ht _ (List.mem_of_getElem? (i := 15) rfl), ht _ (List.mem_of_getElem? (i := 16) rfl)⟩ ⟨jPc_b, jrecv hJ hS, fun U hU hW => ⟨rfl, hJ.go hS hU hW⟩⟩ rfl rfl hl.1 rfl (lv_room (Nat.le_of_ble_eq_true rfl)) d1 ⟨Nat.zero_le _, Nat.zero_le _⟩) hS (fun q _ h => h) (fun q h => h) (fun r u t H1 locs1 ht1 hvm hp hB hz hk hS1 => ?_)
  have hp : r = 1 := hp
  subst hp
  refine lv_if_eq (tgt := 16) hx hb d4 (by decide) (fun h => absurd h (by decide)) (fun _ => ?_)
  refine lv_aload_n hx hb d7 rfl (lv_at hl 0 rfl) ?_
  refine vk_getf (A := A) hx hb hJ.2.2.1 (jS hS1) hown (ht _ (List.mem_of_getElem? (i := 9) rfl)) (fun _ h => h) d8 ?_
  refine lv_iload_n hx hb d11 rfl (lv_at hl 1 rfl) ?_
  refine va_calli (va_runS (As := [.ref sV, .int i]) (rest := []) ⟨hx, hb, hml, hown, hts⟩ (mJ_chr1 (A := A) (sK := sK) (sV := sV) hi) ⟨callB_of 2 hts ((jWs_good (List.mem_of_getElem? (i := 5) rfl)).2 _ _ _ _) rfl rfl rfl (ht _ (List.mem_of_getElem? (i := 19) rfl)) (ht _ (List.mem_of_getElem? (i := 17) rfl)) (by decide +kernel) ⟨Nat.le_of_ble_eq_true rfl, Nat.le_of_ble_eq_true rfl⟩, ht _ (List.mem_of_getElem? (i := 18) rfl)⟩ ⟨jPc_b, fun U hU hW => ⟨rfl, hJ.go hS1 hU hW⟩⟩ rfl rfl hl.1 rfl (lv_room (Nat.le_of_ble_eq_true rfl)) d12 ⟨Nat.zero_le _, Nat.zero_le _⟩) hS1 (fun q _ h => h) (fun q h => h) (fun r u t H2 locs2 ht2 hvm2 hp2 hB2 hz2 hk2 hS2 => ?_)
  have hp2 : r = amWc i.toNatClampNeg := hp2
  subst hp2
  exact W.zret (v := amWc i.toNatClampNeg) hx hb hr (jch _ h2).2 (fun t ht hW => ⟨⟨_, (), rfl, rfl, trivial⟩, hS2.F ht⟩) hS2.2.2 d15
end JDK2
