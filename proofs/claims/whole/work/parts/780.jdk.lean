/-! The JDK's String.length and charAt, of the class's text of words. -/
def jWd : List Cond := [.code yJ0_coder_7d493 cJ0_coder_7d493 1 (some .byte), .code yJ0_isLatin1_aae02 cJ0_isLatin1_aae02 1 (some .boolean), .code yJ0_length_8abf5 cJ0_length_8abf5 1 (some .int), .code yJ0_charAt_5068e cJ0_charAt_5068e 2 (some .char), .code yJ0_checkIndex_df160 cJ0_checkIndex_df160 2 none, .code yJ1_charAt_3b067 cJ1_charAt_3b067 2 (some .char), .code yJ3_checkIndex_8e157 cJ3_checkIndex_8e157 3 (some .int), .fieldLink RJ0 38 "java/lang/String" "COMPACT_STRINGS" "Z", .fieldLink RJ0 15 "java/lang/String" "coder" "B", .fieldLink RJ0 9 "java/lang/String" "value" "[B", .methodLink RJ0 335 yJ0_coder_7d493, .instanceMethod yJ0_coder_7d493, .selects RJ0 yJ0_coder_7d493 yJ0_coder_7d493, .initialized RJ0, .methodLink RJ0 492 yJ0_isLatin1_aae02, .instanceMethod yJ0_isLatin1_aae02, .selects RJ0 yJ0_isLatin1_aae02 yJ0_isLatin1_aae02, .methodLink RJ0 495 yJ1_charAt_3b067, .static yJ1_charAt_3b067, .initialized RJ1, .methodLink RJ1 9 yJ0_checkIndex_df160, .static yJ0_checkIndex_df160, .fieldLink RJ0 1053 "jdk/internal/util/Preconditions" "SIOOBE_FORMATTER" "Ljava/util/function/BiFunction;", .methodLink RJ0 1059 yJ3_checkIndex_8e157, .static yJ3_checkIndex_8e157, .initialized RJ3, .methodLink RX2 119 yJ0_length_8abf5, .instanceMethod yJ0_length_8abf5, .selects RJ0 yJ0_length_8abf5 yJ0_length_8abf5, .methodLink RX2 124 yJ0_charAt_5068e, .instanceMethod yJ0_charAt_5068e, .selects RJ0 yJ0_charAt_5068e yJ0_charAt_5068e]
set_option maxRecDepth 20000 in
theorem jWd_t : ∀ w ∈ jWd, w ∈ lw_tbl := by decide +kernel
theorem jWd_g : ∀ w ∈ jWd, goodWord w = true := by decide +kernel
theorem jw {w : Cond} (h : w ∈ jWd) : w ∈ amTB := List.mem_filter.mpr ⟨jWd_t w h, jWd_g w h⟩
def jWs (y : MethodName) (cc : ByteArray) (n : Nat) (r : Option FieldType) : List Cond := Cond.code y cc n r :: amTB
theorem jWs_good {y : MethodName} {cc : ByteArray} {n : Nat} {r : Option FieldType} (h : Cond.code y cc n r ∈ jWd) : GoodIn (jWs y cc n r) (jWs y cc n r) ∧ ∀ y2 cc2 n2 r2, GoodIn (jWs y2 cc2 n2 r2) (jWs y cc n r) := by
  have G : ∀ y2 cc2 n2 r2, GoodIn (jWs y2 cc2 n2 r2) (jWs y cc n r) := fun y2 cc2 n2 r2 w hw => by
    have h1 : w ∈ amTB := by
      rcases List.mem_cons.mp hw with rfl | h2
      · exact jw h
      · exact h2
    exact ⟨List.mem_cons_of_mem _ h1, good_of_word (List.mem_filter.mp h1).2⟩
  exact ⟨G _ _ _ _, G⟩
/-- the text, its bytes, the statics that are read -/
def jW (A : Nat → Prop) (sK sV : Nat) (U : State) (H : Heap) : Prop :=
  va_O "java/lang/String" sK A U H ∧ va_OF "java/lang/String" "coder" "B" (.int 0) sK A U H ∧ va_OF "java/lang/String" "value" "[B" (.ref sV) sK A U H ∧ va_T .byte sV 95 (fun j => .int (amWl.getD j 0)) A U H ∧ va_Z "java/lang/String" "COMPACT_STRINGS" "Z" (.int 1) A U H ∧ va_Zq "jdk/internal/util/Preconditions" "SIOOBE_FORMATTER" "Ljava/util/function/BiFunction;" A U H
theorem jW.moved {A : Nat → Prop} {sK sV : Nat} {u U : State} {H : Heap} (hv : u.vm.Alike U.vm) (h : jW A sK sV u H) : jW A sK sV U H := ⟨va_O.moved hv h.1, va_OF.moved hv h.2.1, va_OF.moved hv h.2.2.1, va_T.moved hv h.2.2.2.1, va_Z.moved hv h.2.2.2.2.1, va_Zq.moved hv h.2.2.2.2.2⟩
theorem jW.go {A : Nat → Prop} {sK sV : Nat} {s U : State} {H : Heap} {locs : List Loc} (h : jW A sK sV s s.heap) (hS : va_S (fun _ => False) s.heap H locs) (hU : U.heap = H) (hW : s.WarmedH U.vm) : jW A sK sV U U.heap := by
  subst hU
  have k : ∀ a : Nat, a < s.heap.size → ¬ A a → U.heap[a]? = s.heap[a]? := fun a q _ => hS.2.1 a q id
  exact jW.moved hW.alike ⟨h.1.kept k, h.2.1.kept k, h.2.2.1.kept k, h.2.2.2.1.kept k, h.2.2.2.2.1.kept k, h.2.2.2.2.2.kept k⟩
theorem jS {A : Nat → Prop} {H0 H : Heap} {locs : List Loc} (hS : va_S (fun _ => False) H0 H locs) : va_S A H0 H locs := ⟨hS.1, fun q h1 _ => hS.2.1 q h1 id, fun q hq => (hS.2.2 q hq).elim⟩
def jPc (A : Nat → Prop) (sK sV : Nat) (av : List Value) : Array Value → State → Prop := va_Pc av (fun U => jW A sK sV U U.heap)
theorem jPc_b {A : Nat → Prop} {sK sV : Nat} {av : List Value} : FrameBlind (jPc A sK sV av) := fun a U g mk q => ⟨q.1, jW.moved (u := U) (U := U.calling g mk a) (Vm.Alike.refl U.vm) q.2⟩
def jQ (r : Int32) : Array Value → State → Outcome → State → Prop := va_Qi (fun x (_ : Unit) => x = r) (fun _ _ => True) (fun _ => False)
def jRm (f n : Nat) : Room := { frames := f, cells := 0, slots := 0, locals := n }
theorem dj_coder : decode cJ0_coder_7d493 0 = .ok (.getstatic 38, 3) ∧ decode cJ0_coder_7d493 3 = .ok (.ifCond .eq 10, 3) ∧ decode cJ0_coder_7d493 6 = .ok (.aload_n 0, 1) ∧ decode cJ0_coder_7d493 7 = .ok (.getfield 15, 3) ∧ decode cJ0_coder_7d493 10 = .ok (.goto 4, 3) ∧ decode cJ0_coder_7d493 14 = .ok (.ireturn, 1) := by decide +kernel
theorem dj_isLat : decode cJ0_isLatin1_aae02 0 = .ok (.getstatic 38, 3) ∧ decode cJ0_isLatin1_aae02 3 = .ok (.ifCond .eq 14, 3) ∧ decode cJ0_isLatin1_aae02 6 = .ok (.aload_n 0, 1) ∧ decode cJ0_isLatin1_aae02 7 = .ok (.getfield 15, 3) ∧ decode cJ0_isLatin1_aae02 10 = .ok (.ifCond .ne 7, 3) ∧ decode cJ0_isLatin1_aae02 13 = .ok (.iconst 1, 1) ∧ decode cJ0_isLatin1_aae02 14 = .ok (.goto 4, 3) ∧ decode cJ0_isLatin1_aae02 18 = .ok (.ireturn, 1) := by decide +kernel
theorem dj_chk3 : decode cJ3_checkIndex_8e157 0 = .ok (.iload_n 0, 1) ∧ decode cJ3_checkIndex_8e157 1 = .ok (.ifCond .lt 8, 3) ∧ decode cJ3_checkIndex_8e157 4 = .ok (.iload_n 0, 1) ∧ decode cJ3_checkIndex_8e157 5 = .ok (.iload_n 1, 1) ∧ decode cJ3_checkIndex_8e157 6 = .ok (.if_icmp .lt 10, 3) ∧ decode cJ3_checkIndex_8e157 16 = .ok (.iload_n 0, 1) ∧ decode cJ3_checkIndex_8e157 17 = .ok (.ireturn, 1) := by decide +kernel
theorem dj_chk0 : decode cJ0_checkIndex_df160 0 = .ok (.iload_n 0, 1) ∧ decode cJ0_checkIndex_df160 1 = .ok (.iload_n 1, 1) ∧ decode cJ0_checkIndex_df160 2 = .ok (.getstatic 1053, 3) ∧ decode cJ0_checkIndex_df160 5 = .ok (.invokestatic 1059, 3) ∧ decode cJ0_checkIndex_df160 8 = .ok (.pop, 1) ∧ decode cJ0_checkIndex_df160 9 = .ok (.return_, 1) := by decide +kernel
theorem dj_chr1 : decode cJ1_charAt_3b067 0 = .ok (.iload_n 1, 1) ∧ decode cJ1_charAt_3b067 1 = .ok (.aload_n 0, 1) ∧ decode cJ1_charAt_3b067 2 = .ok (.arraylength, 1) ∧ decode cJ1_charAt_3b067 3 = .ok (.invokestatic 9, 3) ∧ decode cJ1_charAt_3b067 6 = .ok (.aload_n 0, 1) ∧ decode cJ1_charAt_3b067 7 = .ok (.iload_n 1, 1) ∧ decode cJ1_charAt_3b067 8 = .ok (.baload, 1) ∧ decode cJ1_charAt_3b067 9 = .ok (.sipush 255, 3) ∧ decode cJ1_charAt_3b067 12 = .ok (.iand, 1) ∧ decode cJ1_charAt_3b067 13 = .ok (.i2c, 1) ∧ decode cJ1_charAt_3b067 14 = .ok (.ireturn, 1) := by decide +kernel
theorem dj_len : decode cJ0_length_8abf5 0 = .ok (.aload_n 0, 1) ∧ decode cJ0_length_8abf5 1 = .ok (.getfield 9, 3) ∧ decode cJ0_length_8abf5 4 = .ok (.arraylength, 1) ∧ decode cJ0_length_8abf5 5 = .ok (.aload_n 0, 1) ∧ decode cJ0_length_8abf5 6 = .ok (.invokevirtual 335, 3) ∧ decode cJ0_length_8abf5 9 = .ok (.ishr, 1) ∧ decode cJ0_length_8abf5 10 = .ok (.ireturn, 1) := by decide +kernel
theorem dj_chr0 : decode cJ0_charAt_5068e 0 = .ok (.aload_n 0, 1) ∧ decode cJ0_charAt_5068e 1 = .ok (.invokevirtual 492, 3) ∧ decode cJ0_charAt_5068e 4 = .ok (.ifCond .eq 12, 3) ∧ decode cJ0_charAt_5068e 7 = .ok (.aload_n 0, 1) ∧ decode cJ0_charAt_5068e 8 = .ok (.getfield 9, 3) ∧ decode cJ0_charAt_5068e 11 = .ok (.iload_n 1, 1) ∧ decode cJ0_charAt_5068e 12 = .ok (.invokestatic 495, 3) ∧ decode cJ0_charAt_5068e 15 = .ok (.ireturn, 1) := by decide +kernel
section JDK
variable {l : Launch} {A : Nat → Prop} {sK sV : Nat}
theorem mJ_coder : Met l yJ0_coder_7d493 (jWs yJ0_coder_7d493 cJ0_coder_7d493 1 (some .byte)) (jRm 0 0) (jPc A sK sV [.ref sK]) (jQ 0) 0 0 (fun _ => False) := by
  refine Met.ofW (cc := cJ0_coder_7d493) (maxL := 1) (ret := some .byte) (by decide) rfl ?_
  intro p e s m args below meth c s₁ B hml hv
  obtain ⟨rfl, hJ⟩ := hv
  have hx := B.exec
  have hb := B.bytes
  have hr := B.returns
  have hts := atoms_spec (ws := jWs yJ0_coder_7d493 cJ0_coder_7d493 1 (some .byte)) B.pre
  have ht : ∀ w ∈ jWd, w.before #[Value.ref sK] s = true := fun w h => hts w (List.mem_cons_of_mem _ (jw h))
  have hown : s.vm.findClass RJ0 = some m.cls := findClass_of_methodNamed B.named
  have hlocks := B.notSynchronized
  have hS : va_S (fun _ => False) s.heap s.heap [] := va_S.rf
  obtain ⟨d0, d3, d6, d7, d10, d14⟩ := dj_coder
  have hl := lv_entry ([.ref sK]) (n := 1) (Nat.le_of_ble_eq_true rfl)
  rw [lg_entry_eq]
  generalize (lg_sl ([.ref sK]) ++ List.replicate (1 - (lg_sl ([.ref sK])).length) Slot.unset).toArray = ls at hl ⊢
  have hl : lv_has ls 1 [(0, .ref sK)] := hl
  refine va_gets (A := A) hx hb hJ.2.2.2.2.1 (jS hS) hown (ht _ (List.mem_of_getElem? (i := 7) rfl)) (fun _ h => h) d0 ?_
  refine lv_if_eq (tgt := 13) hx hb d3 (by decide) (fun h => absurd h (by decide)) (fun _ => ?_)
  refine lv_aload_n hx hb d6 rfl (lv_at hl 0 rfl) ?_
  refine vk_getf (A := A) hx hb hJ.2.1 (jS hS) hown (ht _ (List.mem_of_getElem? (i := 8) rfl)) (fun _ h => h) d7 ?_
  refine lv_goto (tgt := 14) hx hb d10 (by decide) ?_
  exact W.zret (v := 0) hx hb hr rfl (fun t ht hW => ⟨⟨0, (), rfl, rfl, trivial⟩, hS.F ht⟩) hS.2.2 d14
theorem mJ_isLat : Met l yJ0_isLatin1_aae02 (jWs yJ0_isLatin1_aae02 cJ0_isLatin1_aae02 1 (some .boolean)) (jRm 0 0) (jPc A sK sV [.ref sK]) (jQ 1) 0 0 (fun _ => False) := by
  refine Met.ofW (cc := cJ0_isLatin1_aae02) (maxL := 1) (ret := some .boolean) (by decide) rfl ?_
  intro p e s m args below meth c s₁ B hml hv
  obtain ⟨rfl, hJ⟩ := hv
  have hx := B.exec
  have hb := B.bytes
  have hr := B.returns
  have hts := atoms_spec (ws := jWs yJ0_isLatin1_aae02 cJ0_isLatin1_aae02 1 (some .boolean)) B.pre
  have ht : ∀ w ∈ jWd, w.before #[Value.ref sK] s = true := fun w h => hts w (List.mem_cons_of_mem _ (jw h))
  have hown : s.vm.findClass RJ0 = some m.cls := findClass_of_methodNamed B.named
  have hlocks := B.notSynchronized
  have hS : va_S (fun _ => False) s.heap s.heap [] := va_S.rf
  obtain ⟨d0, d3, d6, d7, d10, d13, d14, d18⟩ := dj_isLat
  have hl := lv_entry ([.ref sK]) (n := 1) (Nat.le_of_ble_eq_true rfl)
  rw [lg_entry_eq]
  generalize (lg_sl ([.ref sK]) ++ List.replicate (1 - (lg_sl ([.ref sK])).length) Slot.unset).toArray = ls at hl ⊢
  have hl : lv_has ls 1 [(0, .ref sK)] := hl
  refine va_gets (A := A) hx hb hJ.2.2.2.2.1 (jS hS) hown (ht _ (List.mem_of_getElem? (i := 7) rfl)) (fun _ h => h) d0 ?_
  refine lv_if_eq (tgt := 17) hx hb d3 (by decide) (fun h => absurd h (by decide)) (fun _ => ?_)
  refine lv_aload_n hx hb d6 rfl (lv_at hl 0 rfl) ?_
  refine vk_getf (A := A) hx hb hJ.2.1 (jS hS) hown (ht _ (List.mem_of_getElem? (i := 8) rfl)) (fun _ h => h) d7 ?_
  refine lv_if_ne (tgt := 17) hx hb d10 (by decide) (fun h => absurd rfl h) (fun _ => ?_)
  refine lv_iconst (v := 1) hx hb d13 (by decide) ?_
  refine lv_goto (tgt := 18) hx hb d14 (by decide) ?_
  exact W.zret (v := 1) hx hb hr rfl (fun t ht hW => ⟨⟨1, (), rfl, rfl, trivial⟩, hS.F ht⟩) hS.2.2 d18
/-- an index that is one -/
theorem mJ_chk3 {i n : Int32} {fv : Value} (h0 : ¬ i < 0) (h1 : i < n) (hf : fv = .null ∨ ∃ q : Nat, fv = .ref q) : Met l yJ3_checkIndex_8e157 (jWs yJ3_checkIndex_8e157 cJ3_checkIndex_8e157 3 (some .int)) (jRm 0 0) (jPc A sK sV [.int i, .int n, fv]) (jQ i) 0 0 (fun _ => False) := by
  refine Met.ofW (cc := cJ3_checkIndex_8e157) (maxL := 3) (ret := some .int) (by decide) rfl ?_
  intro p e s m args below meth c s₁ B hml hv
  obtain ⟨rfl, hJ⟩ := hv
  have hx := B.exec
  have hb := B.bytes
  have hr := B.returns
  have hlocks := B.notSynchronized
  have hS : va_S (fun _ => False) s.heap s.heap [] := va_S.rf
  obtain ⟨d0, d1, d4, d5, d6, d16, d17⟩ := dj_chk3
  have hcat : fv.category = 1 := by rcases hf with rfl | ⟨q, rfl⟩ <;> rfl
  have hlen : (lg_sl ([.int i, .int n, fv])).length ≤ 3 := by
    rw [am_lgsl]
    simp only [amCat, List.map_cons, List.map_nil, List.sum_cons, List.sum_nil, hcat]
    exact Nat.le_of_ble_eq_true rfl
  have hl := lv_entry ([.int i, .int n, fv]) (n := 3) hlen
  rw [lg_entry_eq]
  generalize (lg_sl ([.int i, .int n, fv]) ++ List.replicate (3 - (lg_sl ([.int i, .int n, fv])).length) Slot.unset).toArray = ls at hl ⊢
  have hl : lv_has ls 3 [(0, .int i), (1, .int n), (2, fv)] := hl
  refine lv_iload_n hx hb d0 rfl (lv_at hl 0 rfl) ?_
  refine lv_if_lt (tgt := 9) hx hb d1 (by decide) (fun h => absurd h h0) (fun _ => ?_)
  refine lv_iload_n hx hb d4 rfl (lv_at hl 0 rfl) ?_
  refine lv_iload_n hx hb d5 rfl (lv_at hl 1 rfl) ?_
  refine lv_icmp_lt (tgt := 16) hx hb d6 (by decide) (fun _ => ?_) (fun h => absurd h1 h)
  refine lv_iload_n hx hb d16 rfl (lv_at hl 0 rfl) ?_
  exact W.iret (v := i) hx hb hr (fun t ht hW => ⟨⟨i, (), rfl, rfl, trivial⟩, hS.F ht⟩) hS.2.2 d17
end JDK
