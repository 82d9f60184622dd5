/-! What stands at the law's entry. -/
def inL : List Cond := [.instantiable RX0 6, .instantiable RX1 4, .instantiable RX2 13, .instantiable RX3 14, .instantiable RX4 7, .instantiable RX5 2, .instantiable RX6 20, .instantiable RX7 7, .instantiable RX8 9, .instantiable RX9 16, .instantiable RX10 90, .arrayClass .byte, .arrayClass .int, .arrayClass .boolean, .initialized RX9, .initialized RX10]
set_option maxRecDepth 20000 in
theorem inL_in : ∀ w ∈ inL, w ∈ amTB := am_tbof [419, 367, 475, 522, 413, 191, 185, 359, 208, 177, 1467, 204, 205, 1747, 153, 163] (by decide +kernel) (by decide +kernel)
theorem inL_at (i : Nat) {w : Cond} (h : inL[i]? = some w) : w ∈ amTB := inL_in w (List.mem_of_getElem? h)
theorem in_inst : ∀ c, c < 11 → Cond.instantiable (amRX c) (amNf c) ∈ amTB := am_lt11 (inL_at 0 rfl) (inL_at 1 rfl) (inL_at 2 rfl) (inL_at 3 rfl) (inL_at 4 rfl) (inL_at 5 rfl) (inL_at 6 rfl) (inL_at 7 rfl) (inL_at 8 rfl) (inL_at 9 rfl) (inL_at 10 rfl)
section St
variable {args : Array Value} {s : State}
theorem st_cls (hts : ∀ w ∈ amTB, w.before args s = true) : ∃ (dC : Nat → ClassId) (dI : Nat → Nat → Nat), ∀ (c : Nat) (q : vw_C), vwCl[c]? = some q → u_Kn s q.1 q.2.1 q.2.2 (dC c) (dI c) := by
  have h0 : ∀ c, c < 11 → ∃ q : ClassId × (Nat → Nat), u_Kn s (amRX c) (amTX c) (amNf c) q.1 q.2 := fun c hc => by
    obtain ⟨a, b, h⟩ := u_known hts (am_in c hc) (hts _ (in_inst c hc))
    exact ⟨(a, b), h⟩
  have h1 : ∀ c, ∃ q : ClassId × (Nat → Nat), c < 11 → u_Kn s (amRX c) (amTX c) (amNf c) q.1 q.2 := fun c => by
    by_cases hc : c < 11
    · obtain ⟨q, hq⟩ := h0 c hc
      exact ⟨q, fun _ => hq⟩
    · obtain ⟨q, _⟩ := h0 0 (by decide)
      exact ⟨q, fun z => absurd z hc⟩
  obtain ⟨d, hd⟩ := Classical.axiomOfChoice h1
  refine ⟨fun c => (d c).1, fun c => (d c).2, fun c q hq => ?_⟩
  have hc : c < 11 := (List.getElem?_eq_some_iff.mp hq).1
  rw [am_cl c hc] at hq
  cases hq
  exact hd c hc
theorem st_arr {ty : FieldType} (h : (Cond.arrayClass ty).before args s = true) : ∃ cA : ClassId, ArrOfT s cA ty ∧ s.vm.findClass ("[" ++ ty.toString) = some cA := by
  obtain ⟨cA, kA, comp, h1, h2, h3⟩ := Cond.arrayClass_spec (args := args) (first := s) (o := none) (s := s) (idx := []) h
  exact ⟨cA, fun n z => ⟨fun k h => (by cases h), kA, h2, comp, h3⟩, h1⟩
theorem st_arro {C : String} (h : va_AO C s) : ∃ cA : ClassId, ArrOfT s cA (.object C) ∧ va_RA s cA (.object C) := by
  obtain ⟨comp, cA, kA, f4, _, f2, f3, f1⟩ := Cond.arrayOver_spec (args := #[]) (first := s) (o := none) (s := s) (idx := []) h
  exact ⟨cA, fun N z => ⟨(fun k h => by cases h), kA, f2, comp, f3⟩, kA, comp, f2, f3, f4, f1⟩
theorem st_K (hts : ∀ w ∈ amTB, w.before args s = true) (h5 : va_AO RX5 s) (h8 : va_AO RX8 s) : ∃ (dC : Nat → ClassId) (dI : Nat → Nat → Nat) (ct : Nat → ClassId), va_K (dC, dI) vwCl (amTys ct) s := by
  obtain ⟨dC, dI, hC⟩ := st_cls hts
  obtain ⟨c1, a1, b1⟩ := st_arr (hts _ (inL_at 11 rfl))
  obtain ⟨c2, a2, b2⟩ := st_arr (hts _ (inL_at 12 rfl))
  obtain ⟨c3, a3, b3⟩ := st_arr (hts _ (inL_at 13 rfl))
  obtain ⟨c4, a4, b4⟩ := st_arro h5
  obtain ⟨c5, a5, b5⟩ := st_arro h8
  refine ⟨dC, dI, fun k => if k = 11 then c1 else if k = 12 then c2 else if k = 13 then c3 else if k = 14 then c4 else c5, hC, fun k q hq => ?_⟩
  match k, hq with
  | 0, hq => cases hq; exact ⟨a1, b1⟩
  | 1, hq => cases hq; exact ⟨a2, b2⟩
  | 2, hq => cases hq; exact ⟨a3, b3⟩
  | 3, hq => cases hq; exact ⟨a4, b4⟩
  | 4, hq => cases hq; exact ⟨a5, b5⟩
  | n + 5, hq => cases hq
def nrw : List Cond := flatC (Jvm.Cond.and given_1 narrow_1)
theorem nr_sub {f : Nat → Cond} {n k : Nat} (h : (nrw.drop k).take n = (List.range n).map f) : ∀ j, j < n → f j ∈ nrw := by
  intro j hj
  have h1 : f j ∈ (List.range n).map f := List.mem_map.mpr ⟨j, List.mem_range.mpr hj, rfl⟩
  rw [← h] at h1
  exact List.mem_of_mem_drop (List.mem_of_mem_take h1)
set_option maxRecDepth 100000 in
theorem nr_known : ∀ j, j < 103 → Cond.eq (.elem (.static "BulkWriterModel" "KNOWN" "[B") (.int (Int32.ofNat j))) (.int (amKw j)) ∈ nrw := nr_sub (f := fun j => Cond.eq (.elem (.static "BulkWriterModel" "KNOWN" "[B") (.int (Int32.ofNat j))) (.int (amKw j))) (k := 14) (by decide +kernel)
set_option maxRecDepth 100000 in
theorem nr_text : ∀ j, j < 95 → Cond.eq (.elem (.field (.string "BulkWriter$Parser" 117) "java/lang/String" "value" "[B") (.int (Int32.ofNat j))) (.int (amWl.getD j 0)) ∈ nrw := nr_sub (f := fun j => Cond.eq (.elem (.field (.string "BulkWriter$Parser" 117) "java/lang/String" "value" "[B") (.int (Int32.ofNat j))) (.int (amWl.getD j 0))) (k := 207) (by decide +kernel)
set_option maxRecDepth 100000 in
theorem nr_all : ∀ w ∈ ([.arrayOf (.static "BulkWriterModel" "KNOWN" "[B") .byte, .eq (.length (.static "BulkWriterModel" "KNOWN" "[B")) (.int 103), .exactly (.string "BulkWriter$Parser" 117) "java/lang/String", .eq (.field (.string "BulkWriter$Parser" 117) "java/lang/String" "coder" "B") (.int 0), .arrayOf (.field (.string "BulkWriter$Parser" 117) "java/lang/String" "value" "[B") .byte, .eq (.length (.field (.string "BulkWriter$Parser" 117) "java/lang/String" "value" "[B")) (.int 95), .isRef (.static Bundle.tN "UNASSIGNED_STACK" Bundle.steD), .isRef (.static Bundle.tN "SUPPRESSED_SENTINEL" Bundle.listD), .eq (.static "java/lang/String" "COMPACT_STRINGS" "Z") (.int 1), .isRef (.static "jdk/internal/util/Preconditions" "SIOOBE_FORMATTER" "Ljava/util/function/BiFunction;"), .not (.castable "java/lang/IllegalArgumentException" "java/util/NoSuchElementException")] : List Cond), w ∈ nrw := by decide +kernel
set_option maxRecDepth 100000 in
theorem nr_str : ∀ q ∈ amStr, Cond.stringRef q.1 q.2.1 q.2.2 ∈ lw_tbl ∧ Cond.exactly (.string q.1 q.2.1) "java/lang/String" ∈ nrw := by decide +kernel
set_option maxRecDepth 100000 in
theorem nr_tbl : ([.laysStatic Bundle.tN "UNASSIGNED_STACK" Bundle.steD, .laysStatic Bundle.tN "SUPPRESSED_SENTINEL" Bundle.listD, .initialized Bundle.tN, .arrayOver (.object RX5), .arrayOver (.object RX8), .laysStatic RX10 "KNOWN" "[B", .initialized RX10, .stringRef RX2 117 amWt, .laysStatic "java/lang/String" "COMPACT_STRINGS" "Z", .initialized "java/lang/String", .laysStatic "jdk/internal/util/Preconditions" "SIOOBE_FORMATTER" "Ljava/util/function/BiFunction;", .initialized "jdk/internal/util/Preconditions"] : List Cond) = [931, 933, 164, 473, 207, 1780, 163, 993, 1003, 169, 1019, 171].filterMap (fun i => lw_tbl[i]?) := by decide +kernel
theorem st_sx (hts : ∀ w ∈ lw_tbl, w.before args s = true) (hgv : (Jvm.Cond.and given_1 narrow_1).before args s = true) : ∃ tK tW : Nat, ∀ (g : Nat → Nat) (b : Nat), g amKN = tK → g (amKN + 1) = tW → (∀ a : Nat, a < s.heap.size → ¬ amA g b a) → amSX g b s s.heap := by
  have hs : ∀ w ∈ nrw, w.before args s = true := flat_of_before _ hgv
  have ha : ∀ {w : Cond} (i : Nat), ([.arrayOf (.static "BulkWriterModel" "KNOWN" "[B") .byte, .eq (.length (.static "BulkWriterModel" "KNOWN" "[B")) (.int 103), .exactly (.string "BulkWriter$Parser" 117) "java/lang/String", .eq (.field (.string "BulkWriter$Parser" 117) "java/lang/String" "coder" "B") (.int 0), .arrayOf (.field (.string "BulkWriter$Parser" 117) "java/lang/String" "value" "[B") .byte, .eq (.length (.field (.string "BulkWriter$Parser" 117) "java/lang/String" "value" "[B")) (.int 95), .isRef (.static Bundle.tN "UNASSIGNED_STACK" Bundle.steD), .isRef (.static Bundle.tN "SUPPRESSED_SENTINEL" Bundle.listD), .eq (.static "java/lang/String" "COMPACT_STRINGS" "Z") (.int 1), .isRef (.static "jdk/internal/util/Preconditions" "SIOOBE_FORMATTER" "Ljava/util/function/BiFunction;"), .not (.castable "java/lang/IllegalArgumentException" "java/util/NoSuchElementException")] : List Cond)[i]? = some w → w.before args s = true := fun i h => hs _ (nr_all _ (List.mem_of_getElem? h))
  have ht : ∀ {w : Cond} (i : Nat), ([.laysStatic Bundle.tN "UNASSIGNED_STACK" Bundle.steD, .laysStatic Bundle.tN "SUPPRESSED_SENTINEL" Bundle.listD, .initialized Bundle.tN, .arrayOver (.object RX5), .arrayOver (.object RX8), .laysStatic RX10 "KNOWN" "[B", .initialized RX10, .stringRef RX2 117 amWt, .laysStatic "java/lang/String" "COMPACT_STRINGS" "Z", .initialized "java/lang/String", .laysStatic "jdk/internal/util/Preconditions" "SIOOBE_FORMATTER" "Ljava/util/function/BiFunction;", .initialized "jdk/internal/util/Preconditions"] : List Cond)[i]? = some w → w.before args s = true := fun i h => by
    have h1 := List.mem_of_getElem? h
    rw [nr_tbl] at h1
    obtain ⟨k, -, hk⟩ := List.mem_filterMap.mp h1
    exact hts _ (List.mem_of_getElem? hk)
  have kn : ∀ (A : Nat → Prop), (∀ a : Nat, a < s.heap.size → ¬ A a) → ∃ t : Nat, (Term.static "BulkWriterModel" "KNOWN" "[B").eval args s none [] s = some (.ref t) ∧ va_T .byte t 103 (fun j => .int (amKw j)) A s s.heap := fun A hA => va_Tof (by decide) (ha 0 rfl) (va_eqt (ha 1 rfl)) (fun j hj => va_eqt (hs _ (nr_known j hj))) hA
  have tx : ∀ (A : Nat → Prop), (∀ a : Nat, a < s.heap.size → ¬ A a) → ∃ adK adV : Nat → Nat, vk_S 1 [95] [amWl] adK adV A s s.heap ∧ ∀ i : Nat, i < 1 → (Term.string "BulkWriter$Parser" 117).eval args s none [] s = some (.ref (adK i)) := fun A hA => by
    have z : ∀ {i : Nat}, i < 1 → i = 0 := fun h => by omega
    refine vk_Sof (tm := fun _ => .string "BulkWriter$Parser" 117) (fun i hi => by rw [z hi]; decide) (fun i hi => ha 2 rfl) (fun i hi => ha 3 rfl) (fun i hi => ha 4 rfl) (fun i hi => by rw [z hi]; exact ha 5 rfl) (fun i hi j hj => ?_) (fun i j hi hj h => absurd ((z hi).trans (z hj).symm) h) hA
    rw [z hi] at hj ⊢
    exact hs _ (nr_text j hj)
  obtain ⟨tK, eK, _⟩ := kn (fun _ => False) (fun _ _ => id)
  obtain ⟨ad, _, _, eW⟩ := tx (fun _ => False) (fun _ _ => id)
  refine ⟨tK, ad 0, fun g b hK hW hA => ?_⟩
  obtain ⟨t1, e1, hT⟩ := kn (amA g b) hA
  have q1 : t1 = tK := by
    rw [eK] at e1
    cases e1
    rfl
  subst q1
  obtain ⟨adK, adV, hS, e2⟩ := tx (amA g b) hA
  have q2 : adK 0 = ad 0 := by
    have e3 := e2 0 (by decide)
    rw [eW 0 (by decide)] at e3
    exact (Value.ref.inj (Option.some.inj e3)).symm
  refine ⟨fun w hw hn => ?_, vx_Zqof (ht 0 rfl) (ht 2 rfl) (ha 6 rfl) hA, vx_Zqof (ht 1 rfl) (ht 2 rfl) (ha 7 rfl) hA, va_AO.of (ht 3 rfl), va_AO.of (ht 4 rfl), fun q hq => ?_, ?_, ?_, ?_, ⟨adV, ?_⟩, va_Zof (ht 8 rfl) (ht 9 rfl) (va_eqt (ha 8 rfl)) hA, va_Zqof (ht 10 rfl) (ht 11 rfl) (ha 9 rfl) hA⟩
  · have h := hts w hw
    cases w <;> simp [amNest] at hn
    · exact va_Nw.of rfl h
    · exact va_Nw.of rfl h
    · exact va_Nw.of rfl h
    · exact va_Nw.of rfl h
  · obtain ⟨h1, h2⟩ := nr_str q hq
    obtain ⟨a, c, cA, kA, q1, -⟩ := Cond.exactly_spec (args := args) (first := s) (o := none) (s := s) (idx := []) (hs _ h2)
    exact ⟨a, vk_R.of (hts _ h1) q1⟩
  · rw [hK]
    exact va_Zref (ht 5 rfl) (ht 6 rfl) eK hA
  · rw [hK]
    exact hT
  · rw [hW]
    exact vk_R.of (ht 7 rfl) (eW 0 (by decide))
  · refine ⟨fun i hi => ?_, fun i j hi hj _ => by omega⟩
    have h := hS.1 i hi
    have hi0 : i = 0 := by omega
    subst hi0
    rw [q2] at h
    show va_O "java/lang/String" (g (amKN + 1)) _ _ _ ∧ va_OF "java/lang/String" "coder" "B" (.int 0) (g (amKN + 1)) _ _ _ ∧ va_OF "java/lang/String" "value" "[B" (.ref (adV 0)) (g (amKN + 1)) _ _ _ ∧ _
    rw [hW]
    exact h
end St
