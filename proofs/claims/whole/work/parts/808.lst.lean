/-! The law's loop: what stands at its head, its steps. -/
section LwL
variable {p : Program} {l : Launch} {e : Env} {s : State} {m : MethodId} {below : List Frame} {meth : Method} {c : Code} {bs L : Nat} {xs : Nat → Int32} {dC : Nat → ClassId} {dI : Nat → Nat → Nat} {ct : Nat → ClassId} {g : Nat → Nat} {cL : ClassId} {C : AmC} {f : Nat → Int64} {H : Heap} {locs : List Loc} {ls : Array Slot} {cells slots i : Nat} {Q : State → Prop}
/-- what holds all the way -/
def LwG (p : Program) (l : Launch) (s : State) (m : MethodId) (c : Code) (bs L : Nat) (xs : Nat → Int32) (dC : Nat → ClassId) (dI : Nat → Nat → Nat) (ct : Nat → ClassId) (g : Nat → Nat) (cL : ClassId) : Prop :=
  l.stackTraces = false ∧ LwF p s m #[Value.ref bs] c RL code 7 dC dI ct g s.heap.size ∧ va_K (dC, dI) vwCl [(cL, .long)] s ∧ va_Nc "java/lang/IllegalArgumentException" "java/util/NoSuchElementException" s ∧ va_X bs L xs s s.heap ∧ bs < s.heap.size ∧ s.heap.size ≤ g (amKN + 2) ∧ L ≤ 3072
/-- the heap -/
def LwM (s : State) (dC : Nat → ClassId) (dI : Nat → Nat → Nat) (ct : Nat → ClassId) (g : Nat → Nat) (cL : ClassId) (C : AmC) (f : Nat → Int64) (H : Heap) (locs : List Loc) : Prop := va_P (dC, dI) vwCl (amWs ct g (mkM C)) H ∧ va_P (dC, dI) vwCl (lwO cL (g (amKN + 2)) f) H ∧ va_S (fun q : Nat => s.heap.size ≤ q) s.heap H locs
abbrev lwLs (bs : Nat) (g : Nat → Nat) (i : Nat) : List (Nat × Value) := [(0, .ref bs), (1, .ref (g 0)), (2, .ref (g 145)), (3, .ref (g (amKN + 2))), (4, .int (nI i))]
theorem lw_4 {a b c d : Cond} (ha : a ∈ amTB) (hb : b ∈ amTB) (hc : c ∈ amTB) (hd : d ∈ amTB) : ∀ w ∈ [a, b, c, d], w ∈ amTB := by
  intro w hw
  simp only [List.mem_cons, List.not_mem_nil, or_false] at hw
  rcases hw with rfl | rfl | rfl | rfl <;> assumption
/-- script[i + j] -/
theorem lw_arg (G : LwG p l s m c bs L xs dC dI ct g cL) {st : List Value} {j pc : Nat} {jj : Int} (hS : va_S (fun q : Nat => s.heap.size ≤ q) s.heap H locs) (h0 : ls[0]? = some (.val (.ref bs))) (h4 : ls[4]? = some (.val (.int (nI i)))) (hj : i + j < L) (hJ : Int32.ofInt jj = nI j) (d0 : decode code pc = .ok (.aload_n 0, 1)) (d1 : decode code (pc + 1) = .ok (.iload 4, 2)) (d3 : decode code (pc + 3) = .ok (.iconst jj, 1)) (d4 : decode code (pc + 4) = .ok (.iadd, 1)) (d5 : decode code (pc + 5) = .ok (.iaload, 1))
    (k : W p l e room_1 s m #[Value.ref bs] below meth c H locs cells slots Q (F0 m (pc + 6) ls (.int (xs (i + j)) :: st))) : W p l e room_1 s m #[Value.ref bs] below meth c H locs cells slots Q (F0 m pc ls st) := by
  obtain ⟨hlt, ⟨hx, hb, hml, hown, hts, hK, hX, hg⟩, hKL, hNc, hXX, hbl, hob, hL⟩ := G
  refine lv_aload_n hx hb d0 rfl h0 ?_
  refine lv_iload hx hb d1 h4 ?_
  refine lv_iconst (v := nI j) hx hb d3 hJ ?_
  refine lv_iadd hx hb d4 ?_
  rw [nI_add]
  refine va_sld (A := fun q : Nat => s.heap.size ≤ q) hx hb hXX hbl (Nat.not_le.mpr hbl) hS (vp_in_nI hj (by omega)) d5 ?_
  rw [nI_clamp (show i + j < 2 ^ 31 by omega)]
  exact k
/-- out[0] -/
theorem lw_lald (G : LwG p l s m c bs L xs dC dI ct g cL) {st : List Value} {pc : Nat} (hO : va_P (dC, dI) vwCl (lwO cL (g (amKN + 2)) f) H) (hd : decode code pc = .ok (.laload, 1)) (k : W p l e room_1 s m #[Value.ref bs] below meth c H locs cells slots Q (F0 m (pc + 1) ls (.long (f 0) :: st))) : W p l e room_1 s m #[Value.ref bs] below meth c H locs cells slots Q (F0 m pc ls (.int 0 :: .ref (g (amKN + 2)) :: st)) := by
  obtain ⟨hlt, ⟨hx, hb, hml, hown, hts, hK, hX, hg⟩, hKL, hNc, hXX, hbl, hob, hL⟩ := G
  refine va_lald (D := (dC, dI)) (ws := lwO cL (g (amKN + 2)) f) hx hb hKL hO 0 0 (n := 1) (f := f) rfl rfl (fun h => by rcases h with h | h <;> exact absurd h (by decide)) hd ?_
  rw [show (0 : Int32).toNatClampNeg = 0 by decide]
  exact k
theorem lw_cmp (x : Int64) : lg_cmp x x = 0 := by simp [lg_cmp]
/-- the answers are one -/
theorem lw_ans {A : Int32 ⊕ Nat} {hx : Nat → Int32} {r z th : Int32} (hT : lwT A hx r f) (h1 : ∀ v, A = .inl v → th = 0 ∧ z = v) (h2 : ∀ n, A = .inr n → th = hx n) (h3 : ∀ n, A = .inr n → ¬ hx n = 0) : th = r ∧ (r = 0 → f 0 = z.toInt64) := by
  cases A with
  | inl v =>
    obtain ⟨rfl, rfl⟩ := h1 v rfl
    exact ⟨hT.1.symm, fun _ => hT.2⟩
  | inr n =>
    have e : r = hx n := hT
    exact ⟨(h2 n rfl).trans e.symm, fun z => absurd (e.symm.trans z) (h3 n rfl)⟩
theorem hx1_n {ok : Nat → Prop} {A : Int32 ⊕ Nat} (_ : ∀ n, A = .inr n → ok n) : ∀ n, A = .inr n → ¬ hx1 n = 0 := fun n _ => by
  show ¬ (1 : Int32) = 0
  decide
theorem hxy_n {A : Int32 ⊕ Nat} (h : ∀ n, A = .inr n → n = 0 ∨ n = 1) : ∀ n, A = .inr n → ¬ hxy n = 0 := fun n hn => by
  rcases h n hn with rfl | rfl <;> decide
end LwL
theorem lw_d_table : yL_table.cls ≠ "java/lang/invoke/MethodHandle" ∧ yL_table.cls ≠ "java/lang/invoke/VarHandle" ∧ (parseMethodDescriptor yL_table.desc).map (fun d => d.parameters.length) = some 3 := by decide +kernel
theorem lw_d_count : yL_count.cls ≠ "java/lang/invoke/MethodHandle" ∧ yL_count.cls ≠ "java/lang/invoke/VarHandle" ∧ (parseMethodDescriptor yL_count.desc).map (fun d => d.parameters.length) = some 3 := by decide +kernel
theorem lw_d_cell : yL_cell.cls ≠ "java/lang/invoke/MethodHandle" ∧ yL_cell.cls ≠ "java/lang/invoke/VarHandle" ∧ (parseMethodDescriptor yL_cell.desc).map (fun d => d.parameters.length) = some 4 := by decide +kernel
theorem lw_d_along : yL_along.cls ≠ "java/lang/invoke/MethodHandle" ∧ yL_along.cls ≠ "java/lang/invoke/VarHandle" ∧ (parseMethodDescriptor yL_along.desc).map (fun d => d.parameters.length) = some 4 := by decide +kernel
theorem lw_d_right : yL_right.cls ≠ "java/lang/invoke/MethodHandle" ∧ yL_right.cls ≠ "java/lang/invoke/VarHandle" ∧ (parseMethodDescriptor yL_right.desc).map (fun d => d.parameters.length) = some 4 := by decide +kernel
theorem lw_d_plan : yL_plan.cls ≠ "java/lang/invoke/MethodHandle" ∧ yL_plan.cls ≠ "java/lang/invoke/VarHandle" ∧ (parseMethodDescriptor yL_plan.desc).map (fun d => d.parameters.length) = some 5 := by decide +kernel
theorem lw_d_goes : yL_goes.cls ≠ "java/lang/invoke/MethodHandle" ∧ yL_goes.cls ≠ "java/lang/invoke/VarHandle" ∧ (parseMethodDescriptor yL_goes.desc).map (fun d => d.parameters.length) = some 6 := by decide +kernel
theorem lw_d_wrongPaths : yL_wrongPaths.cls ≠ "java/lang/invoke/MethodHandle" ∧ yL_wrongPaths.cls ≠ "java/lang/invoke/VarHandle" ∧ (parseMethodDescriptor yL_wrongPaths.desc).map (fun d => d.parameters.length) = some 3 := by decide +kernel
theorem lw_d_cheapest : yL_cheapest.cls ≠ "java/lang/invoke/MethodHandle" ∧ yL_cheapest.cls ≠ "java/lang/invoke/VarHandle" ∧ (parseMethodDescriptor yL_cheapest.desc).map (fun d => d.parameters.length) = some 4 := by decide +kernel
theorem lw_d_clashes : yL_clashes.cls ≠ "java/lang/invoke/MethodHandle" ∧ yL_clashes.cls ≠ "java/lang/invoke/VarHandle" ∧ (parseMethodDescriptor yL_clashes.desc).map (fun d => d.parameters.length) = some 3 := by decide +kernel
theorem lw_d_order : yL_order.cls ≠ "java/lang/invoke/MethodHandle" ∧ yL_order.cls ≠ "java/lang/invoke/VarHandle" ∧ (parseMethodDescriptor yL_order.desc).map (fun d => d.parameters.length) = some 4 := by decide +kernel
theorem lw_d_run : yL_run.cls ≠ "java/lang/invoke/MethodHandle" ∧ yL_run.cls ≠ "java/lang/invoke/VarHandle" ∧ (parseMethodDescriptor yL_run.desc).map (fun d => d.parameters.length) = some 3 := by decide +kernel
theorem lw_d_lay : yL_lay.cls ≠ "java/lang/invoke/MethodHandle" ∧ yL_lay.cls ≠ "java/lang/invoke/VarHandle" ∧ (parseMethodDescriptor yL_lay.desc).map (fun d => d.parameters.length) = some 5 := by decide +kernel
theorem lw_d_take : yL_take.cls ≠ "java/lang/invoke/MethodHandle" ∧ yL_take.cls ≠ "java/lang/invoke/VarHandle" ∧ (parseMethodDescriptor yL_take.desc).map (fun d => d.parameters.length) = some 3 := by decide +kernel
theorem lw_d_look : yL_look.cls ≠ "java/lang/invoke/MethodHandle" ∧ yL_look.cls ≠ "java/lang/invoke/VarHandle" ∧ (parseMethodDescriptor yL_look.desc).map (fun d => d.parameters.length) = some 3 := by decide +kernel
theorem lw_d_years : yL_years.cls ≠ "java/lang/invoke/MethodHandle" ∧ yL_years.cls ≠ "java/lang/invoke/VarHandle" ∧ (parseMethodDescriptor yL_years.desc).map (fun d => d.parameters.length) = some 5 := by decide +kernel
