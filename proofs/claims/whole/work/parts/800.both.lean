/-! Call by call: the class's answer is the reference's, and both bear what is behind it. -/
def LInv (C : AmC) (B : Big) : Prop := BigOK B ∧ (∃ s, CI C s B) ∧ ∃ h, MI C h B ∧ Lo C h (bS B)
theorem MI.ge {C C' : AmC} {h : Nat} {B : Big} (hB : BigOK B) (hM : MI C h B) (F1 : PInv C') (F3 : ∀ b, 145 ≤ b → cI C' b = cI C b) : MI C' h B := by
  obtain ⟨h1, h2, h3, h4, h5, h6, h7⟩ := hM
  have e145 := F3 145 (by omega)
  have e146 := F3 146 (by omega)
  have e4 := And.intro (F3 147 (by omega)) (And.intro (F3 148 (by omega)) (And.intro (F3 149 (by omega)) (F3 150 (by omega))))
  have c4 := hB.1.2.1
  exact ⟨h1.of2 F1 (by rw [e145]) (fun a z1 z2 => F3 a (by omega)), by rw [e145]; exact h2, by rw [F3 178 (by omega)]; exact h3, by rw [e145]; exact h4, h5.of c4 (fun _ _ _ => by rw [e146]) (fun _ _ _ => by rw [e146]) (fun _ _ _ => by rw [e145]) e4, by rw [e145]; exact h6, fun y hy => (h7 y hy).of c4 (fun _ _ _ => by rw [e146]) (fun _ _ _ => by rw [e146]) (fun _ _ _ => by rw [e145]) e4⟩
section
variable {C : AmC} {B B' : Big}
/-- a call that asks -/
theorem b_q {α : Type} {fK : AmC → Option (α × AmC)} {fM : AmC → Option (Int32 × AmC)} {A : α} {P : AmC → Int32 → Prop} (hI : LInv C B) (h1 : ∀ s, CI C s B → Rt (fK C) (fun z C' => z = A ∧ FrC C C')) (h2 : ∀ C1 h, MI C1 h B → Rt (fM C1) (fun z C' => P C' z ∧ FrR C1 C')) : ∃ C1 z C2, fK C = some (A, C1) ∧ fM C1 = some (z, C2) ∧ P C2 z ∧ LInv C2 B := by
  obtain ⟨hB, ⟨s, hC⟩, h, hM, hL⟩ := hI
  obtain ⟨r, C1, e1, rfl, F⟩ := h1 s hC
  obtain ⟨z, C2, e2, hP, G⟩ := h2 C1 h (hM.fr hB F)
  exact ⟨C1, z, C2, e1, e2, hP, hB, ⟨s, (hC.fr hB F).frR hB G⟩, h, (hM.fr hB F).frR hB G, (hL.of (fun b x y => F.2.2.1 b (by omega))).of (fun b x y => G.o b (Or.inr ⟨x, y⟩))⟩
/-- a call that acts -/
theorem b_u {α : Type} {fK : AmC → Option (α × AmC)} {fM : AmC → Option (Int32 × AmC)} {A : α} {P : AmC → Int32 → Prop} (hI : LInv C B) (hB' : BigOK B') (hS : bS B' = bS B) (h1 : ∀ s, CI C s B → Rt (fK C) (fun z C' => z = A ∧ CI C' s B' ∧ ∀ b, 145 ≤ b → cI C' b = cI C b)) (h2 : ∀ C1 h, MI C1 h B → Rt (fM C1) (fun z C' => P C' z ∧ MI C' h B' ∧ cP C' = cP C1 ∧ ∀ b, b < 145 ∨ (151 ≤ b ∧ b ≤ 177) → cI C' b = cI C1 b)) : ∃ C1 z C2, fK C = some (A, C1) ∧ fM C1 = some (z, C2) ∧ P C2 z ∧ LInv C2 B' := by
  obtain ⟨hB, ⟨s, hC⟩, h, hM, hL⟩ := hI
  obtain ⟨r, C1, e1, rfl, hC1, F⟩ := h1 s hC
  obtain ⟨z, C2, e2, hP, hM2, p, G⟩ := h2 C1 h (hM.ge hB hC1.1 F)
  refine ⟨C1, z, C2, e1, e2, hP, hB', ⟨s, hC1.cells hB' p (fun b x => G b (Or.inl (by omega)))⟩, h, hM2, ?_⟩
  rw [hS]
  exact (hL.of (fun b x y => F b (by omega))).of (fun b x y => G b (Or.inr ⟨x, y⟩))
/-- the same of calls that answer nothing -/
theorem b_v {fK : AmC → Option (Unit × AmC)} {fM : AmC → Option (Unit × AmC)} (hI : LInv C B) (hB' : BigOK B') (hS : bS B' = bS B) (h1 : ∀ s, CI C s B → Rt (fK C) (fun _ C' => CI C' s B' ∧ ∀ b, 145 ≤ b → cI C' b = cI C b)) (h2 : ∀ C1 h, MI C1 h B → Rt (fM C1) (fun _ C' => MI C' h B' ∧ cP C' = cP C1 ∧ ∀ b, b < 145 ∨ (151 ≤ b ∧ b ≤ 177) → cI C' b = cI C1 b)) : ∃ C1 C2, fK C = some ((), C1) ∧ fM C1 = some ((), C2) ∧ LInv C2 B' := by
  obtain ⟨hB, ⟨s, hC⟩, h, hM, hL⟩ := hI
  obtain ⟨r, C1, e1, hC1, F⟩ := h1 s hC
  obtain ⟨z, C2, e2, hM2, p, G⟩ := h2 C1 h (hM.ge hB hC1.1 F)
  refine ⟨C1, C2, e1, e2, hB', ⟨s, hC1.cells hB' p (fun b x => G b (Or.inl (by omega)))⟩, h, hM2, ?_⟩
  rw [hS]
  exact (hL.of (fun b x y => F b (by omega))).of (fun b x y => G b (Or.inr ⟨x, y⟩))
end
/-- a call that may throw -/
def LCase (K M : Nat) (is : List Int32) (hx : Nat → Int32) (ok : Nat → Prop) (C : AmC) : Prop := ∃ (A : Int32 ⊕ Nat) (C1 C2 : AmC) (z : Int32) (B' : Big), En false K 0 (lv_args 0 (.ref 0 :: is.map Value.int)) [] (mkM C) (ovI A) (mkM C1) ∧ (∀ n, A = .inr n → ok n) ∧ En false M 0 (lv_args 0 (.ref 145 :: is.map Value.int)) [] (mkM C1) (.inl (some (.int z))) (mkM C2) ∧ (∀ v, A = .inl v → cI C2 145 5 = 0 ∧ z = v) ∧ (∀ n, A = .inr n → cI C2 145 5 = hx n) ∧ LInv C2 B'
/-- one that doesn't -/
def LDir (K M : Nat) (is : List Int32) (C : AmC) : Prop := ∃ (r : Int32) (C1 C2 : AmC) (B' : Big), En false K 0 (lv_args 0 (.ref 0 :: is.map Value.int)) [] (mkM C) (.inl (some (.int r))) (mkM C1) ∧ En false M 0 (lv_args 0 (.ref 145 :: is.map Value.int)) [] (mkM C1) (.inl (some (.int r))) (mkM C2) ∧ LInv C2 B'
def LVoid (K M : Nat) (C : AmC) : Prop := ∃ (C1 C2 : AmC) (B' : Big), En false K 0 (lv_args 0 [.ref 0]) [] (mkM C) (.inl none) (mkM C1) ∧ En false M 0 (lv_args 0 [.ref 145]) [] (mkM C1) (.inl none) (mkM C2) ∧ LInv C2 B'
theorem l_case {K M : Nat} {is : List Int32} {hx : Nat → Int32} {ok : Nat → Prop} {C : AmC} {A : Int32 ⊕ Nat} {B' : Big} (h : ∃ C1 z C2, En false K 0 (lv_args 0 (.ref 0 :: is.map Value.int)) [] (mkM C) (ovI A) (mkM C1) ∧ En false M 0 (lv_args 0 (.ref 145 :: is.map Value.int)) [] (mkM C1) (.inl (some (.int z))) (mkM C2) ∧ An C2 z A ∧ LInv C2 B') (hok : ∀ n, A = .inr n → ok n ∧ nI (n + 1) = hx n) : LCase K M is hx ok C := by
  obtain ⟨C1, z, C2, e1, e2, hA, hI⟩ := h
  refine ⟨A, C1, C2, z, B', e1, fun n hn => (hok n hn).1, e2, fun v hv => ?_, fun n hn => ?_, hI⟩
  · subst hv
    exact hA
  · have := (hok n hn).2
    subst hn
    rw [← this]
    exact hA
theorem hx_0 : ∀ {A : Int32 ⊕ Nat}, (∀ n, A = .inr n → n = 0) → ∀ n, A = .inr n → n = 0 ∧ nI (n + 1) = hx1 n := fun h n hn => ⟨h n hn, by rw [h n hn]; rfl⟩
section
variable {C : AmC} {B : Big}
theorem s0_count (a1 : Int32) : ∀ n, sCnt B a1 = .inr n → n = 0 := by
  intro n h
  unfold sCnt at h
  (repeat' split at h) <;> first | (cases h; done) | (cases h; rfl)
theorem l_count (hI : LInv C B) (a1 : Int32) : LCase 121 245 [a1] hx1 (fun n => n = 0) C := by
  have hB := hI.1
  obtain ⟨C1, z, C2, e1, e2, hA, h3⟩ := b_q (fK := f_121 10000 0 a1) (fM := f_245 10000 145 a1) (A := sCnt B a1) (P := fun C' z => An C' z (sCnt B a1)) hI (fun s hC => rt_mono (q121 hC a1) (fun r C1 w => ⟨w.1, by rw [w.2]; exact FrC.refl hC.1⟩)) (fun C1 h hM => q245 hM hB (by decide) a1)
  exact l_case (B' := B) ⟨C1, z, C2, t_121 e1, t_245 e2, hA, h3⟩ (hx_0 (s0_count a1))
theorem s0_cell (a1 a2 : Int32) : ∀ n, sCel B a1 a2 = .inr n → n = 0 := by
  intro n h
  unfold sCel at h
  (repeat' split at h) <;> first | (cases h; done) | (cases h; rfl)
theorem l_cell (hI : LInv C B) (a1 a2 : Int32) : LCase 122 247 [a1, a2] hx1 (fun n => n = 0) C := by
  have hB := hI.1
  obtain ⟨C1, z, C2, e1, e2, hA, h3⟩ := b_q (fK := f_122 10000 0 a1 a2) (fM := f_247 10000 145 a1 a2) (A := sCel B a1 a2) (P := fun C' z => An C' z (sCel B a1 a2)) hI (fun s hC => ⟨_, _, q122 hC hB a1 a2, rfl, FrC.refl hC.1⟩) (fun C1 h hM => q247 hM hB a1 a2)
  exact l_case (B' := B) ⟨C1, z, C2, t_122 e1, t_247 e2, hA, h3⟩ (hx_0 (s0_cell a1 a2))
theorem s0_along (a1 a2 : Int32) : ∀ n, sAlg B a1 a2 = .inr n → n = 0 := by
  intro n h
  unfold sAlg at h
  (repeat' split at h) <;> first | (cases h; done) | (cases h; rfl)
theorem l_along (hI : LInv C B) (a1 a2 : Int32) : LCase 123 249 [a1, a2] hx1 (fun n => n = 0) C := by
  have hB := hI.1
  obtain ⟨C1, z, C2, e1, e2, hA, h3⟩ := b_q (fK := f_123 10000 0 a1 a2) (fM := f_249 10000 145 a1 a2) (A := sAlg B a1 a2) (P := fun C' z => An C' z (sAlg B a1 a2)) hI (fun s hC => q123 hC hB (by decide) a1 a2) (fun C1 h hM => q249 hM hB (by decide) a1 a2)
  exact l_case (B' := B) ⟨C1, z, C2, t_123 e1, t_249 e2, hA, h3⟩ (hx_0 (s0_along a1 a2))
theorem s0_right (a1 a2 : Int32) : ∀ n, sRgt B a1 a2 = .inr n → n = 0 := by
  intro n h
  unfold sRgt at h
  (repeat' split at h) <;> first | (cases h; done) | (cases h; rfl)
theorem l_right (hI : LInv C B) (a1 a2 : Int32) : LCase 124 251 [a1, a2] hx1 (fun n => n = 0) C := by
  have hB := hI.1
  obtain ⟨C1, z, C2, e1, e2, hA, h3⟩ := b_q (fK := f_124 10000 0 a1 a2) (fM := f_251 10000 145 a1 a2) (A := sRgt B a1 a2) (P := fun C' z => An C' z (sRgt B a1 a2)) hI (fun s hC => q124 hC hB (by decide) a1 a2) (fun C1 h hM => q251 hM hB (by decide) a1 a2)
  exact l_case (B' := B) ⟨C1, z, C2, t_124 e1, t_251 e2, hA, h3⟩ (hx_0 (s0_right a1 a2))
theorem s0_plan (a1 a2 a3 : Int32) : ∀ n, sPln B a1 a2 a3 = .inr n → n = 0 := by
  intro n h
  unfold sPln at h
  (repeat' split at h) <;> first | (cases h; done) | (cases h; rfl)
theorem l_plan (hI : LInv C B) (a1 a2 a3 : Int32) : LCase 125 252 [a1, a2, a3] hx1 (fun n => n = 0) C := by
  have hB := hI.1
  obtain ⟨C1, z, C2, e1, e2, hA, h3⟩ := b_q (fK := f_125 10000 0 a1 a2 a3) (fM := f_252 10000 145 a1 a2 a3) (A := sPln B a1 a2 a3) (P := fun C' z => An C' z (sPln B a1 a2 a3)) hI (fun s hC => q125 hC hB (by decide) a1 a2 a3) (fun C1 h hM => q252 hM hB (by decide) a1 a2 a3)
  exact l_case (B' := B) ⟨C1, z, C2, t_125 e1, t_252 e2, hA, h3⟩ (hx_0 (s0_plan a1 a2 a3))
theorem s0_goes (a1 a2 a3 a4 : Int32) : ∀ n, sGoe B a1 a2 a3 a4 = .inr n → n = 0 := by
  intro n h
  unfold sGoe at h
  (repeat' split at h) <;> first | (cases h; done) | (cases h; rfl)
theorem l_goes (hI : LInv C B) (a1 a2 a3 a4 : Int32) : LCase 126 257 [a1, a2, a3, a4] hx1 (fun n => n = 0) C := by
  have hB := hI.1
  obtain ⟨C1, z, C2, e1, e2, hA, h3⟩ := b_q (fK := f_126 10000 0 a1 a2 a3 a4) (fM := f_257 10000 145 a1 a2 a3 a4) (A := sGoe B a1 a2 a3 a4) (P := fun C' z => An C' z (sGoe B a1 a2 a3 a4)) hI (fun s hC => q126 hC hB (by decide) a1 a2 a3 a4) (fun C1 h hM => q257 hM hB (by decide) a1 a2 a3 a4)
  exact l_case (B' := B) ⟨C1, z, C2, t_126 e1, t_257 e2, hA, h3⟩ (hx_0 (s0_goes a1 a2 a3 a4))
theorem s0_wrongPaths (a1 : Int32) : ∀ n, sWro B a1 = .inr n → n = 0 := by
  intro n h
  unfold sWro at h
  (repeat' split at h) <;> first | (cases h; done) | (cases h; rfl)
theorem l_wrongPaths (hI : LInv C B) (a1 : Int32) : LCase 127 258 [a1] hx1 (fun n => n = 0) C := by
  have hB := hI.1
  obtain ⟨C1, z, C2, e1, e2, hA, h3⟩ := b_q (fK := f_127 10000 0 a1) (fM := f_258 10000 145 a1) (A := sWro B a1) (P := fun C' z => An C' z (sWro B a1)) hI (fun s hC => q127 hC hB (by decide) a1) (fun C1 h hM => q258 hM hB (by decide) a1)
  exact l_case (B' := B) ⟨C1, z, C2, t_127 e1, t_258 e2, hA, h3⟩ (hx_0 (s0_wrongPaths a1))
theorem s0_cheapest (a1 a2 : Int32) : ∀ n, sChp B a1 a2 = .inr n → n = 0 := by
  intro n h
  unfold sChp at h
  (repeat' split at h) <;> first | (cases h; done) | (cases h; rfl)
theorem l_cheapest (hI : LInv C B) (a1 a2 : Int32) : LCase 128 259 [a1, a2] hx1 (fun n => n = 0) C := by
  have hB := hI.1
  obtain ⟨C1, z, C2, e1, e2, hA, h3⟩ := b_q (fK := f_128 10000 0 a1 a2) (fM := f_259 10000 145 a1 a2) (A := sChp B a1 a2) (P := fun C' z => An C' z (sChp B a1 a2)) hI (fun s hC => q128 hC hB (by decide) a1 a2) (fun C1 h hM => q259 hM hB (by decide) a1 a2)
  exact l_case (B' := B) ⟨C1, z, C2, t_128 e1, t_259 e2, hA, h3⟩ (hx_0 (s0_cheapest a1 a2))
theorem s0_clashes (a1 : Int32) : ∀ n, sCls B a1 = .inr n → n = 0 := by
  intro n h
  unfold sCls at h
  (repeat' split at h) <;> first | (cases h; done) | (cases h; rfl)
theorem l_clashes (hI : LInv C B) (a1 : Int32) : LCase 129 265 [a1] hx1 (fun n => n = 0) C := by
  have hB := hI.1
  obtain ⟨C1, z, C2, e1, e2, hA, h3⟩ := b_q (fK := f_129 10000 0 a1) (fM := f_265 10000 145 a1) (A := sCls B a1) (P := fun C' z => An C' z (sCls B a1)) hI (fun s hC => q129 hC hB (by decide) a1) (fun C1 h hM => q265 hM hB (by decide) a1)
  exact l_case (B' := B) ⟨C1, z, C2, t_129 e1, t_265 e2, hA, h3⟩ (hx_0 (s0_clashes a1))
theorem s0_order (a1 a2 : Int32) : ∀ n, sOrd B a1 a2 = .inr n → n = 0 := by
  intro n h
  unfold sOrd at h
  (repeat' split at h) <;> first | (cases h; done) | (cases h; rfl)
theorem l_order (hI : LInv C B) (a1 a2 : Int32) : LCase 130 268 [a1, a2] hx1 (fun n => n = 0) C := by
  have hB := hI.1
  obtain ⟨C1, z, C2, e1, e2, hA, h3⟩ := b_q (fK := f_130 10000 0 a1 a2) (fM := f_268 10000 145 a1 a2) (A := sOrd B a1 a2) (P := fun C' z => An C' z (sOrd B a1 a2)) hI (fun s hC => q130 hC hB (by decide) a1 a2) (fun C1 h hM => q268 hM hB (by decide) a1 a2)
  exact l_case (B' := B) ⟨C1, z, C2, t_130 e1, t_268 e2, hA, h3⟩ (hx_0 (s0_order a1 a2))
theorem s0_look (a1 : Int32) : ∀ n, sLok B a1 = .inr n → n = 0 := by
  intro n h
  unfold sLok at h
  (repeat' split at h) <;> first | (cases h; done) | (cases h; rfl)
theorem l_look (hI : LInv C B) (a1 : Int32) : LCase 137 281 [a1] hx1 (fun n => n = 0) C := by
  have hB := hI.1
  obtain ⟨C1, z, C2, e1, e2, hA, h3⟩ := b_q (fK := f_137 10000 0 a1) (fM := f_281 10000 145 a1) (A := sLok B a1) (P := fun C' z => An C' z (sLok B a1)) hI (fun s hC => q137 hC hB (by decide) a1) (fun C1 h hM => q281 hM hB (by decide) a1)
  exact l_case (B' := B) ⟨C1, z, C2, t_137 e1, t_281 e2, hA, h3⟩ (hx_0 (s0_look a1))
theorem s0_years (a1 a2 a3 : Int32) : ∀ n, sYrs B a1 a2 a3 = .inr n → n = 0 ∨ n = 1 := by
  intro n h
  unfold sYrs at h
  (repeat' split at h) <;> first | (cases h; done) | (cases h; first | exact Or.inl rfl | exact Or.inr rfl)
theorem l_years (hI : LInv C B) (a1 a2 a3 : Int32) : LCase 139 285 [a1, a2, a3] hxy (fun n => n = 0 ∨ n = 1) C := by
  have hB := hI.1
  obtain ⟨C1, z, C2, e1, e2, hA, h3⟩ := b_q (fK := f_139 10000 0 a1 a2 a3) (fM := f_285 10000 145 a1 a2 a3) (A := sYrs B a1 a2 a3) (P := fun C' z => An C' z (sYrs B a1 a2 a3)) hI (fun s hC => q139 hC hB (by decide) a1 a2 a3) (fun C1 h hM => q285 hM hB (by decide) a1 a2 a3)
  exact l_case (B' := B) ⟨C1, z, C2, t_139 e1, t_285 e2, hA, h3⟩ (fun n hn => ⟨s0_years a1 a2 a3 n hn, rfl⟩)
theorem s0_run (a1 : Int32) : ∀ n, sRunA B a1 = .inr n → n = 0 := by
  intro n h
  unfold sRunA at h
  (repeat' split at h) <;> first | (cases h; done) | (cases h; rfl)
theorem l_run (hI : LInv C B) (a1 : Int32) : LCase 131 272 [a1] hx1 (fun n => n = 0) C := by
  have hB := hI.1
  have ok : StaOK (bS B) (sRunZ B a1) := by
    obtain ⟨s, hC⟩ := hI.2.1
    obtain ⟨r, C1, _, w⟩ := q131 (n := 10000) hC hB (by decide) a1
    exact w.2.2.2
  obtain ⟨C1, z, C2, e1, e2, hA, h3⟩ := b_u (B' := bUp B (sRunZ B a1)) (fK := f_131 10000 0 a1) (fM := f_272 10000 145 a1) (A := sRunA B a1) (P := fun C' z => An C' z (sRunA B a1)) hI (hB.up ok) rfl (fun s hC => rt_mono (q131 hC hB (by decide) a1) (fun r C1 w => ⟨w.1, w.2.1, w.2.2.1⟩)) (fun C1 h hM => q272 hM hB (by decide) a1)
  exact l_case ⟨C1, z, C2, t_131 e1, t_272 e2, hA, h3⟩ (hx_0 (s0_run a1))
theorem s0_lay (a1 a2 a3 : Int32) : ∀ n, sLayA B a1 a2 a3 = .inr n → n = 0 := by
  intro n h
  unfold sLayA at h
  (repeat' split at h) <;> first | (cases h; done) | (cases h; rfl)
theorem l_lay (hI : LInv C B) (a1 a2 a3 : Int32) : LCase 132 274 [a1, a2, a3] hx1 (fun n => n = 0) C := by
  have hB := hI.1
  have ok : StaOK (bS B) (sLayZ B a1 a2 a3) := sLay_ok hB
  obtain ⟨C1, z, C2, e1, e2, hA, h3⟩ := b_u (B' := bUp B (sLayZ B a1 a2 a3)) (fK := f_132 10000 0 a1 a2 a3) (fM := f_274 10000 145 a1 a2 a3) (A := sLayA B a1 a2 a3) (P := fun C' z => An C' z (sLayA B a1 a2 a3)) hI (hB.up ok) rfl (fun s hC => q132 hC hB (by decide) a1 a2 a3) (fun C1 h hM => q274 hM hB (by decide) a1 a2 a3)
  exact l_case ⟨C1, z, C2, t_132 e1, t_274 e2, hA, h3⟩ (hx_0 (s0_lay a1 a2 a3))
theorem s0_take (a1 : Int32) : ∀ n, sTakA B a1 = .inr n → n = 0 := by
  intro n h
  unfold sTakA at h
  (repeat' split at h) <;> first | (cases h; done) | (cases h; rfl)
theorem l_take (hI : LInv C B) (a1 : Int32) : LCase 133 275 [a1] hx1 (fun n => n = 0) C := by
  have hB := hI.1
  have ok : StaOK (bS B) (sTakZ B a1) := by
    obtain ⟨s, hC⟩ := hI.2.1
    obtain ⟨r, C1, _, w⟩ := q133 (n := 10000) hC hB a1
    exact w.2.2.2
  obtain ⟨C1, z, C2, e1, e2, hA, h3⟩ := b_u (B' := bUp B (sTakZ B a1)) (fK := f_133 10000 0 a1) (fM := f_275 10000 145 a1) (A := sTakA B a1) (P := fun C' z => An C' z (sTakA B a1)) hI (hB.up ok) rfl (fun s hC => rt_mono (q133 hC hB a1) (fun r C1 w => ⟨w.1, w.2.1, w.2.2.1⟩)) (fun C1 h hM => q275 hM hB (by decide) a1)
  exact l_case ⟨C1, z, C2, t_133 e1, t_275 e2, hA, h3⟩ (hx_0 (s0_take a1))
theorem s0_table (a1 : Int32) : ∀ n, (sTab B a1).1 = .inr n → n = 1 := by
  intro n h
  unfold sTab at h
  split at h
  · cases h; rfl
  · unfold sTb at h
    split at h <;> cases h
theorem l_table (hI : LInv C B) (a1 : Int32) : LCase 119 189 [a1] hx1 (fun n => n = 1) C := by
  obtain ⟨hB, ⟨s, hC⟩, h, hM, hL⟩ := hI
  obtain ⟨r, C1, e1, rfl, ⟨s', hC1⟩, hB1, F⟩ := q119 (n := 10000) hC hB (by decide) a1
  obtain ⟨z, C2, e2, hA, ⟨h', hM2, hL2⟩, p, G⟩ := q189 (n := 10000) (hM.ge hB hC1.1 F) (hL.of (fun b x y => F b (by omega))) hB (by decide) a1
  refine ⟨(sTab B a1).1, C1, C2, z, (sTab B a1).2, t_119 e1, s0_table a1, t_189 e2, fun v hv => ?_, fun n hn => ?_, hB1, ⟨s', hC1.cells hB1 p (fun b x => G b (by omega))⟩, h', hM2, hL2⟩
  · rw [hv] at hA
    exact hA
  · rw [hn] at hA
    exact hA
theorem l_feed (hI : LInv C B) (a1 a2 a3 a4 a5 : Int32) : LDir 118 188 [a1, a2, a3, a4, a5] C := by
  have hB := hI.1
  obtain ⟨C1, z, C2, e1, e2, rfl, h3⟩ := b_u (B' := bFed B a1 a2 a3 a4 a5) (fK := f_118 10000 0 a1 a2 a3 a4 a5) (fM := f_188 10000 145 a1 a2 a3 a4 a5) (A := sFed B) (P := fun _ z => z = sFed B) hI (bFed_ok hB) (by unfold bFed; split <;> rfl) (fun s hC => q118 hC hB (by decide) a1 a2 a3 a4 a5) (fun C1 h hM => q188 hM hB (by decide) a1 a2 a3 a4 a5)
  exact ⟨_, C1, C2, _, t_118 e1, t_188 e2, h3⟩
theorem l_fault (hI : LInv C B) : LDir 120 190 [] C := by
  have hB := hI.1
  obtain ⟨C1, z, C2, e1, e2, rfl, h3⟩ := b_q (fK := f_120 10000 0) (fM := f_190 10000 145) (A := bF B) (P := fun _ z => z = bF B) hI (fun s hC => ⟨_, _, q120 hC, rfl, FrC.refl hC.1⟩) (fun C1 h hM => q190 hM hB)
  exact ⟨_, C1, C2, _, t_120 e1, t_190 e2, h3⟩
theorem l_undo (hI : LInv C B) : LDir 134 276 [] C := by
  have hB := hI.1
  obtain ⟨C1, z, C2, e1, e2, rfl, h3⟩ := b_u (B' := bUp B (sUndZ B)) (fK := f_134 10000 0) (fM := f_276 10000 145) (A := sUndA B) (P := fun _ z => z = sUndA B) hI (hB.up (sUnd_ok hB)) rfl (fun s hC => q134 hC hB) (fun C1 h hM => q276 hM hB (by decide))
  exact ⟨_, C1, C2, _, t_134 e1, t_276 e2, h3⟩
theorem l_see (hI : LInv C B) (a1 a2 a3 : Int32) : LDir 135 277 [a1, a2, a3] C := by
  have hB := hI.1
  obtain ⟨C1, z, C2, e1, e2, rfl, h3⟩ := b_u (B' := bUp B (sSeeZ B a1 a2 a3)) (fK := f_135 10000 0 a1 a2 a3) (fM := f_277 10000 145 a1 a2 a3) (A := sSeeA B a1 a2 a3) (P := fun _ z => z = sSeeA B a1 a2 a3) hI (hB.up (sSee_ok hB)) rfl (fun s hC => q135 hC hB a1 a2 a3) (fun C1 h hM => q277 hM hB a1 a2 a3)
  exact ⟨_, C1, C2, _, t_135 e1, t_277 e2, h3⟩
theorem l_fits (hI : LInv C B) : LDir 136 280 [] C := by
  have hB := hI.1
  obtain ⟨C1, z, C2, e1, e2, rfl, h3⟩ := b_q (fK := f_136 10000 0) (fM := f_280 10000 145) (A := sFit B) (P := fun _ z => z = sFit B) hI (fun s hC => q136 hC hB (by decide)) (fun C1 h hM => rt_mono (q280 hM hB (by decide)) (fun r C2 w => ⟨w.1, w.2.1⟩))
  exact ⟨_, C1, C2, _, t_136 e1, t_280 e2, h3⟩
theorem l_restore (hI : LInv C B) : LDir 141 287 [] C := by
  have hB := hI.1
  obtain ⟨C1, z, C2, e1, e2, rfl, h3⟩ := b_u (B' := bRes B) (fK := f_141 10000 0) (fM := f_287 10000 145) (A := if (bI B).isSome = true then (1 : Int32) else 0) (P := fun _ z => z = if (bI B).isSome = true then (1 : Int32) else 0) hI (bRes_ok hB) (by unfold bRes; split <;> rfl) (fun s hC => q141 hC hB) (fun C1 h hM => q287 hM hB (by decide))
  exact ⟨_, C1, C2, _, t_141 e1, t_287 e2, h3⟩
theorem l_forget (hI : LInv C B) : LVoid 138 283 C := by
  have hB := hI.1
  obtain ⟨C1, C2, e1, e2, h3⟩ := b_v (B' := bUp B (zT (bZ B), zH (bZ B), [], zR (bZ B))) (fK := f_138 10000 0) (fM := f_283 10000 145) hI (hB.up ⟨hB.2.2.2.1.1, hB.2.2.2.1.2.1, hB.2.2.2.1.2.2.1, Nat.zero_le _, fun _ h => nomatch h⟩) rfl (fun s hC => q138 hC hB) (fun C1 h hM => q283 hM hB)
  exact ⟨C1, C2, _, t_138 e1, t_283 e2, h3⟩
theorem l_image (hI : LInv C B) : LVoid 140 286 C := by
  have hB := hI.1
  obtain ⟨C1, C2, e1, e2, h3⟩ := b_v (B' := bImg B) (fK := f_140 10000 0) (fM := f_286 10000 145) hI (bImg_ok hB) rfl (fun s hC => q140 hC hB) (fun C1 h hM => q286 hM hB (by decide))
  exact ⟨C1, C2, _, t_140 e1, t_286 e2, h3⟩
/-- thrown() -/
theorem l_thrown : En false 161 0 (lv_args 0 [.ref 145]) [] (mkM C) (.inl (some (.int (cI C 145 5)))) (mkM C) := t_161 (n := 0) (by unfold f_161; rw [if_pos (by decide)])
end
