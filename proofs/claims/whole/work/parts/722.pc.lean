/-! The class's parser: where it stands, and what it reads. -/
theorem tk_eq {k c : Nat} (hk : k < 256) (hc : c < 256) : (nI k = nI c) ↔ k = c := x_eq (by omega) (by omega)
theorem tq_42 {x : Nat → Nat} {N i : Nat} : (nI (tK x N i) = (42 : Int32)) ↔ tK x N i = 42 := tk_eq (c := 42) (tK_lt i) (by decide)
theorem tq_43 {x : Nat → Nat} {N i : Nat} : (nI (tK x N i) = (43 : Int32)) ↔ tK x N i = 43 := tk_eq (c := 43) (tK_lt i) (by decide)
theorem tq_44 {x : Nat → Nat} {N i : Nat} : (nI (tK x N i) = (44 : Int32)) ↔ tK x N i = 44 := tk_eq (c := 44) (tK_lt i) (by decide)
theorem tq_45 {x : Nat → Nat} {N i : Nat} : (nI (tK x N i) = (45 : Int32)) ↔ tK x N i = 45 := tk_eq (c := 45) (tK_lt i) (by decide)
theorem tq_59 {x : Nat → Nat} {N i : Nat} : (nI (tK x N i) = (59 : Int32)) ↔ tK x N i = 59 := tk_eq (c := 59) (tK_lt i) (by decide)
theorem tq_60 {x : Nat → Nat} {N i : Nat} : (nI (tK x N i) = (60 : Int32)) ↔ tK x N i = 60 := tk_eq (c := 60) (tK_lt i) (by decide)
theorem tq_61 {x : Nat → Nat} {N i : Nat} : (nI (tK x N i) = (61 : Int32)) ↔ tK x N i = 61 := tk_eq (c := 61) (tK_lt i) (by decide)
theorem tq_62 {x : Nat → Nat} {N i : Nat} : (nI (tK x N i) = (62 : Int32)) ↔ tK x N i = 62 := tk_eq (c := 62) (tK_lt i) (by decide)
theorem tq_128 {x : Nat → Nat} {N i : Nat} : (nI (tK x N i) = (128 : Int32)) ↔ tK x N i = 128 := tk_eq (c := 128) (tK_lt i) (by decide)
theorem tq_129 {x : Nat → Nat} {N i : Nat} : (nI (tK x N i) = (129 : Int32)) ↔ tK x N i = 129 := tk_eq (c := 129) (tK_lt i) (by decide)
theorem tq_130 {x : Nat → Nat} {N i : Nat} : (nI (tK x N i) = (130 : Int32)) ↔ tK x N i = 130 := tk_eq (c := 130) (tK_lt i) (by decide)
theorem tq_132 {x : Nat → Nat} {N i : Nat} : (nI (tK x N i) = (132 : Int32)) ↔ tK x N i = 132 := tk_eq (c := 132) (tK_lt i) (by decide)
theorem tq_200 {x : Nat → Nat} {N i : Nat} : (nI (tK x N i) = (200 : Int32)) ↔ tK x N i = 200 := tk_eq (c := 200) (tK_lt i) (by decide)
theorem tq_201 {x : Nat → Nat} {N i : Nat} : (nI (tK x N i) = (201 : Int32)) ↔ tK x N i = 201 := tk_eq (c := 201) (tK_lt i) (by decide)
theorem tq_202 {x : Nat → Nat} {N i : Nat} : (nI (tK x N i) = (202 : Int32)) ↔ tK x N i = 202 := tk_eq (c := 202) (tK_lt i) (by decide)
theorem tq_203 {x : Nat → Nat} {N i : Nat} : (nI (tK x N i) = (203 : Int32)) ↔ tK x N i = 203 := tk_eq (c := 203) (tK_lt i) (by decide)
theorem tq_204 {x : Nat → Nat} {N i : Nat} : (nI (tK x N i) = (204 : Int32)) ↔ tK x N i = 204 := tk_eq (c := 204) (tK_lt i) (by decide)
theorem tq_205 {x : Nat → Nat} {N i : Nat} : (nI (tK x N i) = (205 : Int32)) ↔ tK x N i = 205 := tk_eq (c := 205) (tK_lt i) (by decide)
theorem tq_206 {x : Nat → Nat} {N i : Nat} : (nI (tK x N i) = (206 : Int32)) ↔ tK x N i = 206 := tk_eq (c := 206) (tK_lt i) (by decide)
theorem tq_207 {x : Nat → Nat} {N i : Nat} : (nI (tK x N i) = (207 : Int32)) ↔ tK x N i = 207 := tk_eq (c := 207) (tK_lt i) (by decide)
theorem tq_208 {x : Nat → Nat} {N i : Nat} : (nI (tK x N i) = (208 : Int32)) ↔ tK x N i = 208 := tk_eq (c := 208) (tK_lt i) (by decide)
theorem tq_209 {x : Nat → Nat} {N i : Nat} : (nI (tK x N i) = (209 : Int32)) ↔ tK x N i = 209 := tk_eq (c := 209) (tK_lt i) (by decide)
theorem tq_210 {x : Nat → Nat} {N i : Nat} : (nI (tK x N i) = (210 : Int32)) ↔ tK x N i = 210 := tk_eq (c := 210) (tK_lt i) (by decide)
theorem tq_211 {x : Nat → Nat} {N i : Nat} : (nI (tK x N i) = (211 : Int32)) ↔ tK x N i = 211 := tk_eq (c := 211) (tK_lt i) (by decide)
theorem tq_212 {x : Nat → Nat} {N i : Nat} : (nI (tK x N i) = (212 : Int32)) ↔ tK x N i = 212 := tk_eq (c := 212) (tK_lt i) (by decide)
theorem tq_213 {x : Nat → Nat} {N i : Nat} : (nI (tK x N i) = (213 : Int32)) ↔ tK x N i = 213 := tk_eq (c := 213) (tK_lt i) (by decide)
theorem tq_214 {x : Nat → Nat} {N i : Nat} : (nI (tK x N i) = (214 : Int32)) ↔ tK x N i = 214 := tk_eq (c := 214) (tK_lt i) (by decide)
theorem tq_215 {x : Nat → Nat} {N i : Nat} : (nI (tK x N i) = (215 : Int32)) ↔ tK x N i = 215 := tk_eq (c := 215) (tK_lt i) (by decide)
theorem tq_216 {x : Nat → Nat} {N i : Nat} : (nI (tK x N i) = (216 : Int32)) ↔ tK x N i = 216 := tk_eq (c := 216) (tK_lt i) (by decide)

section
variable {n s i j N : Nat} {C C' : AmC} {x : Nat → Nat}
/-- the parser works at the script s and stands at token i -/
def Pc (C : AmC) (s : Nat) (x : Nat → Nat) (N i : Nat) : Prop := PInv C ∧ s ∈ scrL ∧ cP C 109 5 = some s ∧ TkC C x N ∧ cI C 109 4 = nI i ∧ Iok x N i ∧ cI C 109 6 = 0 ∧ cI C 109 7 = -1 ∧ N ≤ 900
theorem Pc.of (h : Pc C s x N i) (p : cP C' = cP C) (e : ∀ b, 109 ≤ b → b ≤ 112 → cI C' b = cI C b) : Pc C' s x N i := by
  obtain ⟨h1, h2, h3, ⟨M, h4⟩, h5, h6, h7, h8, h9⟩ := h
  refine ⟨h1.of p, h2, by rw [p]; exact h3, ⟨M, ?_⟩, by rw [e 109 (by omega) (by omega)]; exact h5, h6, by rw [e 109 (by omega) (by omega)]; exact h7, by rw [e 109 (by omega) (by omega)]; exact h8, h9⟩
  rw [e 109 (by omega) (by omega), e 110 (by omega) (by omega), e 111 (by omega) (by omega), e 112 (by omega) (by omega)]
  exact h4
theorem Pc.set {f : Nat} {v : Int32} (h : Pc C s x N i) (hf : 8 ≤ f) : Pc (uI C 109 f v) s x N i := by
  obtain ⟨h1, h2, h3, ⟨M, h4⟩, h5, h6, h7, h8, h9⟩ := h
  refine ⟨h1.of rfl, h2, h3, ⟨M, ?_⟩, by rw [r_I, if_neg (by omega)]; exact h5, h6, by rw [r_I, if_neg (by omega)]; exact h7, by rw [r_I, if_neg (by omega)]; exact h8, h9⟩
  rw [r_I, if_neg (by omega), r_In (by decide), r_In (by decide), r_In (by decide)]
  exact h4
theorem Pc.go (h : Pc C s x N i) (g : tK x N i ≠ 132) : Pc (uI C 109 4 ((cI C 109 4) + 1)) s x N (i + 1) := by
  obtain ⟨h1, h2, h3, ⟨M, h4⟩, h5, h6, h7, h8, h9⟩ := h
  refine ⟨h1.of rfl, h2, h3, ⟨M, ?_⟩, by rw [r_I, if_pos ⟨rfl, rfl⟩, h5, x_a1], h6.s g, by rw [r_I, if_neg (by omega)]; exact h7, by rw [r_I, if_neg (by omega)]; exact h8, h9⟩
  rw [r_I, if_neg (by omega), r_In (by decide), r_In (by decide), r_In (by decide)]
  exact h4
theorem Pc.m (h : Pc C s x N i) : ∃ M, i ≤ M ∧ M ≤ 900 ∧ cI C 109 3 = nI (M + 1) ∧ cI C 110 i = nI (tK x N i) ∧ cI C 111 i = nI (ps x N i) ∧ cI C 112 i = nI (tN x N i) := by
  obtain ⟨_, _, _, ⟨M, h1, h2, h3, _, h5⟩, _, h6, _⟩ := h
  have : i ≤ M := by
    by_cases g : i ≤ M
    · exact g
    · have := h6 M (by omega)
      omega
  exact ⟨M, this, h1, h2, h5 i this⟩
theorem c23 (h : Pc C s x N i) : f_23 n 109 C = some (nI (tK x N i), C) := by
  obtain ⟨M, h1, h2, h3, h4, h5, h6⟩ := h.m
  have h0 := h.2.2.2.2.1
  unfold f_23
  rw [if_pos k_109, h0, h3, if_neg (by rw [x_lt0 (by omega)]; exact id), if_neg (by rw [x_le (by omega) (by omega)]; omega), n_900, if_neg (by rw [x_lt (by omega) (by omega)]; omega), bd1 (w_109_0 h.1), if_pos k_110, l_110, if_pos ((x_in (by omega)).mpr (by omega)), x_cl (by omega), h4]
theorem c24 (h : Pc C s x N i) : f_24 n 109 C = some (nI (tN x N i), C) := by
  obtain ⟨M, h1, h2, h3, h4, h5, h6⟩ := h.m
  have h0 := h.2.2.2.2.1
  unfold f_24
  rw [if_pos k_109, h0, h3, if_neg (by rw [x_lt0 (by omega)]; exact id), if_neg (by rw [x_le (by omega) (by omega)]; omega), n_900, if_neg (by rw [x_lt (by omega) (by omega)]; omega), bd1 (w_109_2 h.1), if_pos k_112, l_112, if_pos ((x_in (by omega)).mpr (by omega)), x_cl (by omega), h6]
theorem c25 {v : Int32} (h : Pc C s x N i) : f_25 n 109 v C = some (0, uI (uI C 109 6 v) 109 7 (nI (ps x N i))) := by
  obtain ⟨M, h1, h2, h3, h4, h5, h6⟩ := h.m
  have h0 := h.2.2.2.2.1
  have h0' : cI (uI C 109 6 v) 109 4 = nI i := by rw [r_I, if_neg (by omega)]; exact h0
  have h3' : cI (uI C 109 6 v) 109 3 = nI (M + 1) := by rw [r_I, if_neg (by omega)]; exact h3
  have h5' : cI (uI C 109 6 v) 111 i = nI (ps x N i) := by rw [r_In (by decide)]; exact h5
  unfold f_25
  rw [if_pos k_109, h0', h3', if_neg (by rw [x_lt0 (by omega)]; exact id), if_neg (by rw [x_le (by omega) (by omega)]; omega), n_900, if_neg (by rw [x_lt (by omega) (by omega)]; omega), bd1 (show cP (uI C 109 6 v) 109 1 = some 111 from w_109_1 h.1), if_pos k_111, l_111, if_pos ((x_in (by omega)).mpr (by omega)), x_cl (by omega), h5']
/-- a fault is told -/
def Flt (C' : AmC) (x : Nat → Nat) (N k j : Nat) : Prop := 1 ≤ k ∧ k ≤ 4 ∧ cI C' 109 6 = nI k ∧ cI C' 109 7 = nI (ps x N j)
def PRc {α : Type} (C' : AmC) (z : Int32) (s : Nat) (x : Nat → Nat) (N : Nat) (r : PE α) (Q : α → Nat → Prop) : Prop :=
  (∃ k j, r = .inl (k, j) ∧ z = 0 ∧ Flt C' x N k j) ∨ ∃ a j, r = .inr (a, j) ∧ z = 1 ∧ Pc C' s x N j ∧ Q a j
/-- only the parser's own fields have changed -/
def FrPa (C C' : AmC) : Prop := Fr (fun b => b = 109) C C' ∧ cI C' 109 11 = cI C 109 11 ∧ cI C' 109 12 = cI C 109 12
theorem FrPa.refl (C : AmC) : FrPa C C := ⟨Fr.refl _ C, rfl, rfl⟩
theorem FrPa.trans {C1 C2 : AmC} (h : FrPa C C1) (g : FrPa C1 C2) : FrPa C C2 := ⟨h.1.trans g.1, g.2.1.trans h.2.1, g.2.2.trans h.2.2⟩
theorem FrPa.u {C1 : AmC} {f : Nat} {v : Int32} (h : FrPa C C1) (hf : f < 11) : FrPa C (uI C1 109 f v) := ⟨h.1.uI rfl, by rw [r_I, if_neg (by omega)]; exact h.2.1, by rw [r_I, if_neg (by omega)]; exact h.2.2⟩
theorem flt {v : Int32} {p k : Nat} (hk : 1 ≤ k ∧ k ≤ 4) (e : v = nI k) : Flt (uI (uI C 109 6 v) 109 7 (nI (ps x N p))) x N k p := ⟨hk.1, hk.2, by rw [r_I, if_neg (by omega), r_I, if_pos ⟨rfl, rfl⟩, e], by rw [r_I, if_pos ⟨rfl, rfl⟩]⟩
theorem bool_i {D : AmC} : (if (0 : Int32) = 0 ∨ (0 : Int32) = 1 then some ((0 : Int32), D) else none) = some (0, D) := if_pos (Or.inl rfl)
/-- it refuses -/
theorem c25r {α : Type} {v : Int32} {k : Nat} {Q : α → Nat → AmC → Prop} (h : Pc C s x N i) (hk : 1 ≤ k ∧ k ≤ 4) (e : v = nI k) (r : PE α) (er : r = .inl (k, i)) : Rt ((f_25 n 109 v C).bind (fun z => match z with | (q6, C7) => if q6 = 0 ∨ q6 = 1 then some (q6, C7) else none)) (fun z C' => FrPa C C' ∧ PRc C' z s x N r (fun a j => Q a j C')) := by
  rw [bd1 (c25 h)]
  dsimp only
  rw [bool_i]
  exact rt_ret ⟨((FrPa.refl C).u (by omega)).u (by omega), Or.inl ⟨k, i, er, rfl, flt hk e⟩⟩
theorem c26 {c : Nat} (h : Pc C s x N i) (hc : c < 256) (h1 : c ≠ 132) : Rt (f_26 n 109 (nI c) C) (fun z C' => FrPa C C' ∧ PRc C' z s x N (spP x N c i) (fun _ _ => True)) := by
  unfold f_26
  rw [if_pos k_109, bd1 (c23 h)]
  dsimp only
  by_cases e : tK x N i = c
  · rw [if_pos (by rw [e])]
    exact rt_ret ⟨(FrPa.refl C).u (by omega), Or.inr ⟨(), i + 1, by unfold spP; rw [if_pos e], rfl, h.go (by omega), trivial⟩⟩
  · rw [if_neg (by rw [tk_eq (tK_lt i) hc]; exact e)]
    exact c25r (k := 1) h (by omega) rfl _ (by unfold spP; rw [if_neg e])
theorem c30n (ng : Bool) (h : Pc C s x N j) : Rt ((f_23 n 109 C).bind (fun z => match z with | (q25, C26) => (if ¬ q25 = (129 : Int32) then (f_23 n 109 C26).bind (fun z => match z with | (q29, C30) => (if q29 = (128 : Int32) then (f_24 n 109 C30).bind (fun z => match z with | (q33, C34) => some ((1 : Int32), uI (uI C34 109 9 (if ng = true then -q33 else q33)) 109 4 ((cI (uI C34 109 9 (if ng = true then -q33 else q33)) 109 4) + (1 : Int32)))) else (f_25 n 109 (1 : Int32) C30).bind (fun z => match z with | (q36, C37) => if q36 = 0 ∨ q36 = 1 then some (q36, C37) else none))) else (f_25 n 109 (2 : Int32) C26).bind (fun z => match z with | (q40, C41) => if q40 = 0 ∨ q40 = 1 then some (q40, C41) else none)))) (fun z C' => FrPa C C' ∧ PRc C' z s x N (spN x N ng j) (fun v _ => cI C' 109 9 = v)) := by
  rw [bd1 (c23 h)]
  dsimp only
  by_cases e : tK x N j = 129
  · rw [if_neg (fun q => q (tq_129.mpr e))]
    exact c25r (k := 2) h (by omega) rfl _ (by unfold spN; rw [if_pos e])
  · rw [if_pos (fun q => e (tq_129.mp q)), bd1 (c23 h)]
    dsimp only
    by_cases e2 : tK x N j = 128
    · rw [if_pos (tq_128.mpr e2), bd1 (c24 h)]
      dsimp only
      refine rt_ret ⟨((FrPa.refl C).u (by omega)).u (by omega), Or.inr ⟨_, j + 1, by unfold spN; rw [if_neg e, if_pos e2], rfl, (h.set (by omega)).go (by omega), ?_⟩⟩
      rw [r_I, if_neg (by omega), r_I, if_pos ⟨rfl, rfl⟩]
    · rw [if_neg (fun q => e2 (tq_128.mp q))]
      exact c25r (k := 1) h (by omega) rfl _ (by unfold spN; rw [if_neg e, if_neg e2])
theorem c30 (h : Pc C s x N i) : Rt (f_30 n 109 C) (fun z C' => FrPa C C' ∧ PRc C' z s x N (spS x N i) (fun v _ => cI C' 109 9 = v)) := by
  unfold f_30 spS
  rw [if_pos k_109, bd1 (c23 h)]
  dsimp only
  by_cases e : tK x N i = 45
  · rw [if_neg (fun q => q (tq_45.mpr e)), if_pos e]
    exact rt_mono (c30n true (h.go (by omega))) (fun z D H => ⟨((FrPa.refl C).u (by omega)).trans H.1, H.2⟩)
  · rw [if_pos (fun q => e (tq_45.mp q)), if_neg e]
    exact c30n false h
theorem c31 {cols : Nat} (h : Pc C s x N i) (hc : cI C s 0 = nI cols) (h4 : cols ≤ 4) : Rt (f_31 n 109 C) (fun z C' => FrPa C C' ∧ PRc C' z s x N (spC x N cols i) (fun c _ => cI C' 109 8 = nI c)) := by
  have sk := sc_of h.1 h.2.1
  unfold f_31 spC
  rw [if_pos k_109, bd1 (c23 h)]
  dsimp only
  by_cases e : tK x N i = 130
  · rw [if_pos (tq_130.mpr e), if_pos e, bd1 (c24 h)]
    dsimp only
    have tl := tN_lt (x := x) (N := N) i
    rw [bd1 h.2.2.1, if_pos sk.1, hc]
    by_cases g : tN x N i < cols
    · rw [if_pos ((x_lt (by omega) (by omega)).mpr g), if_pos g, bd1 (c24 h)]
      dsimp only
      refine rt_ret ⟨((FrPa.refl C).u (by omega)).u (by omega), Or.inr ⟨_, i + 1, rfl, rfl, (h.set (by omega)).go (by omega), ?_⟩⟩
      rw [r_I, if_neg (by omega), r_I, if_pos ⟨rfl, rfl⟩]
    · rw [if_neg (by rw [x_lt (by omega) (by omega)]; exact g), if_neg g]
      exact c25r (k := 3) h (by omega) rfl _ rfl
  · rw [if_neg (fun q => e (tq_130.mp q)), if_neg e]
    exact c25r (k := 1) h (by omega) rfl _ rfl
end
