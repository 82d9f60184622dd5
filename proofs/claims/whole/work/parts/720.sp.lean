/-! What a text tells: the parser, as a mathematical value. A fault is its kind and the token at which it is. -/
abbrev PE (α : Type) : Type := (Nat × Nat) ⊕ (α × Nat)
section
variable (x : Nat → Nat) (N : Nat)
def Iok (i : Nat) : Prop := ∀ j, j < i → ps x N j < N
def spN (ng : Bool) (j : Nat) : PE Int32 := if tK x N j = 129 then .inl (2, j) else if tK x N j = 128 then .inr (if ng = true then -nI (tN x N j) else nI (tN x N j), j + 1) else .inl (1, j)
def spS (i : Nat) : PE Int32 := if tK x N i = 45 then spN x N true (i + 1) else spN x N false i
def spC (cols i : Nat) : PE Nat := if tK x N i = 130 then (if tN x N i < cols then .inr (tN x N i, i + 1) else .inl (3, i)) else .inl (1, i)
def spP (c i : Nat) : PE Unit := if tK x N i = c then .inr ((), i + 1) else .inl (1, i)
def spM (k : Nat) (r : PE Nat) : PE (Nat × Int32) := match r with
  | .inl e => .inl e
  | .inr (c, j) => .inr ((k, nI c), j)
def spM0 (r : PE Int32) : PE (Nat × Int32) := match r with
  | .inl e => .inl e
  | .inr (v, j) => .inr ((0, v), j)
def spA (oth col : Bool) (cols i : Nat) : PE (Nat × Int32) :=
  if tK x N i = 130 then (if col = true then spM 1 (spC x N cols i) else .inl (3, i))
  else if tK x N i = 202 then (if oth = true then spM 2 (spC x N cols (i + 1)) else .inl (3, i))
  else if tK x N i = 211 then spM 3 (spC x N cols (i + 1))
  else if tK x N i = 212 then spM 4 (spC x N cols (i + 1))
  else if tK x N i = 213 then spM 5 (spC x N cols (i + 1))
  else if tK x N i = 214 then .inr ((6, 0), i + 1)
  else spM0 (spS x N i)
def isOp (k : Nat) : Bool := decide (k = 43) || decide (k = 45) || decide (k = 42)
def spV (oth col : Bool) (cols : Nat) : Nat → Nat → Nat → Val → PE Val
  | 0, _, i, _ => .inl (0, i)
  | f + 1, sg, i, acc => match spA x N oth col cols i with
    | .inl e => .inl e
    | .inr (a, j) => if isOp (tK x N j) = true then spV oth col cols f (tK x N j) (j + 1) (acc ++ [(nI sg, a.1, a.2)]) else .inr (acc ++ [(nI sg, a.1, a.2)], j)
/-- a value -/
def spW (oth col : Bool) (cols i : Nat) : PE Val := spV x N oth col cols 901 43 i []
def ufn (f : Nat → Option Val) (c : Nat) (v : Val) : Nat → Option Val := fun d => if d = c then some v else f d
def spT (oth : Bool) (cols : Nat) : Nat → Nat → (Nat → Option Val) → PE (Nat → Option Val)
  | 0, i, _ => .inl (1, i)
  | f + 1, i, g => if tK x N i = 130 then (if tN x N i < cols ∧ g (tN x N i) = none then (if tK x N (i + 1) = 61 then (match spW x N oth true cols (i + 2) with
      | .inl e => .inl e
      | .inr (v, j) => if tK x N j = 44 then spT oth cols f (j + 1) (ufn g (tN x N i) v) else .inr (ufn g (tN x N i) v, j)) else .inl (1, i + 1)) else .inl (3, i)) else .inl (1, i)
/-- what a new row is: k columns from c on -/
def spF (oth col : Bool) (cols : Nat) : Nat → Nat → Nat → (Nat → Option Val) → PE (Nat → Option Val)
  | 0, _, i, g => .inr (g, i)
  | k + 1, c, i, g => if c = 0 then (match spW x N oth col cols i with
      | .inl e => .inl e
      | .inr (v, j) => spF oth col cols k (c + 1) j (ufn g c v))
    else if tK x N i = 44 then (match spW x N oth col cols (i + 1) with
      | .inl e => .inl e
      | .inr (v, j) => spF oth col cols k (c + 1) j (ufn g c v))
    else .inl (1, i)
def isCm (k : Nat) : Bool := decide (k = 60) || decide (k = 61) || decide (k = 62)
def spH (cols : Nat) : Nat → Nat → List Tst → PE (List Tst)
  | 0, i, _ => .inl (0, i)
  | f + 1, i, acc => match spW x N false true cols (i + 1) with
    | .inl e => .inl e
    | .inr (l, j) => if isCm (tK x N j) = true then (match spW x N false true cols (j + 1) with
      | .inl e => .inl e
      | .inr (r, j2) => if tK x N j2 = 216 then spH cols f j2 (acc ++ [(l, nI (tK x N j), r)]) else .inr (acc ++ [(l, nI (tK x N j), r)], j2)) else .inl (1, j)
def spX (cols i : Nat) : PE (List Tst) := if tK x N i = 215 then spH x N cols 901 i [] else .inr ([], i)
def no4 : Nat → Option Val := fun _ => none
def spU (cols i : Nat) : PE Stm := match spT x N false cols 5 (i + 1) no4 with
  | .inl e => .inl e
  | .inr (g, j) => match spX x N cols j with
    | .inl e => .inl e
    | .inr (t, j2) => .inr (((0, 0, 0, 0), g, no4, t), j2)
def spD (cols i : Nat) : PE Stm := match spX x N cols (i + 1) with
    | .inl e => .inl e
    | .inr (t, j2) => .inr (((1, 0, 0, 0), no4, no4, t), j2)
def spI (cols i : Nat) : PE Stm := match spF x N false true cols cols 0 (i + 1) no4 with
  | .inl e => .inl e
  | .inr (g, j) => match spX x N cols j with
    | .inl e => .inl e
    | .inr (t, j2) => .inr (((2, 0, 0, 0), no4, g, t), j2)
/-- a merge behind its columns: how, what is set -/
def spG1 (cols j : Nat) : PE (Nat × (Nat → Option Val)) :=
  if tK x N j = 209 then (match spT x N true cols 5 (j + 1) no4 with
    | .inl e => .inl e
    | .inr (g, j2) => .inr ((0, g), j2))
  else if tK x N j = 206 then .inr ((1, no4), j + 1)
  else if tK x N j = 210 then .inr ((2, no4), j + 1)
  else .inl (1, j)
def spG2 (cols j : Nat) : PE (Nat → Option Val) := if tK x N j = 207 then spF x N true false cols cols 0 (j + 1) no4 else .inr (no4, j)
def spG (cols i : Nat) : PE Stm := match spC x N cols (i + 1) with
  | .inl e => .inl e
  | .inr (a, j) => match spC x N cols j with
    | .inl e => .inl e
    | .inr (b, j2) => match spG1 x N cols j2 with
      | .inl e => .inl e
      | .inr (h, j3) => match spG2 x N cols j3 with
        | .inl e => .inl e
        | .inr (g, j4) => .inr (((3, h.1, a, b), h.2, g, []), j4)
def spStm (cols i : Nat) : PE Stm := if tK x N i = 205 then spU x N cols i else if tK x N i = 206 then spD x N cols i else if tK x N i = 207 then spI x N cols i else spG x N cols i
/-- the numbers of a row -/
def spR : Nat → Nat → Nat → (Nat → Int32) → PE (Nat → Int32)
  | 0, _, i, g => .inr (g, i)
  | k + 1, c, i, g => match spS x N i with
    | .inl e => .inl e
    | .inr (v, j) => spR k (c + 1) j (fun d => if d = c then v else g d)
/-- what is told so far: the text, the rows -/
abbrev Tel : Type := Scr × Nat × (Nat → Nat → Int32)
def tlT (r : Nat) (g : Nat → Nat → Int32) : Tab := (fun p => decide (p < r), g)
def spE {α : Type} (r : PE α) : PE α := match r with
  | .inl e => .inl e
  | .inr (a, j) => if tK x N j = 59 then .inr (a, j + 1) else .inl (1, j)
def spKo (cols i a : Nat) : PE (Option Nat) := if tK x N i = 130 then (if tN x N i = a then .inl (3, i) else if tN x N i < cols then .inr (some (tN x N i), i + 1) else .inl (3, i)) else .inr (none, i)
def scIx (S : Scr) (q : Nat × Option Nat) (ky : Bool) : Scr := (S.1, S.2.1 ++ [q], (if ky = true then S.2.2.1 ||| ((1 : Int32) <<< (nI S.2.1.length &&& 31)) else S.2.2.1), S.2.2.2)
def spK (ky : Bool) (t : Tel) (i : Nat) : PE Tel := if (sIdx t.1).length < 3 then (match spC x N (sCols t.1) (i + 1) with
  | .inl e => .inl e
  | .inr (a, j) => match spKo x N (sCols t.1) j a with
    | .inl e => .inl e
    | .inr (b, j2) => if tK x N j2 = 59 then (if sClash 30 (scIx t.1 (a, b) ky) (tlT t.2.1 t.2.2) = none then .inr ((scIx t.1 (a, b) ky, t.2), j2 + 1) else .inl (4, j2)) else .inl (1, j2)) else .inl (2, i)
def spRow (t : Tel) (i : Nat) : PE Tel := if t.2.1 < 30 then (match spR x N (sCols t.1) 0 (i + 1) (fun _ => 0) with
  | .inl e => .inl e
  | .inr (v, j) => if tK x N j = 59 then (if sClash 30 t.1 (tlT (t.2.1 + 1) (fun p => if p = t.2.1 then v else t.2.2 p)) = none then .inr ((t.1, t.2.1 + 1, fun p => if p = t.2.1 then v else t.2.2 p), j + 1) else .inl (4, j)) else .inl (1, j)) else .inl (2, i)
def spOth (t : Tel) (i : Nat) : PE Tel := if (sOth t.1).length < 10 then (match spR x N (sCols t.1) 0 (i + 1) (fun _ => 0) with
  | .inl e => .inl e
  | .inr (v, j) => if tK x N j = 59 then .inr (((t.1.1, t.1.2.1, t.1.2.2.1, t.1.2.2.2.1 ++ [v], t.1.2.2.2.2), t.2), j + 1) else .inl (1, j)) else .inl (2, i)
def spCol (first : Bool) (t : Tel) (i : Nat) : PE Tel := if first = true then (if tK x N (i + 1) = 129 then .inl (2, i + 1) else if tK x N (i + 1) = 128 then (if 1 ≤ tN x N (i + 1) ∧ tN x N (i + 1) ≤ 4 then (if tK x N (i + 2) = 59 then .inr (((tN x N (i + 1), t.1.2), t.2), i + 3) else .inl (1, i + 2)) else .inl (2, i + 1)) else .inl (1, i + 1)) else .inl (4, i)
def scSt (S : Scr) (s : Stm) : Scr := (S.1, S.2.1, S.2.2.1, S.2.2.2.1, S.2.2.2.2 ++ [s])
def spSt (t : Tel) (i : Nat) : PE Tel := if (sStm t.1).length < 8 then (match spE x N (spStm x N (sCols t.1) i) with
  | .inl e => .inl e
  | .inr (s, j) => .inr ((scSt t.1 s, t.2), j)) else .inl (2, i)
def spCl (first : Bool) (t : Tel) (i : Nat) : PE Tel :=
  if tK x N i = 200 then spCol x N first t i else if tK x N i = 201 then spRow x N t i else if tK x N i = 202 then spOth x N t i else if tK x N i = 203 then spK x N true t i else if tK x N i = 204 then spK x N false t i
  else if 205 ≤ tK x N i ∧ tK x N i ≤ 208 then spSt x N t i else .inl (1, i)
def spL : Nat → Nat → Tel → Nat → PE Tel
  | 0, _, _, i => .inl (0, i)
  | f + 1, c, t, i => if tK x N i = 132 then .inr (t, i) else match spCl x N (decide (c = 0)) t i with
    | .inl e => .inl e
    | .inr (t2, j) => spL f (c + 1) t2 j
def tel0 : Tel := ((3, [], 0, [], []), 0, fun _ _ => 0)
def spAll : PE Tel := spL x N 902 0 tel0 0
end
/-! what holds of it -/
section
variable {x : Nat → Nat} {N : Nat}
theorem ps_k {i : Nat} (h : tK x N i ≠ 132) : ps x N i < N := by
  by_cases g : ps x N i < N
  · exact g
  · exact absurd (by unfold tK; rw [if_neg g]) h
theorem Iok.s {i : Nat} (h : Iok x N i) (g : tK x N i ≠ 132) : Iok x N (i + 1) := fun j hj => by
  by_cases e : j = i
  · subst e; exact ps_k g
  · exact h j (by omega)
theorem Iok.le {i : Nat} (h : Iok x N i) (hN : N ≤ 900) : i ≤ 900 := by
  by_cases g : i ≤ 900
  · exact g
  · have := ps_ge (x := x) (N := N) 900 (h 900 (by omega))
    have := h 900 (by omega)
    omega
theorem wIx_lt {L : List Nat} {k : Nat} (h : wIx L wlC 0 = some k) : k < 17 ∧ L = wlC.getD k [] := by
  obtain ⟨i, h1, h2, h3⟩ := wIx_s wlC 0 k h
  rw [wl_len] at h1
  have : k = i := by omega
  subst this
  exact ⟨h1, h3⟩
theorem wdK_cs (L : List Nat) : wdK L = 131 ∨ ∃ k, k < 17 ∧ wdK L = 200 + k ∧ L = wlC.getD k [] := by
  unfold wdK
  cases h : wIx L wlC 0 with
  | none => exact Or.inl rfl
  | some k => exact Or.inr ⟨k, (wIx_lt h).1, rfl, (wIx_lt h).2⟩
theorem isSg_lt {v : Nat} (h : isSg v = true) : v ≤ 62 := by
  unfold isSg at h
  simp only [Bool.or_eq_true, decide_eq_true_eq] at h
  omega
theorem tK_lt (i : Nat) : tK x N i < 256 := by
  unfold tK
  split
  · unfold tkK
    split
    · split
      · decide
      · rcases wdK_cs (sl x (ps x N i) (tkE x N (ps x N i))) with h | ⟨k, h1, h2, _⟩
        · rw [h]; decide
        · rw [h2]; omega
    · split
      · split <;> decide
      · split
        · rename_i h
          have := isSg_lt h
          omega
        · decide
  · decide
/-- a word's length -/
theorem ps_w {i k : Nat} (hk : k < 17) (h : tK x N i = 200 + k) : ps x N i + (wlC.getD k []).length ≤ ps x N (i + 1) := by
  have hp := ps_k (x := x) (N := N) (i := i) (by omega)
  have m := ps_mono hp
  have t := (tkE_lo (x := x) hp).1
  unfold tK at h
  rw [if_pos hp] at h
  unfold tkK at h
  by_cases lt : isLt (x (ps x N i)) = true
  · rw [if_pos lt] at h
    by_cases co : isCo (sl x (ps x N i) (tkE x N (ps x N i))) = true
    · rw [if_pos co] at h; omega
    · rw [if_neg co] at h
      rcases wdK_cs (sl x (ps x N i) (tkE x N (ps x N i))) with g | ⟨k', g1, g2, g3⟩
      · omega
      · have : k' = k := by omega
        subst this
        rw [← g3]
        unfold sl
        rw [List.length_map, List.length_range]
        omega
  · rw [if_neg lt] at h
    by_cases dg : isDg (x (ps x N i)) = true
    · rw [if_pos dg] at h
      split at h <;> omega
    · rw [if_neg dg] at h
      by_cases sg : isSg (x (ps x N i)) = true
      · rw [if_pos sg] at h
        have := isSg_lt sg
        omega
      · rw [if_neg sg] at h; omega
theorem ps_1 {i : Nat} (h : tK x N i ≠ 132) : ps x N i + 1 ≤ ps x N (i + 1) := ps_up (ps_k h)
theorem tN_lt (i : Nat) : tN x N i ≤ 9999 := by
  unfold tN
  split
  · unfold tkN
    split
    · split
      · rename_i g _
        unfold isLt at g
        rw [Bool.and_eq_true, decide_eq_true_eq, decide_eq_true_eq] at g
        omega
      · omega
    · split
      · rename_i p _ dg
        have lo := (tkE_lo (x := x) p).1
        have := dgV_le (x := x) (p := ps x N i) (min 4 (tkE x N (ps x N i) - ps x N i)) (fun q h1 h2 => by
          by_cases e : q = ps x N i
          · subst e; exact dg
          · unfold tkE at h2
            rename_i lt
            rw [if_neg lt, if_pos dg] at h2
            exact skE_in (f := fun q => isDg (x q)) (N := N) (p := ps x N i + 1) (by omega) (by omega))
        have m4 : min 4 (tkE x N (ps x N i) - ps x N i) ≤ 4 := Nat.min_le_left _ _
        have := Nat.pow_le_pow_right (show 0 < 10 by decide) m4
        omega
      · omega
  · omega
end
