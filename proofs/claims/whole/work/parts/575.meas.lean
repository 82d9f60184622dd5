/-! How often a run reads, and how much it spools. -/
def cnt (N : Nat) (f : Nat → Bool) : Nat := (List.range N).countP f
theorem cnt_le (N : Nat) (f : Nat → Bool) : cnt N f ≤ N := by
  have := List.countP_le_length (p := f) (l := List.range N)
  simpa [cnt] using this
theorem countP_mono' {l : List Nat} {f g : Nat → Bool} (h : ∀ q ∈ l, g q = true → f q = true) : l.countP g ≤ l.countP f := by
  induction l with
  | nil => simp
  | cons a l ih =>
    have h1 := ih (fun q hq => h q (List.mem_cons_of_mem _ hq))
    have h2 := h a List.mem_cons_self
    simp only [List.countP_cons]
    by_cases c : g a = true
    · rw [if_pos c, if_pos (h2 c)]; omega
    · rw [if_neg c]
      split <;> omega
theorem countP_lt' {l : List Nat} {f g : Nat → Bool} {p : Nat} (h : ∀ q ∈ l, g q = true → f q = true) (hp : p ∈ l) (hf : f p = true) (hg : g p = false) : l.countP g < l.countP f := by
  induction l with
  | nil => cases hp
  | cons a l ih =>
    have h2 := h a List.mem_cons_self
    simp only [List.countP_cons]
    rcases List.mem_cons.mp hp with rfl | hp
    · have h1 := countP_mono' (l := l) (f := f) (g := g) (fun q hq => h q (List.mem_cons_of_mem _ hq))
      rw [if_neg (by rw [hg]; decide), if_pos hf]
      omega
    · have h1 := ih (fun q hq => h q (List.mem_cons_of_mem _ hq)) hp
      by_cases c : g a = true
      · rw [if_pos c, if_pos (h2 c)]; omega
      · rw [if_neg c]
        split <;> omega
theorem countP_add {l : List Nat} {f g k : Nat → Bool} (h1 : ∀ q ∈ l, f q = true → k q = true) (h2 : ∀ q ∈ l, g q = true → k q = true) (h3 : ∀ q ∈ l, ¬ (f q = true ∧ g q = true)) : l.countP f + l.countP g ≤ l.countP k := by
  induction l with
  | nil => simp
  | cons a l ih =>
    have i1 := ih (fun q hq => h1 q (List.mem_cons_of_mem _ hq)) (fun q hq => h2 q (List.mem_cons_of_mem _ hq)) (fun q hq => h3 q (List.mem_cons_of_mem _ hq))
    have j1 := h1 a List.mem_cons_self
    have j2 := h2 a List.mem_cons_self
    have j3 := h3 a List.mem_cons_self
    simp only [List.countP_cons]
    by_cases c1 : f a = true
    · have c2 : ¬ g a = true := fun z => j3 ⟨c1, z⟩
      rw [if_pos c1, if_neg c2, if_pos (j1 c1)]
      omega
    · by_cases c2 : g a = true
      · rw [if_neg c1, if_pos c2, if_pos (j2 c2)]; omega
      · rw [if_neg c1, if_neg c2]
        split <;> omega
theorem cnt_mono {N : Nat} {f g : Nat → Bool} (h : ∀ q, q < N → g q = true → f q = true) : cnt N g ≤ cnt N f := countP_mono' (fun q hq => h q (List.mem_range.mp hq))
theorem cnt_lt {N : Nat} {f g : Nat → Bool} {p : Nat} (h : ∀ q, q < N → g q = true → f q = true) (hp : p < N) (hf : f p = true) (hg : g p = false) : cnt N g < cnt N f := countP_lt' (fun q hq => h q (List.mem_range.mp hq)) (List.mem_range.mpr hp) hf hg
theorem cnt_add {N : Nat} {f g k : Nat → Bool} (h1 : ∀ q, q < N → f q = true → k q = true) (h2 : ∀ q, q < N → g q = true → k q = true) (h3 : ∀ q, q < N → ¬ (f q = true ∧ g q = true)) : cnt N f + cnt N g ≤ cnt N k := countP_add (fun q hq => h1 q (List.mem_range.mp hq)) (fun q hq => h2 q (List.mem_range.mp hq)) (fun q hq => h3 q (List.mem_range.mp hq))
/-- rows ahead -/
def ahead (ok : Nat → Bool) (rk : Nat → Int) (last : Option Int) : Nat := cnt 30 (fun p => ok p && lOk last (rk p))
theorem nx_lok {ok : Nat → Bool} {rk : Nat → Int} {last : Option Int} : ∀ {k j : Nat} {b : Option Nat}, (∀ q, b = some q → lOk last (rk q) = true) → ∀ q, qo (nxS ok rk last) k j b = some q → lOk last (rk q) = true := by
  intro k
  induction k with
  | zero => intro j b hb q h; exact hb q h
  | succ k ih =>
    intro j b hb q h
    refine ih (j := j + 1) (b := nxS ok rk last j b) (fun q hq => ?_) q h
    unfold nxS at hq
    by_cases z : nxC ok rk last j b = true
    · rw [if_pos z] at hq
      cases hq
      simp only [nxC, Bool.and_eq_true] at z
      exact z.1.2
    · rw [if_neg z] at hq
      exact hb q hq
theorem sNext_lok {ok : Nat → Bool} {rk : Nat → Int} {last : Option Int} {q : Nat} (h : sNext ok rk last = some q) : lOk last (rk q) = true := nx_lok (k := 30) (j := 0) (b := none) (fun q z => by cases z) q h
theorem lOk_trans {last : Option Int} {x y : Int} (h1 : lOk last x = true) (h2 : lOk (some x) y = true) : lOk last y = true := by
  cases last with
  | none => rfl
  | some z =>
    simp only [lOk, decide_eq_true_eq] at *
    omega
theorem lOk_self (x : Int) : lOk (some x) x = false := by simp [lOk]
theorem ahead_lt {ok : Nat → Bool} {rk : Nat → Int} {last : Option Int} {p : Nat} (h : sNext ok rk last = some p) : ahead ok rk (some (rk p)) < ahead ok rk last := by
  obtain ⟨h1, h2⟩ := sNext_ok h
  have h3 := sNext_lok h
  refine cnt_lt (p := p) (fun q hq z => ?_) h1 (by simp [h2, h3]) (by simp [lOk_self])
  simp only [Bool.and_eq_true] at *
  exact ⟨z.1, lOk_trans h3 z.2⟩
theorem ahead_lt2 {ok g : Nat → Bool} {rk : Nat → Int} {last : Option Int} {p : Nat} (h : sNext ok rk last = some p) (hg : g p = true) : cnt 30 (fun q => ok q && lOk (some (rk p)) (rk q) && g q) < cnt 30 (fun q => ok q && lOk last (rk q) && g q) := by
  obtain ⟨h1, h2⟩ := sNext_ok h
  have h3 := sNext_lok h
  refine cnt_lt (p := p) (fun q hq z => ?_) h1 (by simp [h2, h3, hg]) (by simp [lOk_self])
  simp only [Bool.and_eq_true] at *
  exact ⟨⟨z.1.1, lOk_trans h3 z.1.2⟩, z.2⟩
theorem ahead_le2 {ok g : Nat → Bool} {rk : Nat → Int} {last : Option Int} {p : Nat} (h : sNext ok rk last = some p) : cnt 30 (fun q => ok q && lOk (some (rk p)) (rk q) && g q) ≤ cnt 30 (fun q => ok q && lOk last (rk q) && g q) := by
  have h3 := sNext_lok h
  refine cnt_mono (fun q hq z => ?_)
  simp only [Bool.and_eq_true] at *
  exact ⟨⟨z.1.1, lOk_trans h3 z.1.2⟩, z.2⟩
/-! what a meeting changes -/
theorem okN_inR {x : Int32} (h : inR x = true) : okN x := by
  simp only [inR, Bool.and_eq_true, decide_eq_true_eq] at h
  exact h
theorem sOver_none {S : Scr} {T : Tab} {t : Stm} {pl o : Option Nat} (h : sOver S T t pl o = none) : ∀ c, c < sCols S → (valsS t pl c).isSome = true → okN (mkS S T t pl o c) := by
  intro c hc hv
  have := qf_none.mp h c (by omega) (by omega)
  unfold ovF at this
  unfold mkS
  cases e : valsS t pl c with
  | none => rw [e] at hv; cases hv
  | some v =>
    rw [e] at this
    exact okN_inR (by simpa using this)
/-- an item's numbers are in bounds -/
def MkOK (S : Scr) (t : Stm) (pl : Option Nat) (mk : Nat → Int32) : Prop := ∀ c, c < sCols S → (valsS t pl c).isSome = true → okN (mk c)
theorem sPut_N {S : Scr} {T : Tab} {t : Stm} {pl : Option Nat} {q : Nat} {mk : Nat → Int32} (hN : TabN (sCols S) T) (hm : MkOK S t pl mk) (hnew : isNewS t pl = true → ∀ c, c < sCols S → (tNew t c).isSome = true) (hh : isNewS t pl = false → T.1 q = true) : TabN (sCols S) (sPut T t pl q mk) := by
  intro p hp tp c hc
  unfold sPut at tp ⊢
  by_cases b : isNewS t pl = true
  · rw [if_pos b] at tp ⊢
    dsimp only at tp ⊢
    unfold va_up at tp ⊢
    by_cases e : p = q
    · simp only [↓reduceIte, e, if_true]
      exact hm c hc (by rw [valsS, if_pos b]; exact hnew b c hc)
    · simp only [↓reduceIte, e, if_false] at tp ⊢
      exact hN p hp tp c hc
  · rw [if_neg b] at tp ⊢
    have b2 : isNewS t pl = false := by simpa using b
    by_cases d : tCh t = 1
    · rw [if_pos d] at tp ⊢
      dsimp only at tp ⊢
      unfold va_up at tp
      by_cases e : p = q
      · simp [e] at tp
      · simp only [↓reduceIte, e, if_false] at tp
        exact hN p hp tp c hc
    · rw [if_neg d] at tp ⊢
      dsimp only at tp ⊢
      unfold va_up at tp ⊢
      by_cases e : p = q
      · simp only [↓reduceIte, e, if_true]
        by_cases v : (tSet t c).isSome = true
        · rw [if_pos v]
          exact hm c hc (by rw [valsS, if_neg b]; exact v)
        · rw [if_neg v]
          exact hN q (by omega) (hh b2) c hc
      · simp only [↓reduceIte, e, if_false] at tp ⊢
        exact hN p hp tp c hc
theorem sWrite_ok {S : Scr} {t : Stm} {pl : Option Nat} {mk : Nat → Int32} {r : RS} (h : RSok S r) (hm : MkOK S t pl mk) (hnew : isNewS t pl = true → ∀ c, c < sCols S → (tNew t c).isSome = true) (hh : ∀ p, pl = some p → isNewS t pl = false → (rT r).1 p = true) : RSok S (sWrite t pl mk r) := by
  unfold sWrite
  cases e : sAt (rT r) t pl with
  | none => exact h
  | some q =>
    dsimp only
    by_cases c : 200 ≤ (rL r).length
    · rw [if_pos c]; exact h
    · rw [if_neg c]
      refine ⟨sPut_N h.1 hm hnew (fun b => ?_), ?_⟩
      · refine hh q ?_ b
        rw [sAt, if_neg (by rw [b]; decide)] at e
        exact e
      · have := h.2
        show (rL r ++ [(pl, q, mk)]).length ≤ 200
        simp only [List.length_append, List.length_cons, List.length_nil]
        omega
/-- a write makes the log longer, or ends the run -/
theorem sWrite_len {t : Stm} {pl : Option Nat} {mk : Nat → Int32} {r : RS} : rE (sWrite t pl mk r) ≠ 0 ∨ (rL (sWrite t pl mk r)).length = (rL r).length + 1 := by
  unfold sWrite
  cases e : sAt (rT r) t pl with
  | none => exact Or.inl (by show (3 : Int32) ≠ 0; decide)
  | some q =>
    dsimp only
    by_cases c : 200 ≤ (rL r).length
    · rw [if_pos c]; exact Or.inl (by show (4 : Int32) ≠ 0; decide)
    · rw [if_neg c]
      refine Or.inr ?_
      show (rL r ++ [(pl, q, mk)]).length = _
      simp
theorem sMkW_ok {S : Scr} {t : Stm} {pl o : Option Nat} {r : RS} (h : RSok S r) (hnew : isNewS t pl = true → ∀ c, c < sCols S → (tNew t c).isSome = true) (hh : ∀ p, pl = some p → isNewS t pl = false → (rT r).1 p = true) : RSok S (sMkW S t pl o r) := by
  unfold sMkW
  cases e : sOver S (rT r) t pl o with
  | some c => exact h
  | none => exact sWrite_ok h (sOver_none e) hnew hh
theorem sMkW_len {S : Scr} {t : Stm} {pl o : Option Nat} {r : RS} : rE (sMkW S t pl o r) ≠ 0 ∨ (rL (sMkW S t pl o r)).length = (rL r).length + 1 := by
  unfold sMkW
  cases e : sOver S (rT r) t pl o with
  | some c => exact Or.inl (by show (2 : Int32) ≠ 0; decide)
  | none => exact sWrite_len
/-- what a meeting leaves, by its stage -/
theorem sMeet_0 {S : Scr} {t : Stm} {pl o : Option Nat} {x : RS × List Itm} : (sMeet S t 0 pl o x).2 = x.2 ∧ ((sMeet S t 0 pl o x) = x ∨ (sMeet S t 0 pl o x).1 = sMkW S t pl o x.1) := by
  unfold sMeet
  by_cases c1 : isKpt t pl = true
  · rw [if_pos c1]; exact ⟨rfl, Or.inl rfl⟩
  · rw [if_neg c1]
    by_cases c2 : (decide (0 ≠ 1) && !sHolds S (rT x.1) pl t) = true
    · rw [if_pos c2]; exact ⟨rfl, Or.inl rfl⟩
    · rw [if_neg c2, if_pos rfl]; exact ⟨rfl, Or.inr rfl⟩
/-- behind stage 0 the table stays, and at most one item comes -/
theorem sMeet_s {S : Scr} {t : Stm} {stage : Nat} {pl o : Option Nat} {x : RS × List Itm} (hs : ¬ stage = 0) : rT (sMeet S t stage pl o x).1 = rT x.1 ∧ rL (sMeet S t stage pl o x).1 = rL x.1 ∧ rC (sMeet S t stage pl o x).1 = rC x.1 ∧ ((sMeet S t stage pl o x).2 = x.2 ∨ ∃ mk, (sMeet S t stage pl o x).2 = x.2 ++ [(pl, o, mk)] ∧ isKpt t pl = false ∧ (stage = 3 → MkOK S t pl mk)) := by
  unfold sMeet
  by_cases c1 : isKpt t pl = true
  · rw [if_pos c1]; exact ⟨rfl, rfl, rfl, Or.inl rfl⟩
  · rw [if_neg c1]
    have k : isKpt t pl = false := by simpa using c1
    by_cases c2 : (decide (stage ≠ 1) && !sHolds S (rT x.1) pl t) = true
    · rw [if_pos c2]; exact ⟨rfl, rfl, rfl, Or.inl rfl⟩
    · rw [if_neg c2, if_neg hs]
      by_cases c3 : stage = 3
      · rw [if_pos c3]
        cases e : sOver S (rT x.1) t pl o with
        | some c => exact ⟨rfl, rfl, rfl, Or.inl rfl⟩
        | none => exact ⟨rfl, rfl, rfl, Or.inr ⟨_, rfl, k, fun _ => sOver_none e⟩⟩
      · rw [if_neg c3]
        exact ⟨rfl, rfl, rfl, Or.inr ⟨_, rfl, k, fun z => absurd z c3⟩⟩
