/-! No clash: no two rows alike by a key. -/
theorem sTwin_n {N i : Nat} {S : Scr} {T : Tab} : (sTwin N S T i).isSome = false ↔ ∀ p q, p < q → q < N → T.1 p = true → T.1 q = true → kEq S T i p q = false := by
  have hp : (sTwin N S T i).isSome = false ↔ twP N S T i = none := by
    unfold sTwin
    cases h : twP N S T i with
    | none => simp
    | some p =>
      have := (qf_some h).2.2.1
      rw [Bool.and_eq_true] at this
      obtain ⟨q, hq⟩ := Option.isSome_iff_exists.mp this.2
      simp [hq]
  rw [hp]
  unfold twP
  rw [qf_none]
  constructor
  · intro h p q hpq hq tp tq
    have h1 := h p (by omega) (by omega)
    rw [tp, Bool.true_and] at h1
    have h2 : twQ N S T i p = none := by
      cases e : twQ N S T i p with
      | none => rfl
      | some y => rw [e] at h1; cases h1
    unfold twQ at h2
    rw [qf_none] at h2
    have h3 := h2 q (by omega) (by omega)
    rw [tq, Bool.true_and] at h3
    exact h3
  · intro h p _ hp'
    cases tp : T.1 p with
    | false => rfl
    | true =>
      rw [Bool.true_and]
      have : twQ N S T i p = none := by
        unfold twQ
        rw [qf_none]
        intro q h1 h2
        cases tq : T.1 q with
        | false => rfl
        | true => rw [Bool.true_and]; exact h p q (by omega) (by omega) tp tq
      rw [this]
      rfl
theorem clash_none {N : Nat} {S : Scr} {T : Tab} : sClash N S T = none ↔ ∀ i, i < (sIdx S).length → bt (sKeys S) i = true → ∀ p q, p < q → q < N → T.1 p = true → T.1 q = true → kEq S T i p q = false := by
  unfold sClash
  rw [qf_none]
  constructor
  · intro h i hi hb
    have := h i (by omega) (by omega)
    rw [hb, Bool.true_and] at this
    exact sTwin_n.mp this
  · intro h i _ hi
    cases hb : bt (sKeys S) i with
    | false => rfl
    | true => rw [Bool.true_and]; exact sTwin_n.mpr (h i (by omega) hb)
theorem kEq_symm {S : Scr} {T : Tab} {i p q : Nat} : kEq S T i p q = kEq S T i q p := by
  unfold kEq
  have a : ∀ c, decide (T.2 p c = T.2 q c) = decide (T.2 q c = T.2 p c) := fun c => by
    rw [decide_eq_decide]
    exact eq_comm
  rw [a]
  split
  · rfl
  · rw [a]
theorem kEq_cong {S : Scr} {T U : Tab} {i p q p' q' : Nat} (hp : ∀ c, T.2 p c = U.2 p' c) (hq : ∀ c, T.2 q c = U.2 q' c) : kEq S T i p q = kEq S U i p' q' := by
  unfold kEq
  simp only [hp, hq]
theorem kEq_congc {S : Scr} {T U : Tab} {i p q p' q' : Nat} (hO : ScrOK S) (hi : i < (sIdx S).length) (hp : ∀ c, c < sCols S → T.2 p c = U.2 p' c) (hq : ∀ c, c < sCols S → T.2 q c = U.2 q' c) : kEq S T i p q = kEq S U i p' q' := by
  obtain ⟨g1, g2⟩ := ix_lt hO hi
  unfold kEq
  rw [hp _ g1, hq _ g1]
  cases h : ix2 S i with
  | none => rfl
  | some c =>
    have := (g2 c h).1
    simp only
    rw [hp _ this, hq _ this]
theorem clash_sub {N : Nat} {S : Scr} {T U : Tab} (h1 : ∀ q, U.1 q = true → T.1 q = true) (h2 : ∀ q c, U.2 q c = T.2 q c) (h : sClash N S T = none) : sClash N S U = none := by
  rw [clash_none] at h ⊢
  intro i hi hb p q hpq hq tp tq
  rw [kEq_cong (U := T) (p' := p) (q' := q) (h2 p) (h2 q)]
  exact h i hi hb p q hpq hq (h1 p tp) (h1 q tq)
theorem twin_none {N p : Nat} {S : Scr} {T : Tab} (tp : T.1 p = true) : sHasTwin N S T p = false ↔ ∀ q, q < N → ¬ q = p → T.1 q = true → ∀ i, i < (sIdx S).length → bt (sKeys S) i = true → kEq S T i p q = false := by
  unfold sHasTwin
  rw [tp, Bool.true_and]
  have e : ∀ x : Option Nat, x.isSome = false ↔ x = none := fun x => by cases x <;> simp
  rw [e, qf_none]
  constructor
  · intro h q hq hne tq i hi hb
    have h1 := h q (by omega) (by omega)
    rw [tq, Bool.true_and] at h1
    have h2 : decide (q ≠ p) = true := by simpa using hne
    rw [h2, Bool.true_and, e, qf_none] at h1
    have h3 := h1 i (by omega) (by omega)
    rw [hb, Bool.true_and] at h3
    exact h3
  · intro h q _ hq
    cases tq : T.1 q with
    | false => rfl
    | true =>
      by_cases hne : q = p
      · simp [hne]
      · have h2 : decide (q ≠ p) = true := by simpa using hne
        rw [Bool.true_and, h2, Bool.true_and, e, qf_none]
        intro i _ hi
        cases hb : bt (sKeys S) i with
        | false => rfl
        | true => rw [Bool.true_and]; exact h q (by omega) hne tq i (by omega) hb
/-- where nothing clashed, a clash is one of the row that was put -/
theorem clash_put {N p : Nat} {S : Scr} {T U : Tab} (hp : p < N) (tp : U.1 p = true) (h1 : ∀ q, ¬ q = p → U.1 q = T.1 q) (h2 : ∀ q, ¬ q = p → ∀ c, U.2 q c = T.2 q c) (h : sClash N S T = none) : (sClash N S U).isSome = sHasTwin N S U p := by
  rw [clash_none] at h
  have key : sClash N S U = none ↔ sHasTwin N S U p = false := by
    rw [clash_none, twin_none tp]
    constructor
    · intro g q hq hne tq i hi hb
      by_cases l : p < q
      · exact g i hi hb p q l hq tp tq
      · rw [kEq_symm]
        exact g i hi hb q p (by omega) hp tq tp
    · intro g i hi hb a b hab hb' ta tb
      by_cases ea : a = p
      · subst ea
        exact g b hb' (by omega) tb i hi hb
      · by_cases eb : b = p
        · subst eb
          rw [kEq_symm]
          exact g a (by omega) ea ta i hi hb
        · rw [kEq_cong (U := T) (p' := a) (q' := b) (h2 a ea) (h2 b eb)]
          rw [h1 a ea] at ta
          rw [h1 b eb] at tb
          exact h i hi hb a b hab hb' ta tb
  cases hs : sClash N S U with
  | none => rw [key.mp hs]; rfl
  | some i =>
    cases ht : sHasTwin N S U p with
    | true => rfl
    | false => rw [key.mpr ht] at hs; cases hs
