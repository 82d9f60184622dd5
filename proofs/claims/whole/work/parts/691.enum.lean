/-! Statements that fit, by their numbers among themselves; how many numbers unlike. -/
def ixF (fit : Nat → Bool) : Nat → Nat
  | 0 => 0
  | s + 1 => if fit s = true then ixF fit s + 1 else ixF fit s
theorem ixF_t {fit : Nat → Bool} {s : Nat} (h : fit s = true) : ixF fit (s + 1) = ixF fit s + 1 := by rw [ixF, if_pos h]
theorem ixF_f {fit : Nat → Bool} {s : Nat} (h : fit s = false) : ixF fit (s + 1) = ixF fit s := by rw [ixF, if_neg (by rw [h]; decide)]
theorem ixF_le {fit : Nat → Bool} : ∀ s, ixF fit s ≤ s := by
  intro s
  induction s with
  | zero => exact Nat.le_refl _
  | succ s ih =>
    rcases bcs (fit s) with h | h
    · rw [ixF_f h]; omega
    · rw [ixF_t h]; omega
theorem ixF_mono {fit : Nat → Bool} {o s : Nat} (h : o ≤ s) : ixF fit o ≤ ixF fit s := by
  obtain ⟨d, rfl⟩ : ∃ d, s = o + d := ⟨s - o, by omega⟩
  clear h
  induction d with
  | zero => exact Nat.le_refl _
  | succ d ih =>
    rcases bcs (fit (o + d)) with g | g
    · rw [show o + (d + 1) = o + d + 1 by omega, ixF_f g]; exact ih
    · rw [show o + (d + 1) = o + d + 1 by omega, ixF_t g]; omega
theorem ixF_lt {fit : Nat → Bool} {o s : Nat} (h : o < s) (ho : fit o = true) : ixF fit o < ixF fit s := by
  have h1 := ixF_t ho
  have h2 := ixF_mono (fit := fit) (show o + 1 ≤ s by omega)
  omega
theorem ixF_ex {fit : Nat → Bool} : ∀ s k, k < ixF fit s → ∃ o, o < s ∧ fit o = true ∧ ixF fit o = k := by
  intro s
  induction s with
  | zero => intro k hk; exact absurd hk (Nat.not_lt_zero k)
  | succ s ih =>
    intro k hk
    rcases bcs (fit s) with h | h
    · rw [ixF_f h] at hk
      obtain ⟨o, h1, h2, h3⟩ := ih k hk
      exact ⟨o, by omega, h2, h3⟩
    · rw [ixF_t h] at hk
      by_cases e : k = ixF fit s
      · exact ⟨s, by omega, h, e.symm⟩
      · obtain ⟨o, h1, h2, h3⟩ := ih k (by omega)
        exact ⟨o, by omega, h2, h3⟩
def nthF (fit : Nat → Bool) (k : Nat) : Nat := (qf (fun o => fit o && decide (ixF fit o = k)) 8 0).getD 0
theorem nthF_ok {fit : Nat → Bool} {s k : Nat} (hs : s ≤ 8) (hk : k < ixF fit s) : fit (nthF fit k) = true ∧ ixF fit (nthF fit k) = k ∧ nthF fit k < s := by
  obtain ⟨o, h1, h2, h3⟩ := ixF_ex s k hk
  unfold nthF
  cases e : qf (fun o => fit o && decide (ixF fit o = k)) 8 0 with
  | none =>
    have := qf_none.mp e o (by omega) (by omega)
    simp [h2, h3] at this
  | some p =>
    obtain ⟨_, _, q3, q4⟩ := qf_some e
    rw [Bool.and_eq_true, decide_eq_true_eq] at q3
    refine ⟨q3.1, q3.2, ?_⟩
    show p < s
    by_cases l : o < p
    · have := q4 o (by omega) l
      simp [h2, h3] at this
    · omega
theorem nthF_ix {fit : Nat → Bool} {s : Nat} (hs : s < 8) (h : fit s = true) : nthF fit (ixF fit s) = s := by
  obtain ⟨h1, h2, h3⟩ := nthF_ok (fit := fit) (s := s + 1) (k := ixF fit s) (by omega) (by rw [ixF_t h]; omega)
  by_cases e : nthF fit (ixF fit s) = s
  · exact e
  · have := ixF_lt (fit := fit) (show nthF fit (ixF fit s) < s by omega) h1
    omega
def clF (V : Nat → Int32) (i a : Nat) : Nat := if (qf (fun k => decide (V k = V i)) i 0).isSome = true then a else a + 1
def rfF (fit : Nat → Bool) (val : Nat → Int32) (s a : Nat) : Nat := if (fit s && (qf (fun o => fit o && decide (val o = val s)) s 0).isNone) = true then a + 1 else a
theorem qo_last {α : Type} {g : Nat → α → α} (k : Nat) (x : α) : qo g (k + 1) 0 x = g k (qo g k 0 x) := by
  rw [qo_add, Nat.zero_add]
  rfl
theorem cnt_eq {fit : Nat → Bool} {val : Nat → Int32} : ∀ s, s ≤ 8 → qo (rfF fit val) s 0 0 = qo (clF (fun k => val (nthF fit k))) (ixF fit s) 0 0 := by
  intro s
  induction s with
  | zero => intro _; rfl
  | succ s ih =>
    intro hs
    rw [qo_last, ih (by omega)]
    rcases bcs (fit s) with h | h
    · rw [ixF_f h]
      unfold rfF
      rw [h]
      simp
    · rw [ixF_t h, qo_last]
      unfold rfF clF
      rw [h, Bool.true_and]
      have key : (qf (fun o => fit o && decide (val o = val s)) s 0).isNone = true ↔ (qf (fun k => decide (val (nthF fit k) = val (nthF fit (ixF fit s)))) (ixF fit s) 0).isSome = false := by
        have e1 : ∀ x : Option Nat, x.isNone = true ↔ x = none := fun x => by cases x <;> simp
        have e2 : ∀ x : Option Nat, x.isSome = false ↔ x = none := fun x => by cases x <;> simp
        rw [e1, e2, qf_none, qf_none, nthF_ix (by omega) h]
        constructor
        · intro g k _ hk
          obtain ⟨n1, n2, n3⟩ := nthF_ok (fit := fit) (s := s) (k := k) (by omega) (by omega)
          have := g (nthF fit k) (by omega) (by omega)
          rw [n1, Bool.true_and] at this
          exact this
        · intro g o _ ho
          rcases bcs (fit o) with f | f
          · rw [f]; rfl
          · rw [f, Bool.true_and]
            have := g (ixF fit o) (by omega) (by have := ixF_lt (fit := fit) (show o < s by omega) f; omega)
            rw [nthF_ix (by omega) f] at this
            exact this
      by_cases d : (qf (fun o => fit o && decide (val o = val s)) s 0).isNone = true
      · rw [if_pos d, key.mp d]
        simp
      · rw [if_neg d]
        have : (qf (fun k => decide (val (nthF fit k) = val (nthF fit (ixF fit s)))) (ixF fit s) 0).isSome = true := by
          rcases bcs (qf (fun k => decide (val (nthF fit k) = val (nthF fit (ixF fit s)))) (ixF fit s) 0).isSome with z | z
          · exact absurd (key.mpr z) d
          · exact z
        rw [if_pos this]
theorem rf_le {fit : Nat → Bool} {val : Nat → Int32} : ∀ k j x, qo (rfF fit val) k j x ≤ x + k := by
  intro k
  induction k with
  | zero => intro j x; exact Nat.le_refl _
  | succ k ih =>
    intro j x
    rw [qo]
    have := ih (j + 1) (rfF fit val j x)
    have : rfF fit val j x ≤ x + 1 := by unfold rfF; split <;> omega
    omega
def fitX (B : Big) (i : Nat) : Bool := decide (i < (sStm (bS B)).length) && fitB B i
def bhX (B : Big) (i : Nat) : Tab := bhT (bS B) (stmO (bS B) i) (zT (bZ B))
def uln (B : Big) (p c : Nat) : Nat := qo (rfF (fitX B) (fun i => tg (bhX B i) p c)) 8 0 0
theorem fit_bits {B : Big} : ∀ m k x i, i < 32 → k + m ≤ 8 → bt (qo (fitF B) m k x) i = ((decide (k ≤ i) && decide (i < k + m) && fitB B i) || bt x i) := by
  intro m
  induction m with
  | zero =>
    intro k x i hi hk
    have : (decide (k ≤ i) && decide (i < k + 0)) = false := by
      by_cases a : k ≤ i
      · have : ¬ i < k + 0 := by omega
        simp only [this, decide_false, Bool.and_false]
      · simp only [a, decide_false, Bool.false_and]
    rw [this]
    simp [qo]
  | succ m ih =>
    intro k x i hi hk
    rw [qo, ih (k + 1) _ i hi (by omega)]
    have e : bt (fitF B k x) i = ((decide (i = k) && fitB B i) || bt x i) := by
      unfold fitF
      rcases bcs (fitB B k) with f | f
      · rw [f, if_neg (by decide)]
        by_cases d : i = k
        · rw [d, f]; simp
        · simp [d]
      · rw [f, if_pos rfl, b_set _ (by omega) i hi]
        by_cases d : i = k
        · rw [if_pos d, d, f]; simp
        · rw [if_neg d]; simp [d]
    rw [e]
    by_cases d : i = k
    · have z1 : ¬ k + 1 ≤ i := by omega
      have z2 : k ≤ i := by omega
      have z3 : i < k + (m + 1) := by omega
      simp only [d, z1, z2, z3, decide_true, decide_false, Bool.false_and, Bool.true_and, Bool.false_or]
      simp [show ¬ k + 1 ≤ k by omega]
    · have e1 : decide (k + 1 ≤ i) = decide (k ≤ i) := by rw [decide_eq_decide]; omega
      have e2 : decide (i < k + 1 + m) = decide (i < k + (m + 1)) := by rw [decide_eq_decide]; omega
      rw [e1, e2]
      simp [d]
theorem sFit_bt {B : Big} (hB : BigOK B) {i : Nat} (hi : i < 8) : bt (sFit B) i = fitX B i := by
  have l8 := hB.1.2.2.2.2.2.2.2.1
  unfold sFit fitX
  rw [fit_bits _ _ _ i (by omega) (by omega), b_0]
  simp
