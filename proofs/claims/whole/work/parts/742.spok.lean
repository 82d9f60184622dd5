/-! What holds of a text that was taken. -/
section
variable {i j N cols : Nat} {x : Nat → Nat} {oth col : Bool}
def GOK (cols : Nat) (oth col : Bool) (g : Nat → Option Val) : Prop := ∀ c, VoOK cols oth col (g c)
theorem GOK.no : GOK cols oth col no4 := fun c w h => by cases h
theorem GOK.u {g : Nat → Option Val} {c : Nat} {v : Val} (h : GOK cols oth col g) (hv : ValOK cols oth col v) : GOK cols oth col (ufn g c v) := by
  intro d w e
  unfold ufn at e
  by_cases q : d = c
  · rw [if_pos q] at e; cases e; exact hv
  · rw [if_neg q] at e; exact h d w e
theorem spT_ok (h1c : 1 ≤ cols) (N9 : N ≤ 900) : ∀ f i g g' j, spT x N oth cols f i g = .inr (g', j) → GOK cols oth true g → (∀ c, cols ≤ c → g c = none) → GOK cols oth true g' ∧ ∀ c, cols ≤ c → g' c = none := by
  intro f
  induction f with
  | zero => intro i g g' j h; cases h
  | succ f ih =>
    intro i g g' j h h1 h2
    rw [spT] at h
    by_cases e : tK x N i = 130
    · rw [if_pos e] at h
      by_cases e2 : tN x N i < cols ∧ g (tN x N i) = none
      · rw [if_pos e2] at h
        by_cases e3 : tK x N (i + 1) = 61
        · rw [if_pos e3] at h
          cases ew : spW x N oth true cols (i + 2) with
          | inl q => rw [ew] at h; cases h
          | inr q =>
            obtain ⟨v, j1⟩ := q
            rw [ew] at h
            obtain ⟨_, _, _, z4⟩ := spW_ps h1c N9 ew
            have h : (if tK x N j1 = 44 then spT x N oth cols f (j1 + 1) (ufn g (tN x N i) v) else .inr (ufn g (tN x N i) v, j1)) = (.inr (g', j) : PE (Nat → Option Val)) := h
            have u1 := h1.u (c := tN x N i) z4
            have u2 : ∀ c, cols ≤ c → ufn g (tN x N i) v c = none := fun c hc => by
              unfold ufn
              rw [if_neg (by omega)]
              exact h2 c hc
            by_cases e4 : tK x N j1 = 44
            · rw [if_pos e4] at h
              exact ih _ _ _ _ h u1 u2
            · rw [if_neg e4] at h
              cases h
              exact ⟨u1, u2⟩
        · rw [if_neg e3] at h; cases h
      · rw [if_neg e2] at h; cases h
    · rw [if_neg e] at h; cases h
theorem spF_ok (h1c : 1 ≤ cols) (N9 : N ≤ 900) : ∀ k c i g g' j, spF x N oth col cols k c i g = .inr (g', j) → GOK cols oth col g → GOK cols oth col g' := by
  intro k
  induction k with
  | zero => intro c i g g' j h h1; cases h; exact h1
  | succ k ih =>
    intro c i g g' j h h1
    have step : ∀ i2, (match spW x N oth col cols i2 with
        | .inl e => .inl e
        | .inr (v, j) => spF x N oth col cols k (c + 1) j (ufn g c v)) = (.inr (g', j) : PE (Nat → Option Val)) → GOK cols oth col g' := by
      intro i2 h2
      cases e : spW x N oth col cols i2 with
      | inl q => rw [e] at h2; cases h2
      | inr q =>
        obtain ⟨v, j2⟩ := q
        rw [e] at h2
        obtain ⟨_, _, _, z4⟩ := spW_ps h1c N9 e
        exact ih _ _ _ _ _ h2 (h1.u z4)
    rw [spF] at h
    by_cases c0 : c = 0
    · rw [if_pos c0] at h; exact step i h
    · rw [if_neg c0] at h
      by_cases q : tK x N i = 44
      · rw [if_pos q] at h; exact step (i + 1) h
      · rw [if_neg q] at h; cases h
def TOK (cols : Nat) (ts : List Tst) : Prop := ∀ q ∈ ts, ValOK cols false true q.1 ∧ (q.2.1 = 60 ∨ q.2.1 = 61 ∨ q.2.1 = 62) ∧ ValOK cols false true q.2.2
theorem spH_ok (h1c : 1 ≤ cols) (N9 : N ≤ 900) : ∀ f i acc ts j, spH x N cols f i acc = .inr (ts, j) → TOK cols acc → TOK cols ts := by
  intro f
  induction f with
  | zero => intro i acc ts j h; cases h
  | succ f ih =>
    intro i acc ts j h h1
    rw [spH] at h
    cases e : spW x N false true cols (i + 1) with
    | inl q => rw [e] at h; cases h
    | inr q =>
      obtain ⟨l, j1⟩ := q
      rw [e] at h
      have h : (if isCm (tK x N j1) = true then (match spW x N false true cols (j1 + 1) with
        | .inl e => .inl e
        | .inr (r, j2) => if tK x N j2 = 216 then spH x N cols f j2 (acc ++ [(l, nI (tK x N j1), r)]) else .inr (acc ++ [(l, nI (tK x N j1), r)], j2)) else .inl (1, j1)) = (.inr (ts, j) : PE (List Tst)) := h
      by_cases cm : isCm (tK x N j1) = true
      · rw [if_pos cm] at h
        cases e2 : spW x N false true cols (j1 + 1) with
        | inl q => rw [e2] at h; cases h
        | inr q =>
          obtain ⟨r, j2⟩ := q
          rw [e2] at h
          have h : (if tK x N j2 = 216 then spH x N cols f j2 (acc ++ [(l, nI (tK x N j1), r)]) else .inr (acc ++ [(l, nI (tK x N j1), r)], j2)) = (.inr (ts, j) : PE (List Tst)) := h
          have u : TOK cols (acc ++ [(l, nI (tK x N j1), r)]) := by
            intro q hq
            rcases List.mem_append.mp hq with z | z
            · exact h1 q z
            · rw [List.mem_singleton] at z
              subst z
              refine ⟨(spW_ps h1c N9 e).2.2.2, ?_, (spW_ps h1c N9 e2).2.2.2⟩
              rcases isCm_cs cm with y | y | y
              · exact Or.inl (tq_60.mpr y)
              · exact Or.inr (Or.inl (tq_61.mpr y))
              · exact Or.inr (Or.inr (tq_62.mpr y))
          by_cases e4 : tK x N j2 = 216
          · rw [if_pos e4] at h
            exact ih _ _ _ _ h u
          · rw [if_neg e4] at h
            cases h
            exact u
      · rw [if_neg cm] at h; cases h
theorem spX_ok (h1c : 1 ≤ cols) (N9 : N ≤ 900) {ts : List Tst} (h : spX x N cols i = .inr (ts, j)) : TOK cols ts := by
  unfold spX at h
  by_cases e : tK x N i = 215
  · rw [if_pos e] at h
    exact spH_ok h1c N9 _ _ _ _ _ h (fun q hq => by cases hq)
  · rw [if_neg e] at h
    cases h
    exact fun q hq => by cases hq
theorem spU_ok (h1c : 1 ≤ cols) (N9 : N ≤ 900) {t : Stm} (h : spU x N cols i = .inr (t, j)) : StmOK cols t := by
  unfold spU at h
  cases e : spT x N false cols 5 (i + 1) no4 with
  | inl q => rw [e] at h; cases h
  | inr q =>
    obtain ⟨g, j1⟩ := q
    rw [e] at h
    dsimp only at h
    cases e2 : spX x N cols j1 with
    | inl q => rw [e2] at h; cases h
    | inr q =>
      obtain ⟨ts, j2⟩ := q
      rw [e2] at h
      cases h
      obtain ⟨a1, a2⟩ := spT_ok h1c N9 _ _ _ _ _ e GOK.no (fun _ _ => rfl)
      exact ⟨(show (0 : Nat) ≤ 3 by decide), (show (0 : Nat) ≤ 2 by decide), fun _ => ⟨rfl, rfl, rfl⟩, h1c, h1c, fun c hc => ⟨a2 c hc, rfl⟩, (fun z => z.elim (fun z => absurd (show (0 : Nat) = 1 from z) (by decide)) (fun z => z.elim (fun z => absurd (show (0 : Nat) = 2 from z) (by decide)) (fun z => absurd (show (0 : Nat) = 3 from z.1) (by decide)))), fun _ c => rfl, (fun z => absurd (show (0 : Nat) = 2 from z) (by decide)), (fun z => absurd (show (0 : Nat) = 3 from z) (by decide)), a1, (fun c => GOK.no (cols := cols) c), (fun z => absurd (show (0 : Nat) = 3 from z) (by decide)), spX_ok h1c N9 e2⟩
theorem spD_ok (h1c : 1 ≤ cols) (N9 : N ≤ 900) {t : Stm} (h : spD x N cols i = .inr (t, j)) : StmOK cols t := by
  unfold spD at h
  cases e2 : spX x N cols (i + 1) with
  | inl q => rw [e2] at h; cases h
  | inr q =>
    obtain ⟨ts, j2⟩ := q
    rw [e2] at h
    cases h
    exact ⟨(show (1 : Nat) ≤ 3 by decide), (show (0 : Nat) ≤ 2 by decide), fun _ => ⟨rfl, rfl, rfl⟩, h1c, h1c, fun c hc => ⟨rfl, rfl⟩, fun _ c => rfl, fun _ c => rfl, (fun z => absurd (show (1 : Nat) = 2 from z) (by decide)), (fun z => absurd (show (1 : Nat) = 3 from z) (by decide)), (fun c => GOK.no (cols := cols) c), (fun c => GOK.no (cols := cols) c), (fun z => absurd (show (1 : Nat) = 3 from z) (by decide)), spX_ok h1c N9 e2⟩
theorem spI_ok (h1c : 1 ≤ cols) (N9 : N ≤ 900) {t : Stm} (h : spI x N cols i = .inr (t, j)) : StmOK cols t := by
  unfold spI at h
  cases e : spF x N false true cols cols 0 (i + 1) no4 with
  | inl q => rw [e] at h; cases h
  | inr q =>
    obtain ⟨g, j1⟩ := q
    rw [e] at h
    dsimp only at h
    cases e2 : spX x N cols j1 with
    | inl q => rw [e2] at h; cases h
    | inr q =>
      obtain ⟨ts, j2⟩ := q
      rw [e2] at h
      cases h
      have a1 := spF_ok h1c N9 _ _ _ _ _ _ e GOK.no
      obtain ⟨a2, _, a3⟩ := spF_some _ _ _ _ _ _ e
      exact ⟨(show (2 : Nat) ≤ 3 by decide), (show (0 : Nat) ≤ 2 by decide), fun _ => ⟨rfl, rfl, rfl⟩, h1c, h1c, fun c hc => ⟨rfl, a3 c (by omega)⟩, fun _ c => rfl, (fun z => z.elim (fun z => absurd (show (2 : Nat) = 0 from z) (by decide)) (fun z => absurd (show (2 : Nat) = 1 from z) (by decide))), (fun _ c hc => a2 c (by omega) (by omega)), (fun z => absurd (show (2 : Nat) = 3 from z) (by decide)), (fun c => GOK.no (cols := cols) c), a1, (fun z => absurd (show (2 : Nat) = 3 from z) (by decide)), spX_ok h1c N9 e2⟩
theorem spG_ok (h1c : 1 ≤ cols) (N9 : N ≤ 900) {t : Stm} (h : spG x N cols i = .inr (t, j)) : StmOK cols t := by
  unfold spG at h
  cases e1 : spC x N cols (i + 1) with
  | inl q => rw [e1] at h; cases h
  | inr q =>
    obtain ⟨a, j1⟩ := q
    rw [e1] at h
    dsimp only at h
    cases e2 : spC x N cols j1 with
    | inl q => rw [e2] at h; cases h
    | inr q =>
      obtain ⟨b, j2⟩ := q
      rw [e2] at h
      dsimp only at h
      cases e3 : spG1 x N cols j2 with
      | inl q => rw [e3] at h; cases h
      | inr q =>
        obtain ⟨hh, j3⟩ := q
        rw [e3] at h
        dsimp only at h
        cases e4 : spG2 x N cols j3 with
        | inl q => rw [e4] at h; cases h
        | inr q =>
          obtain ⟨g, j4⟩ := q
          rw [e4] at h
          cases h
          have la := (spC_ps e1).2.2.1
          have lb := (spC_ps e2).2.2.1
          have H : hh.1 ≤ 2 ∧ GOK cols true true hh.2 ∧ (∀ c, cols ≤ c → hh.2 c = none) ∧ (hh.1 ≠ 0 → ∀ c, hh.2 c = none) := by
            unfold spG1 at e3
            by_cases k9 : tK x N j2 = 209
            · rw [if_pos k9] at e3
              cases e5 : spT x N true cols 5 (j2 + 1) no4 with
              | inl q => rw [e5] at e3; cases e3
              | inr q =>
                obtain ⟨g2, j5⟩ := q
                rw [e5] at e3
                cases e3
                obtain ⟨a1, a2⟩ := spT_ok h1c N9 _ _ _ _ _ e5 GOK.no (fun _ _ => rfl)
                exact ⟨(show (0 : Nat) ≤ 2 by decide), a1, a2, fun z => absurd rfl z⟩
            · rw [if_neg k9] at e3
              by_cases k6 : tK x N j2 = 206
              · rw [if_pos k6] at e3
                cases e3
                exact ⟨by decide, GOK.no, fun _ _ => rfl, fun _ _ => rfl⟩
              · rw [if_neg k6] at e3
                by_cases k0 : tK x N j2 = 210
                · rw [if_pos k0] at e3
                  cases e3
                  exact ⟨by decide, GOK.no, fun _ _ => rfl, fun _ _ => rfl⟩
                · rw [if_neg k0] at e3; cases e3
          have G : GOK cols true false g ∧ (∀ c, cols ≤ c → g c = none) ∧ ((∀ c, c < cols → (g c).isSome = true) ∨ ∀ c, g c = none) := by
            unfold spG2 at e4
            by_cases k7 : tK x N j3 = 207
            · rw [if_pos k7] at e4
              have a1 := spF_ok h1c N9 _ _ _ _ _ _ e4 GOK.no
              obtain ⟨a2, _, a3⟩ := spF_some _ _ _ _ _ _ e4
              exact ⟨a1, fun c hc => a3 c (by omega), Or.inl (fun c hc => a2 c (by omega) (by omega))⟩
            · rw [if_neg k7] at e4
              cases e4
              exact ⟨GOK.no, fun _ _ => rfl, Or.inr (fun _ => rfl)⟩
          obtain ⟨H1, H2, H3, H4⟩ := H
          obtain ⟨G1, G2, G3⟩ := G
          exact ⟨(show (3 : Nat) ≤ 3 by decide), H1, (fun z => absurd rfl z), la, lb, (fun c hc => ⟨H3 c hc, G2 c hc⟩), (fun z => z.elim (fun z => absurd (show (3 : Nat) = 1 from z) (by decide)) (fun z => z.elim (fun z => absurd (show (3 : Nat) = 2 from z) (by decide)) (fun z => H4 z.2))), (fun z => z.elim (fun z => absurd (show (3 : Nat) = 0 from z) (by decide)) (fun z => absurd (show (3 : Nat) = 1 from z) (by decide))), (fun z => absurd (show (3 : Nat) = 2 from z) (by decide)), (fun _ => G3), H2, G1, (fun _ => rfl), (fun q hq => nomatch hq)⟩
theorem spStm_ok (h1c : 1 ≤ cols) (N9 : N ≤ 900) {t : Stm} (h : spStm x N cols i = .inr (t, j)) : StmOK cols t := by
  unfold spStm at h
  by_cases e1 : tK x N i = 205
  · rw [if_pos e1] at h; exact spU_ok h1c N9 h
  rw [if_neg e1] at h
  by_cases e2 : tK x N i = 206
  · rw [if_pos e2] at h; exact spD_ok h1c N9 h
  rw [if_neg e2] at h
  by_cases e3 : tK x N i = 207
  · rw [if_pos e3] at h; exact spI_ok h1c N9 h
  rw [if_neg e3] at h
  exact spG_ok h1c N9 h
/-! the whole text -/
def TelOK (t : Tel) : Prop := ScrOK t.1 ∧ TabG t.1 (tlT t.2.1 t.2.2) ∧ t.2.1 ≤ 30
theorem tel0_ok : TelOK tel0 := by
  refine ⟨⟨by decide, by decide, by decide, fun q hq => (by cases hq), fun i _ => b_0 i, by decide, fun f hf => (by cases hf), by decide, fun t ht => (by cases ht)⟩, ⟨fun p _ tp => ?_, rfl⟩, by decide⟩
  have : decide (p < 0) = true := tp
  rw [decide_eq_true_eq] at this
  omega
theorem spR_ok : ∀ k c i g g' j, spR x N k c i g = .inr (g', j) → (∀ d, d < c → okN (g d)) → (∀ d, d < c + k → okN (g' d)) ∧ (∀ d, c + k ≤ d → g' d = g d) := by
  intro k
  induction k with
  | zero => intro c i g g' j h h1; cases h; exact ⟨h1, fun _ _ => rfl⟩
  | succ k ih =>
    intro c i g g' j h h1
    rw [spR] at h
    cases e : spS x N i with
    | inl q => rw [e] at h; cases h
    | inr q =>
      obtain ⟨v, j2⟩ := q
      rw [e] at h
      have o := (spS_ps e).2.2.1
      obtain ⟨a1, a2⟩ := ih _ _ _ _ _ h (fun d hd => by
        by_cases q : d = c
        · rw [if_pos q]; exact o
        · rw [if_neg q]; exact h1 d (by omega))
      refine ⟨fun d hd => a1 d (by omega), fun d hd => ?_⟩
      rw [a2 d (by omega), if_neg (by omega)]
end
