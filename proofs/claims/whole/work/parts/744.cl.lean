/-! Clauses keep what holds of a text. -/
section
variable {i j N cols : Nat} {x : Nat → Nat} {t t2 : Tel}
theorem bt_hi (w : Int32) {i : Nat} (h : 32 ≤ i) : bt w i = false := BitVec.getLsbD_of_ge _ _ h
theorem spR_up : ∀ k c i g g' j, spR x N k c i g = .inr (g', j) → ps x N i ≤ ps x N j ∧ i ≤ j := by
  intro k
  induction k with
  | zero => intro c i g g' j h; cases h; exact ⟨Nat.le_refl _, Nat.le_refl _⟩
  | succ k ih =>
    intro c i g g' j h
    rw [spR] at h
    cases e : spS x N i with
    | inl q => rw [e] at h; cases h
    | inr q =>
      obtain ⟨v, j2⟩ := q
      rw [e] at h
      obtain ⟨_, o1, _, o2⟩ := spS_ps e
      have := ih _ _ _ _ _ h
      omega
theorem spKo_ps {a : Nat} {b : Option Nat} (h : spKo x N cols i a = .inr (b, j)) : (∀ c, b = some c → c < cols ∧ c ≠ a) ∧ ps x N i ≤ ps x N j ∧ i ≤ j := by
  unfold spKo at h
  by_cases e : tK x N i = 130
  · rw [if_pos e] at h
    by_cases e2 : tN x N i = a
    · rw [if_pos e2] at h; cases h
    · rw [if_neg e2] at h
      by_cases e3 : tN x N i < cols
      · rw [if_pos e3] at h
        cases h
        have := ps_1 (x := x) (N := N) (i := i) (by omega)
        refine ⟨fun c hc => ?_, by omega, by omega⟩
        cases hc
        exact ⟨e3, e2⟩
      · rw [if_neg e3] at h; cases h
  · rw [if_neg e] at h
    cases h
    exact ⟨fun c hc => (by cases hc), Nat.le_refl _, Nat.le_refl _⟩
theorem spX_up (h1c : 1 ≤ cols) (N9 : N ≤ 900) {ts : List Tst} (h : spX x N cols i = .inr (ts, j)) : ps x N i ≤ ps x N j ∧ i ≤ j := by
  have H : ∀ f i acc ts j, spH x N cols f i acc = .inr (ts, j) → tK x N i ≠ 132 → ps x N i ≤ ps x N j ∧ i ≤ j := by
    intro f
    induction f with
    | zero => intro i acc ts j h; cases h
    | succ f ih =>
      intro i acc ts j h hk
      have a0 := ps_1 hk
      rw [spH] at h
      cases e : spW x N false true cols (i + 1) with
      | inl q => rw [e] at h; cases h
      | inr q =>
        obtain ⟨l, j1⟩ := q
        rw [e] at h
        have h : (if isCm (tK x N j1) = true then (match spW x N false true cols (j1 + 1) with
          | .inl e => .inl e
          | .inr (r, j2) => if tK x N j2 = 216 then spH x N cols f j2 (acc ++ [(l, nI (tK x N j1), r)]) else .inr (acc ++ [(l, nI (tK x N j1), r)], j2)) else .inl (1, j1)) = (.inr (ts, j) : PE (List Tst)) := h
        obtain ⟨_, a1, a2, _⟩ := spW_ps h1c N9 e
        by_cases cm : isCm (tK x N j1) = true
        · rw [if_pos cm] at h
          have := isCm_cs cm
          have a3 := ps_1 (x := x) (N := N) (i := j1) (by omega)
          cases e2 : spW x N false true cols (j1 + 1) with
          | inl q => rw [e2] at h; cases h
          | inr q =>
            obtain ⟨r, j2⟩ := q
            rw [e2] at h
            obtain ⟨_, a4, a5, _⟩ := spW_ps h1c N9 e2
            have h : (if tK x N j2 = 216 then spH x N cols f j2 (acc ++ [(l, nI (tK x N j1), r)]) else .inr (acc ++ [(l, nI (tK x N j1), r)], j2)) = (.inr (ts, j) : PE (List Tst)) := h
            by_cases e4 : tK x N j2 = 216
            · rw [if_pos e4] at h
              have := ih _ _ _ _ h (by omega)
              omega
            · rw [if_neg e4] at h
              cases h
              omega
        · rw [if_neg cm] at h; cases h
  unfold spX at h
  by_cases e : tK x N i = 215
  · rw [if_pos e] at h
    exact H _ _ _ _ _ h (by omega)
  · rw [if_neg e] at h
    cases h
    exact ⟨Nat.le_refl _, Nat.le_refl _⟩
theorem spStm_up (h1c : 1 ≤ cols) (N9 : N ≤ 900) {s : Stm} (hk : 205 ≤ tK x N i ∧ tK x N i ≤ 208) (h : spStm x N cols i = .inr (s, j)) : ps x N i + 1 ≤ ps x N j ∧ i < j := by
  have a0 := ps_1 (x := x) (N := N) (i := i) (by omega)
  unfold spStm at h
  by_cases e1 : tK x N i = 205
  · rw [if_pos e1] at h
    unfold spU at h
    cases e : spT x N false cols 5 (i + 1) no4 with
    | inl q => rw [e] at h; cases h
    | inr q =>
      obtain ⟨g, j1⟩ := q
      rw [e] at h
      dsimp only at h
      cases e2 : spX x N cols j1 with
      | inl q => rw [e2] at h; cases h
      | inr q =>
        obtain ⟨ts, j2⟩ := q
        rw [e2] at h
        cases h
        have := spT_up h1c N9 _ _ _ _ _ e
        have := spX_up h1c N9 e2
        omega
  rw [if_neg e1] at h
  by_cases e2 : tK x N i = 206
  · rw [if_pos e2] at h
    unfold spD at h
    cases e2 : spX x N cols (i + 1) with
    | inl q => rw [e2] at h; cases h
    | inr q =>
      obtain ⟨ts, j2⟩ := q
      rw [e2] at h
      cases h
      have := spX_up h1c N9 e2
      omega
  rw [if_neg e2] at h
  by_cases e3 : tK x N i = 207
  · rw [if_pos e3] at h
    unfold spI at h
    cases e : spF x N false true cols cols 0 (i + 1) no4 with
    | inl q => rw [e] at h; cases h
    | inr q =>
      obtain ⟨g, j1⟩ := q
      rw [e] at h
      dsimp only at h
      cases e2 : spX x N cols j1 with
      | inl q => rw [e2] at h; cases h
      | inr q =>
        obtain ⟨ts, j2⟩ := q
        rw [e2] at h
        cases h
        have := spF_up h1c N9 _ _ _ _ _ _ e
        have := spX_up h1c N9 e2
        omega
  rw [if_neg e3] at h
  unfold spG at h
  cases e1 : spC x N cols (i + 1) with
  | inl q => rw [e1] at h; cases h
  | inr q =>
    obtain ⟨a, j1⟩ := q
    rw [e1] at h
    dsimp only at h
    obtain ⟨k1, _, _, rfl⟩ := spC_ps e1
    have a1 := ps_1 (x := x) (N := N) (i := i + 1) (by omega)
    cases e2 : spC x N cols (i + 1 + 1) with
    | inl q => rw [e2] at h; cases h
    | inr q =>
      obtain ⟨b, j2⟩ := q
      rw [e2] at h
      dsimp only at h
      obtain ⟨k2, _, _, rfl⟩ := spC_ps e2
      have a2 := ps_1 (x := x) (N := N) (i := i + 1 + 1) (by omega)
      generalize ej : i + 1 + 1 + 1 = j2 at *
      cases e3 : spG1 x N cols j2 with
      | inl q => rw [e3] at h; cases h
      | inr q =>
        obtain ⟨hh, j3⟩ := q
        rw [e3] at h
        dsimp only at h
        cases e4 : spG2 x N cols j3 with
        | inl q => rw [e4] at h; cases h
        | inr q =>
          obtain ⟨g, j4⟩ := q
          rw [e4] at h
          cases h
          have H : ps x N j2 ≤ ps x N j3 ∧ j2 ≤ j3 := by
            unfold spG1 at e3
            by_cases k9 : tK x N j2 = 209
            · rw [if_pos k9] at e3
              have a3 := ps_1 (x := x) (N := N) (i := j2) (by omega)
              cases e5 : spT x N true cols 5 (j2 + 1) no4 with
              | inl q => rw [e5] at e3; cases e3
              | inr q =>
                obtain ⟨g2, j5⟩ := q
                rw [e5] at e3
                cases e3
                have := spT_up h1c N9 _ _ _ _ _ e5
                omega
            · rw [if_neg k9] at e3
              by_cases k6 : tK x N j2 = 206
              · rw [if_pos k6] at e3
                have a3 := ps_1 (x := x) (N := N) (i := j2) (by omega)
                cases e3
                omega
              · rw [if_neg k6] at e3
                by_cases k0 : tK x N j2 = 210
                · rw [if_pos k0] at e3
                  have a3 := ps_1 (x := x) (N := N) (i := j2) (by omega)
                  cases e3
                  omega
                · rw [if_neg k0] at e3; cases e3
          have G : ps x N j3 ≤ ps x N j ∧ j3 ≤ j := by
            unfold spG2 at e4
            by_cases k7 : tK x N j3 = 207
            · rw [if_pos k7] at e4
              have a3 := ps_1 (x := x) (N := N) (i := j3) (by omega)
              have := spF_up h1c N9 _ _ _ _ _ _ e4
              omega
            · rw [if_neg k7] at e4
              cases e4
              omega
          omega
theorem spE_ps {α : Type} {r : PE α} {a : α} (h : spE x N r = .inr (a, j)) : ∃ j1, r = .inr (a, j1) ∧ tK x N j1 = 59 ∧ j = j1 + 1 := by
  cases r with
  | inl e => cases h
  | inr q =>
    obtain ⟨b, j1⟩ := q
    have h : (if tK x N j1 = 59 then .inr (b, j1 + 1) else .inl (1, j1)) = (.inr (a, j) : PE α) := h
    by_cases e : tK x N j1 = 59
    · rw [if_pos e] at h
      cases h
      exact ⟨j1, rfl, e, rfl⟩
    · rw [if_neg e] at h; cases h
theorem spCl_ok (N9 : N ≤ 900) {first : Bool} (hT : TelOK t) (hf : first = true → t = tel0) (h : spCl x N first t i = .inr (t2, j)) : TelOK t2 ∧ i < j := by
  obtain ⟨⟨o1, o2, o3, o4, o5, o6, o7, o8, o9⟩, ⟨g1, g2⟩, r30⟩ := hT
  unfold spCl at h
  by_cases e0 : tK x N i = 200
  · rw [if_pos e0] at h
    unfold spCol at h
    cases first with
    | false => rw [if_neg (by decide)] at h; cases h
    | true =>
      rw [if_pos rfl] at h
      have := hf rfl
      subst this
      by_cases e1 : tK x N (i + 1) = 129
      · rw [if_pos e1] at h; cases h
      rw [if_neg e1] at h
      by_cases e2 : tK x N (i + 1) = 128
      · rw [if_pos e2] at h
        by_cases e3 : 1 ≤ tN x N (i + 1) ∧ tN x N (i + 1) ≤ 4
        · rw [if_pos e3] at h
          by_cases e4 : tK x N (i + 2) = 59
          · rw [if_pos e4] at h
            cases h
            refine ⟨⟨⟨e3.1, e3.2, (show (0 : Nat) ≤ 3 by decide), (fun q hq => nomatch hq), (fun i _ => b_0 i), (show (0 : Nat) ≤ 10 by decide), (fun f hf => nomatch hf), (show (0 : Nat) ≤ 8 by decide), (fun t ht => nomatch ht)⟩, ⟨fun p _ tp => ?_, rfl⟩, (show (0 : Nat) ≤ 30 by decide)⟩, by omega⟩
            have : decide (p < 0) = true := tp
            rw [decide_eq_true_eq] at this
            omega
          · rw [if_neg e4] at h; cases h
        · rw [if_neg e3] at h; cases h
      · rw [if_neg e2] at h; cases h
  rw [if_neg e0] at h
  by_cases e1 : tK x N i = 201
  · rw [if_pos e1] at h
    unfold spRow at h
    by_cases r3 : t.2.1 < 30
    · rw [if_pos r3] at h
      cases er : spR x N (sCols t.1) 0 (i + 1) (fun _ => 0) with
      | inl q => rw [er] at h; cases h
      | inr q =>
        obtain ⟨v, j1⟩ := q
        rw [er] at h
        have h : (if tK x N j1 = 59 then (if sClash 30 t.1 (tlT (t.2.1 + 1) (fun p => if p = t.2.1 then v else t.2.2 p)) = none then .inr ((t.1, t.2.1 + 1, fun p => if p = t.2.1 then v else t.2.2 p), j1 + 1) else .inl (4, j1)) else .inl (1, j1)) = (.inr (t2, j) : PE Tel) := h
        have up := spR_up _ _ _ _ _ _ er
        have ok := (spR_ok _ _ _ _ _ _ er (fun d hd => absurd hd (Nat.not_lt_zero d))).1
        by_cases k59 : tK x N j1 = 59
        · rw [if_pos k59] at h
          by_cases kc : sClash 30 t.1 (tlT (t.2.1 + 1) (fun p => if p = t.2.1 then v else t.2.2 p)) = none
          · rw [if_pos kc] at h
            cases h
            refine ⟨⟨⟨o1, o2, o3, o4, o5, o6, o7, o8, o9⟩, ⟨fun p hp tp c hc => ?_, kc⟩, (show t.2.1 + 1 ≤ 30 by omega)⟩, by omega⟩
            have tp : decide (p < t.2.1 + 1) = true := tp
            rw [decide_eq_true_eq] at tp
            show okN ((if p = t.2.1 then v else t.2.2 p) c)
            by_cases d : p = t.2.1
            · rw [if_pos d]; exact ok c (by have : c < sCols t.1 := hc; omega)
            · rw [if_neg d]; exact g1 p hp (decide_eq_true (by omega)) c hc
          · rw [if_neg kc] at h; cases h
        · rw [if_neg k59] at h; cases h
    · rw [if_neg r3] at h; cases h
  rw [if_neg e1] at h
  by_cases e2 : tK x N i = 202
  · rw [if_pos e2] at h
    unfold spOth at h
    by_cases r3 : (sOth t.1).length < 10
    · rw [if_pos r3] at h
      cases er : spR x N (sCols t.1) 0 (i + 1) (fun _ => 0) with
      | inl q => rw [er] at h; cases h
      | inr q =>
        obtain ⟨v, j1⟩ := q
        rw [er] at h
        have h : (if tK x N j1 = 59 then .inr (((t.1.1, t.1.2.1, t.1.2.2.1, t.1.2.2.2.1 ++ [v], t.1.2.2.2.2), t.2), j1 + 1) else .inl (1, j1)) = (.inr (t2, j) : PE Tel) := h
        have up := spR_up _ _ _ _ _ _ er
        have ok := (spR_ok _ _ _ _ _ _ er (fun d hd => absurd hd (Nat.not_lt_zero d))).1
        by_cases k59 : tK x N j1 = 59
        · rw [if_pos k59] at h
          cases h
          refine ⟨⟨⟨o1, o2, o3, o4, o5, ?_, fun f hf c hc => ?_, o8, o9⟩, ⟨g1, g2⟩, r30⟩, by omega⟩
          · show (sOth t.1 ++ [v]).length ≤ 10
            rw [List.length_append, List.length_singleton]
            omega
          · rcases List.mem_append.mp (show f ∈ sOth t.1 ++ [v] from hf) with z | z
            · exact o7 f z c hc
            · rw [List.mem_singleton] at z
              subst z
              exact ok c (by have : c < sCols t.1 := hc; omega)
        · rw [if_neg k59] at h; cases h
    · rw [if_neg r3] at h; cases h
  rw [if_neg e2] at h
  have idx : ∀ ky, spK x N ky t i = .inr (t2, j) → TelOK t2 ∧ i < j := by
    intro ky h
    unfold spK at h
    by_cases r3 : (sIdx t.1).length < 3
    · rw [if_pos r3] at h
      cases er : spC x N (sCols t.1) (i + 1) with
      | inl q => rw [er] at h; cases h
      | inr q =>
        obtain ⟨a, j1⟩ := q
        rw [er] at h
        dsimp only at h
        obtain ⟨_, _, la, rfl⟩ := spC_ps er
        cases eo : spKo x N (sCols t.1) (i + 1 + 1) a with
        | inl q => rw [eo] at h; cases h
        | inr q =>
          obtain ⟨b, j2⟩ := q
          rw [eo] at h
          have h : (if tK x N j2 = 59 then (if sClash 30 (scIx t.1 (a, b) ky) (tlT t.2.1 t.2.2) = none then .inr ((scIx t.1 (a, b) ky, t.2), j2 + 1) else .inl (4, j2)) else .inl (1, j2)) = (.inr (t2, j) : PE Tel) := h
          obtain ⟨lb, _, up⟩ := spKo_ps eo
          by_cases k59 : tK x N j2 = 59
          · rw [if_pos k59] at h
            by_cases kc : sClash 30 (scIx t.1 (a, b) ky) (tlT t.2.1 t.2.2) = none
            · rw [if_pos kc] at h
              cases h
              have ls : (sIdx (scIx t.1 (a, b) ky)).length = (sIdx t.1).length + 1 := by
                show (sIdx t.1 ++ [(a, b)]).length = _
                rw [List.length_append, List.length_singleton]
              refine ⟨⟨⟨o1, o2, ?_, fun q hq => ?_, fun i hi => ?_, o6, o7, o8, o9⟩, ⟨g1, kc⟩, r30⟩, by omega⟩
              · show (sIdx (scIx t.1 (a, b) ky)).length ≤ 3
                omega
              · rcases List.mem_append.mp (show q ∈ sIdx t.1 ++ [(a, b)] from hq) with z | z
                · exact o4 q z
                · rw [List.mem_singleton] at z
                  subst z
                  exact ⟨la, fun c hc => lb c hc⟩
              · have hi : (sIdx t.1).length + 1 ≤ i := by rw [← ls]; exact hi
                show bt (if ky = true then sKeys t.1 ||| ((1 : Int32) <<< (nI (sIdx t.1).length &&& 31)) else sKeys t.1) i = false
                cases ky
                · exact o5 i (by omega)
                · rw [if_pos rfl]
                  by_cases i32 : i < 32
                  · rw [b_set _ (by omega) i i32, if_neg (by omega)]
                    exact o5 i (by omega)
                  · exact bt_hi _ (by omega)
            · rw [if_neg kc] at h; cases h
          · rw [if_neg k59] at h; cases h
    · rw [if_neg r3] at h; cases h
  by_cases e3 : tK x N i = 203
  · rw [if_pos e3] at h; exact idx _ h
  rw [if_neg e3] at h
  by_cases e4 : tK x N i = 204
  · rw [if_pos e4] at h; exact idx _ h
  rw [if_neg e4] at h
  by_cases e5 : 205 ≤ tK x N i ∧ tK x N i ≤ 208
  · rw [if_pos e5] at h
    unfold spSt at h
    by_cases r3 : (sStm t.1).length < 8
    · rw [if_pos r3] at h
      cases er : spE x N (spStm x N (sCols t.1) i) with
      | inl q => rw [er] at h; cases h
      | inr q =>
        obtain ⟨s, j1⟩ := q
        rw [er] at h
        cases h
        obtain ⟨j0, es, _, rfl⟩ := spE_ps er
        have up := spStm_up o1 N9 e5 es
        have sok := spStm_ok o1 N9 es
        refine ⟨⟨⟨o1, o2, o3, o4, o5, o6, o7, ?_, fun q hq => ?_⟩, ⟨g1, g2⟩, r30⟩, by omega⟩
        · show (sStm t.1 ++ [s]).length ≤ 8
          rw [List.length_append, List.length_singleton]
          omega
        · rcases List.mem_append.mp (show q ∈ sStm t.1 ++ [s] from hq) with z | z
          · exact o9 q z
          · rw [List.mem_singleton] at z
            subst z
            exact sok
    · rw [if_neg r3] at h; cases h
  · rw [if_neg e5] at h; cases h
end
