/-! A table and the reference's wide one, while writes of a right run are done in any order. -/
def wpl (t : Stm) (pl : Option Nat) (i : Nat) : Nat := if isNewS t pl = true then 30 + i else pl.getD 0
def QR (S : Scr) (t : Stm) (I : List Itm) (w : Nat) (U : Nat → Bool) (R W : Tab) (φ : Nat → Nat) : Prop :=
  (∀ p, p < 30 → R.1 p = true → φ p < 230 ∧ W.1 (φ p) = true ∧ ∀ c, c < sCols S → R.2 p c = W.2 (φ p) c)
  ∧ (∀ p q, p < 30 → q < 30 → R.1 p = true → R.1 q = true → φ p = φ q → p = q)
  ∧ (∀ x, x < 230 → W.1 x = true → ∃ p, p < 30 ∧ R.1 p = true ∧ φ p = x)
  ∧ (∀ i, i < w → U i = false → isNewS t (itm I i).1 = false → ∃ p, (itm I i).1 = some p ∧ p < 30 ∧ R.1 p = true ∧ φ p = p)
  ∧ (∀ i, i < w → U i = false → isNewS t (itm I i).1 = true → W.1 (30 + i) = false)
theorem up_t {α : Type} {f : Nat → α} {i j : Nat} {v : α} (h : j = i) : va_up f i v j = v := by unfold va_up; rw [if_pos h]
theorem up_n {α : Type} {f : Nat → α} {i j : Nat} {v : α} (h : ¬ j = i) : va_up f i v j = f j := by unfold va_up; rw [if_neg h]
theorem put_new {R : Tab} {t : Stm} {pl : Option Nat} {q : Nat} {mk : Nat → Int32} (nw : isNewS t pl = true) : sPut R t pl q mk = (va_up R.1 q true, va_up R.2 q mk) := by
  unfold sPut
  rw [if_pos nw]
theorem put_gone {R : Tab} {t : Stm} {pl : Option Nat} {q : Nat} {mk : Nat → Int32} (nw : isNewS t pl = false) (g : tCh t = 1) : sPut R t pl q mk = (va_up R.1 q false, R.2) := by
  unfold sPut
  rw [nw, if_neg (by decide), if_pos g]
theorem put_set {R : Tab} {t : Stm} {pl : Option Nat} {q : Nat} {mk : Nat → Int32} (nw : isNewS t pl = false) (g : ¬ tCh t = 1) : sPut R t pl q mk = (va_up R.1 q true, va_up R.2 q (fun c => if (tSet t c).isSome = true then mk c else R.2 q c)) := by
  unfold sPut
  rw [nw, if_neg (by decide), if_neg g]
theorem QR.step {S : Scr} {t : Stm} {I : List Itm} {w : Nat} {U : Nat → Bool} {R W : Tab} {φ : Nat → Nat} {i q : Nat} {mk : Nat → Int32} (h : QR S t I w U R W φ) (hD : Dst I) (hw : w ≤ I.length) (hw2 : w ≤ 200) (hi : i < w) (hU : U i = false) (hq : sAt R t (itm I i).1 = some q) : ∃ ψ, QR S t I w (va_up U i true) (sPut R t (itm I i).1 q mk) (sPut W t (itm I i).1 (wpl t (itm I i).1 i) mk) ψ := by
  obtain ⟨h1, h2, h3, h4, h5⟩ := h
  have un : ∀ j, va_up U i true j = false → ¬ j = i ∧ U j = false := fun j hj => by
    by_cases e : j = i
    · rw [up_t e] at hj; cases hj
    · rw [up_n e] at hj; exact ⟨e, hj⟩
  rcases bcs (isNewS t (itm I i).1) with nw | nw
  · obtain ⟨p, hp, p30, Rp, φp⟩ := h4 i hi hU nw
    have eq : q = p := by
      unfold sAt at hq
      rw [if_neg (by rw [nw]; decide), hp] at hq
      cases hq
      rfl
    subst eq
    have ew : wpl t (itm I i).1 i = q := by unfold wpl; rw [if_neg (by rw [nw]; decide), hp]; rfl
    rw [ew]
    have Wq : W.1 q = true := by have := (h1 q p30 Rp).2.1; rw [φp] at this; exact this
    have ne : ∀ j, j < w → ¬ j = i → (itm I j).1 = some q → False := fun j hj hn e => by
      rcases Nat.lt_or_gt_of_ne hn with l | l
      · exact dst_ne hD l (by omega) e hp
      · exact dst_ne hD l (by omega) hp e
    by_cases g : tCh t = 1
    · rw [put_gone nw g, put_gone nw g]
      refine ⟨φ, fun p hp' Rp' => ?_, fun a b ha hb Ra Rb e => ?_, fun x hx Wx => ?_, fun j hj hUj nj => ?_, fun j hj hUj nj => ?_⟩
      · have Rp' : va_up R.1 q false p = true := Rp'
        have pn : ¬ p = q := fun e => by rw [up_t e] at Rp'; cases Rp'
        rw [up_n pn] at Rp'
        obtain ⟨a1, a2, a3⟩ := h1 p hp' Rp'
        refine ⟨a1, ?_, a3⟩
        show va_up W.1 q false (φ p) = true
        rw [up_n (fun e => pn (h2 p q hp' p30 Rp' Rp (e.trans φp.symm)))]
        exact a2
      · have Ra : va_up R.1 q false a = true := Ra
        have Rb : va_up R.1 q false b = true := Rb
        have an : ¬ a = q := fun e => by rw [up_t e] at Ra; cases Ra
        have bn : ¬ b = q := fun e => by rw [up_t e] at Rb; cases Rb
        rw [up_n an] at Ra
        rw [up_n bn] at Rb
        exact h2 a b ha hb Ra Rb e
      · have Wx : va_up W.1 q false x = true := Wx
        have xn : ¬ x = q := fun e => by rw [up_t e] at Wx; cases Wx
        rw [up_n xn] at Wx
        obtain ⟨p', b1, b2, b3⟩ := h3 x hx Wx
        refine ⟨p', b1, ?_, b3⟩
        show va_up R.1 q false p' = true
        rw [up_n (fun e => xn (by rw [← b3, e, φp]))]
        exact b2
      · obtain ⟨jn, Uj⟩ := un j hUj
        obtain ⟨p', b1, b2, b3, b4⟩ := h4 j hj Uj nj
        refine ⟨p', b1, b2, ?_, b4⟩
        show va_up R.1 q false p' = true
        rw [up_n (fun e => ne j hj jn (by rw [b1, e]))]
        exact b3
      · obtain ⟨jn, Uj⟩ := un j hUj
        show va_up W.1 q false (30 + j) = false
        by_cases e : 30 + j = q
        · rw [up_t e]
        · rw [up_n e]; exact h5 j hj Uj nj
    · rw [put_set nw g, put_set nw g]
      have rt : ∀ p, va_up R.1 q true p = R.1 p := fun p => by
        by_cases e : p = q
        · rw [up_t e, e, Rp]
        · rw [up_n e]
      have wt : ∀ p, va_up W.1 q true p = W.1 p := fun p => by
        by_cases e : p = q
        · rw [up_t e, e, Wq]
        · rw [up_n e]
      refine ⟨φ, fun p hp' Rp' => ?_, fun a b ha hb Ra Rb e => ?_, fun x hx Wx => ?_, fun j hj hUj nj => ?_, fun j hj hUj nj => ?_⟩
      · have Rp' : va_up R.1 q true p = true := Rp'
        rw [rt] at Rp'
        obtain ⟨a1, a2, a3⟩ := h1 p hp' Rp'
        refine ⟨a1, ?_, fun c hc => ?_⟩
        · show va_up W.1 q true (φ p) = true
          rw [wt]; exact a2
        · show va_up R.2 q _ p c = va_up W.2 q _ (φ p) c
          by_cases e : p = q
          · subst e
            rw [up_t rfl, up_t φp]
            have := a3 c hc
            rw [φp] at this
            rw [this]
          · rw [up_n e, up_n (fun z => e (h2 p q hp' p30 Rp' Rp (z.trans φp.symm)))]
            exact a3 c hc
      · have Ra : va_up R.1 q true a = true := Ra
        have Rb : va_up R.1 q true b = true := Rb
        rw [rt] at Ra Rb
        exact h2 a b ha hb Ra Rb e
      · have Wx : va_up W.1 q true x = true := Wx
        rw [wt] at Wx
        obtain ⟨p', b1, b2, b3⟩ := h3 x hx Wx
        exact ⟨p', b1, by show va_up R.1 q true p' = true; rw [rt]; exact b2, b3⟩
      · obtain ⟨jn, Uj⟩ := un j hUj
        obtain ⟨p', b1, b2, b3, b4⟩ := h4 j hj Uj nj
        exact ⟨p', b1, b2, by show va_up R.1 q true p' = true; rw [rt]; exact b3, b4⟩
      · obtain ⟨jn, Uj⟩ := un j hUj
        show va_up W.1 q true (30 + j) = false
        rw [wt]; exact h5 j hj Uj nj
  · have fr : sFree R = some q := by
      unfold sAt at hq
      rw [if_pos nw] at hq
      exact hq
    obtain ⟨q30, Rq, _⟩ := sFree_some fr
    have ew : wpl t (itm I i).1 i = 30 + i := by unfold wpl; rw [if_pos nw]
    have Wi := h5 i hi hU nw
    rw [ew, put_new nw, put_new nw]
    have φn : ∀ p, p < 30 → R.1 p = true → ¬ φ p = 30 + i := fun p hp Rp e => by
      have := (h1 p hp Rp).2.1
      rw [e, Wi] at this
      cases this
    refine ⟨va_up φ q (30 + i), fun p hp' Rp' => ?_, fun a b ha hb Ra Rb e => ?_, fun x hx Wx => ?_, fun j hj hUj nj => ?_, fun j hj hUj nj => ?_⟩
    · have Rp' : va_up R.1 q true p = true := Rp'
      by_cases e : p = q
      · rw [up_t e]
        refine ⟨by omega, by show va_up W.1 (30 + i) true (30 + i) = true; rw [up_t rfl], fun c hc => ?_⟩
        show va_up R.2 q mk p c = va_up W.2 (30 + i) mk (30 + i) c
        rw [up_t e, up_t rfl]
      · rw [up_n e] at Rp' ⊢
        obtain ⟨a1, a2, a3⟩ := h1 p hp' Rp'
        have fn := φn p hp' Rp'
        refine ⟨a1, by show va_up W.1 (30 + i) true (φ p) = true; rw [up_n fn]; exact a2, fun c hc => ?_⟩
        show va_up R.2 q mk p c = va_up W.2 (30 + i) mk (φ p) c
        rw [up_n e, up_n fn]
        exact a3 c hc
    · have Ra : va_up R.1 q true a = true := Ra
      have Rb : va_up R.1 q true b = true := Rb
      by_cases ea : a = q
      · by_cases eb : b = q
        · rw [ea, eb]
        · rw [up_n eb] at Rb
          rw [up_t ea, up_n eb] at e
          exact absurd e.symm (φn b hb Rb)
      · rw [up_n ea] at Ra
        by_cases eb : b = q
        · rw [up_n ea, up_t eb] at e
          exact absurd e (φn a ha Ra)
        · rw [up_n eb] at Rb
          rw [up_n ea, up_n eb] at e
          exact h2 a b ha hb Ra Rb e
    · have Wx : va_up W.1 (30 + i) true x = true := Wx
      by_cases e : x = 30 + i
      · exact ⟨q, q30, by show va_up R.1 q true q = true; rw [up_t rfl], by rw [up_t rfl, e]⟩
      · rw [up_n e] at Wx
        obtain ⟨p', b1, b2, b3⟩ := h3 x hx Wx
        have pn : ¬ p' = q := fun z => by rw [z, Rq] at b2; cases b2
        exact ⟨p', b1, by show va_up R.1 q true p' = true; rw [up_n pn]; exact b2, by rw [up_n pn]; exact b3⟩
    · obtain ⟨jn, Uj⟩ := un j hUj
      obtain ⟨p', b1, b2, b3, b4⟩ := h4 j hj Uj nj
      have pn : ¬ p' = q := fun z => by rw [z, Rq] at b3; cases b3
      exact ⟨p', b1, b2, by show va_up R.1 q true p' = true; rw [up_n pn]; exact b3, by rw [up_n pn]; exact b4⟩
    · obtain ⟨jn, Uj⟩ := un j hUj
      show va_up W.1 (30 + i) true (30 + j) = false
      rw [up_n (by omega)]
      exact h5 j hj Uj nj
theorem QR.clash {S : Scr} {t : Stm} {I : List Itm} {w : Nat} {U : Nat → Bool} {R W : Tab} {φ : Nat → Nat} (hO : ScrOK S) (h : QR S t I w U R W φ) : sClash 30 S R = none ↔ sClash 230 S W = none := by
  obtain ⟨h1, h2, h3, _, _⟩ := h
  rw [clash_none, clash_none]
  have e : ∀ i, i < (sIdx S).length → ∀ p q, p < 30 → q < 30 → R.1 p = true → R.1 q = true → kEq S R i p q = kEq S W i (φ p) (φ q) := fun i hi p q hp hq Rp Rq => kEq_congc hO hi (h1 p hp Rp).2.2 (h1 q hq Rq).2.2
  constructor
  · intro g i hi hb a b hab hb' Wa Wb
    obtain ⟨p, p1, p2, p3⟩ := h3 a (by omega) Wa
    obtain ⟨q, q1, q2, q3⟩ := h3 b hb' Wb
    have pq : ¬ p = q := fun z => by rw [← p3, ← q3, z] at hab; omega
    rw [← p3, ← q3, ← e i hi p q p1 q1 p2 q2]
    rcases Nat.lt_or_gt_of_ne pq with l | l
    · exact g i hi hb p q l q1 p2 q2
    · rw [kEq_symm]; exact g i hi hb q p l p1 q2 p2
  · intro g i hi hb p q hpq hq Rp Rq
    have pq : ¬ φ p = φ q := fun z => by have := h2 p q (by omega) hq Rp Rq z; omega
    obtain ⟨a1, a2, _⟩ := h1 p (by omega) Rp
    obtain ⟨b1, b2, _⟩ := h1 q hq Rq
    rw [e i hi p q (by omega) hq Rp Rq]
    rcases Nat.lt_or_gt_of_ne pq with l | l
    · exact g i hi hb _ _ l b1 a2 b2
    · rw [kEq_symm]; exact g i hi hb _ _ l a1 b2 a2
def wid0 (T : Tab) : Tab := (fun x => decide (x < 30) && T.1 x, T.2)
theorem QR.start {S : Scr} {t : Stm} {I : List Itm} {w : Nat} {T : Tab} (hw : w ≤ I.length) (hI : ∀ q ∈ I, ∀ p, q.1 = some p → p < 30 ∧ T.1 p = true) : QR S t I w (fun _ => false) T (wid0 T) (fun p => p) := by
  refine ⟨fun p hp Rp => ⟨by show p < 230; omega, by show (decide (p < 30) && T.1 p) = true; rw [Rp, decide_eq_true hp]; rfl, fun _ _ => rfl⟩, fun p q _ _ _ _ e => e, fun x hx Wx => ?_, fun i hi _ nw => ?_, fun i hi _ _ => ?_⟩
  · have Wx : (decide (x < 30) && T.1 x) = true := Wx
    rw [Bool.and_eq_true, decide_eq_true_eq] at Wx
    exact ⟨x, Wx.1, Wx.2, rfl⟩
  · cases hp : (itm I i).1 with
    | none =>
      unfold isNewS at nw
      rw [hp] at nw
      simp at nw
    | some p =>
      have := hI (itm I i) (by rw [← itm_eq (show i < I.length by omega)]; exact List.getElem_mem _) p hp
      exact ⟨p, rfl, this.1, this.2, rfl⟩
  · show (decide (30 + i < 30) && T.1 (30 + i)) = false
    rw [decide_eq_false (by omega)]
    rfl
/-! how many rows there are -/
theorem cnt_s (N : Nat) (f : Nat → Bool) : cnt (N + 1) f = cnt N f + if f N = true then 1 else 0 := by
  unfold cnt
  rw [List.range_succ, List.countP_append, List.countP_singleton]
theorem cnt_cong {N : Nat} {f g : Nat → Bool} (h : ∀ q, q < N → f q = g q) : cnt N f = cnt N g := Nat.le_antisymm (cnt_mono (fun q hq z => by rw [h q hq] at z; exact z)) (cnt_mono (fun q hq z => by rw [h q hq]; exact z))
theorem cnt_up {f : Nat → Bool} {p : Nat} : ∀ N, p < N → f p = false → cnt N (va_up f p true) = cnt N f + 1 := by
  intro N
  induction N with
  | zero => intro h; exact absurd h (Nat.not_lt_zero p)
  | succ N ih =>
    intro hp hf
    rw [cnt_s, cnt_s]
    by_cases e : p = N
    · subst e
      rw [up_t rfl, hf, cnt_cong (f := va_up f p true) (g := f) (fun q hq => up_n (by omega))]
      simp
    · rw [ih (by omega) hf, up_n (fun z => e z.symm)]
      omega
theorem cnt_dn {f : Nat → Bool} {p N : Nat} (hp : p < N) (hf : f p = true) : cnt N (va_up f p false) + 1 = cnt N f := by
  have := cnt_up (f := va_up f p false) (p := p) N hp (up_t rfl)
  rw [← this]
  refine (cnt_cong (fun q hq => ?_)).symm
  by_cases e : q = p
  · rw [e, up_t rfl, hf]
  · rw [up_n e, up_n e]
def isGn (t : Stm) (pl : Option Nat) : Bool := !isNewS t pl && decide (tCh t = 1)
/-- rows of a table, by what was written -/
def QC (t : Stm) (T : Tab) (I : List Itm) (w : Nat) (U : Nat → Bool) (R : Tab) : Prop := cnt 30 R.1 + cnt w (fun i => U i && isGn t (itm I i).1) = cnt 30 T.1 + cnt w (fun i => U i && isNewS t (itm I i).1)
theorem cnt_U {X : Nat → Bool} {U : Nat → Bool} {w i : Nat} (hi : i < w) (hU : U i = false) : cnt w (fun j => va_up U i true j && X j) = cnt w (fun j => U j && X j) + if X i = true then 1 else 0 := by
  rcases bcs (X i) with e | e
  · rw [e, if_neg (by decide)]
    refine cnt_cong (fun q hq => ?_)
    by_cases d : q = i
    · rw [d, e, Bool.and_false, Bool.and_false]
    · rw [up_n d]
  · rw [e, if_pos rfl]
    have := cnt_up (f := fun j => U j && X j) (p := i) w hi (by rw [hU]; rfl)
    rw [← this]
    refine cnt_cong (fun q hq => ?_)
    by_cases d : q = i
    · rw [up_t d, d, up_t rfl, e]; rfl
    · rw [up_n d, up_n d]
theorem QC.step {S : Scr} {t : Stm} {T : Tab} {I : List Itm} {w : Nat} {U : Nat → Bool} {R W : Tab} {φ : Nat → Nat} {i q : Nat} {mk : Nat → Int32} (h : QR S t I w U R W φ) (hc : QC t T I w U R) (hi : i < w) (hU : U i = false) (hq : sAt R t (itm I i).1 = some q) : QC t T I w (va_up U i true) (sPut R t (itm I i).1 q mk) := by
  unfold QC at hc ⊢
  rw [cnt_U hi hU, cnt_U hi hU]
  rcases bcs (isNewS t (itm I i).1) with nw | nw
  · obtain ⟨p, hp, p30, Rp, φp⟩ := h.2.2.2.1 i hi hU nw
    have eq : q = p := by
      unfold sAt at hq
      rw [if_neg (by rw [nw]; decide), hp] at hq
      cases hq
      rfl
    subst eq
    by_cases g : tCh t = 1
    · have gn : isGn t (itm I i).1 = true := by unfold isGn; rw [nw, decide_eq_true g]; rfl
      have := cnt_dn (f := R.1) p30 Rp
      rw [put_gone nw g, gn, nw, if_pos rfl, if_neg (by decide)]
      show cnt 30 (va_up R.1 q false) + _ = _
      omega
    · have gn : isGn t (itm I i).1 = false := by unfold isGn; rw [decide_eq_false g, Bool.and_false]
      rw [put_set nw g, gn, nw, if_neg (by decide)]
      have : cnt 30 (va_up R.1 q true) = cnt 30 R.1 := cnt_cong (fun p _ => by
        by_cases e : p = q
        · rw [up_t e, e, Rp]
        · rw [up_n e])
      show cnt 30 (va_up R.1 q true) + _ = _
      omega
  · have fr : sFree R = some q := by
      unfold sAt at hq
      rw [if_pos nw] at hq
      exact hq
    obtain ⟨q30, Rq, _⟩ := sFree_some fr
    have gn : isGn t (itm I i).1 = false := by unfold isGn; rw [nw]; rfl
    have := cnt_up (f := R.1) 30 q30 Rq
    rw [put_new nw, gn, nw, if_pos rfl, if_neg (by decide)]
    show cnt 30 (va_up R.1 q true) + _ = _
    omega
theorem cnt_full {f : Nat → Bool} : ∀ N, (∀ p, p < N → f p = true) → cnt N f = N := by
  intro N
  induction N with
  | zero => intro _; rfl
  | succ N ih =>
    intro h
    rw [cnt_s, ih (fun p hp => h p (by omega)), h N (by omega), if_pos rfl]
theorem max_ex (P : Nat → Bool) : ∀ N, (∀ j, j < N → P j = false) ∨ ∃ M, M < N ∧ P M = true ∧ ∀ j, j < N → P j = true → j ≤ M := by
  intro N
  induction N with
  | zero => exact Or.inl (fun j hj => absurd hj (Nat.not_lt_zero j))
  | succ N ih =>
    rcases bcs (P N) with e | e
    · rcases ih with h | ⟨M, h1, h2, h3⟩
      · refine Or.inl (fun j hj => ?_)
        by_cases d : j = N
        · rw [d]; exact e
        · exact h j (by omega)
      · refine Or.inr ⟨M, by omega, h2, fun j hj hP => ?_⟩
        by_cases d : j = N
        · rw [d, e] at hP; cases hP
        · exact h3 j (by omega) hP
    · exact Or.inr ⟨N, by omega, e, fun j hj _ => by omega⟩
