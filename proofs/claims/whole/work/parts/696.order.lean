/-! Writes in their own order; which one is done next. -/
def wdN (t : Stm) (T : Tab) (I : List Itm) : Nat → Tab
  | 0 => wid0 T
  | k + 1 => sPut (wdN t T I k) t (itm I k).1 (wpl t (itm I k).1 k) (itm I k).2.2
theorem upU (k : Nat) : va_up (fun i => decide (i < k)) k true = fun i => decide (i < k + 1) := by
  funext i
  by_cases e : i = k
  · rw [up_t e, e]; simp
  · rw [up_n e, decide_eq_decide]; omega
/-- what stands of a right run with w writes -/
def RW (S : Scr) (t : Stm) (T : Tab) (I : List Itm) (l : List Ent) (w : Nat) : Prop := w = l.length ∧ w ≤ I.length ∧ w ≤ 200 ∧ Dst I ∧ (∀ q ∈ I, ∀ p, q.1 = some p → p < 30 ∧ T.1 p = true) ∧ ∀ k, k < w → sAt (lgN t T l k) t (itm I k).1 = some (ent l k).2.1 ∧ (ent l k).1 = (itm I k).1 ∧ (ent l k).2.2 = (itm I k).2.2
theorem rw_run {S : Scr} {t : Stm} {path : Nat} {T : Tab} (hx : XOK S t 3 (sReads S t 3 path T)) : RW S t T (sReads S t 3 path T).2 (rL (sRun S t 3 path T)) (rL (sRun S t 3 path T)).length := by
  obtain ⟨⟨_, _, h3⟩, h4⟩ := items_ok (S := S) (t := t) (path := path) (T := T)
  obtain ⟨g1, g2, g3, g4⟩ := log_run (S := S) (t := t) (path := path) (T := T)
  refine ⟨rfl, g3, (sReads_ok hx).2, h3, h4, fun k hk => ?_⟩
  obtain ⟨a1, a2, a3⟩ := g2 k hk
  rw [a2] at a1
  exact ⟨a1, a2, a3⟩
theorem RW.lg {S : Scr} {t : Stm} {T : Tab} {I : List Itm} {l : List Ent} {w k : Nat} (h : RW S t T I l w) (hk : k < w) : lgN t T l (k + 1) = sPut (lgN t T l k) t (itm I k).1 (ent l k).2.1 (itm I k).2.2 := by
  obtain ⟨_, a2, a3⟩ := h.2.2.2.2.2 k hk
  rw [lgN, a2, a3]
theorem RW.nat {S : Scr} {t : Stm} {T : Tab} {I : List Itm} {l : List Ent} {w : Nat} (h : RW S t T I l w) : ∀ k, k ≤ w → (∃ φ, QR S t I w (fun i => decide (i < k)) (lgN t T l k) (wdN t T I k) φ) ∧ QC t T I w (fun i => decide (i < k)) (lgN t T l k) := by
  intro k
  induction k with
  | zero =>
    intro _
    have e : (fun i => decide (i < 0)) = (fun _ : Nat => false) := by funext i; simp
    rw [e]
    refine ⟨⟨_, QR.start h.2.1 h.2.2.2.2.1⟩, ?_⟩
    unfold QC
    simp only [Bool.false_and]
    rfl
  | succ k ih =>
    intro hk
    obtain ⟨⟨φ, hq⟩, hc⟩ := ih (by omega)
    have hs := (h.2.2.2.2.2 k (by omega)).1
    have hU : (fun i => decide (i < k)) k = false := by simp
    rw [← upU, h.lg (by omega), wdN]
    exact ⟨hq.step h.2.2.2.1 h.2.1 h.2.2.1 (by omega) hU hs, QC.step hq hc (by omega) hU hs⟩
/-- all deletes ahead of a new row that was written are written -/
def GU (t : Stm) (I : List Itm) (w : Nat) (U : Nat → Bool) : Prop := ∀ m, m < w → U m = true → isNewS t (itm I m).1 = true → ∀ j, j < m → isGn t (itm I j).1 = true → U j = true
theorem free_ex {S : Scr} {t : Stm} {T : Tab} {I : List Itm} {l : List Ent} {w i : Nat} {U : Nat → Bool} {R : Tab} (h : RW S t T I l w) (hc : QC t T I w U R) (hG : GU t I w U) (hi : i < w) (hU : U i = false) (nw : isNewS t (itm I i).1 = true) (hj : ∀ j, j < i → isGn t (itm I j).1 = true → U j = true) : ∃ q, sFree R = some q := by
  cases hf : sFree R with
  | some q => exact ⟨q, rfl⟩
  | none =>
    exfalso
    have full := cnt_full (f := R.1) 30 (sFree_none.mp hf)
    have hM : ∃ M, i ≤ M ∧ M < w ∧ isNewS t (itm I M).1 = true ∧ (∀ j, j < M → isGn t (itm I j).1 = true → U j = true) ∧ ∀ j, j < w → (U j && isNewS t (itm I j).1) = true → j ≤ M := by
      rcases max_ex (fun j => decide (i < j) && (U j && isNewS t (itm I j).1)) w with g | ⟨M, m1, m2, m3⟩
      · refine ⟨i, Nat.le_refl _, hi, nw, hj, fun j hj2 hb => ?_⟩
        by_cases l : i < j
        · have := g j hj2
          rw [decide_eq_true l, Bool.true_and, hb] at this
          cases this
        · omega
      · simp only [Bool.and_eq_true, decide_eq_true_eq] at m2
        refine ⟨M, by omega, m1, m2.2.2, hG M m1 m2.2.1 m2.2.2, fun j hj2 hb => ?_⟩
        by_cases l : i < j
        · refine m3 j hj2 ?_
          rw [decide_eq_true l, Bool.true_and, hb]
        · omega
    obtain ⟨M, a1, a2, a3, a4, a5⟩ := hM
    have hn := (h.nat (M + 1) (by omega)).2
    have c30 := cnt_le 30 (lgN t T l (M + 1)).1
    unfold QC at hc hn
    simp only at hn
    have n1 : cnt w (fun j => U j && isNewS t (itm I j).1) < cnt w (fun j => decide (j < M + 1) && isNewS t (itm I j).1) := by
      refine cnt_lt (p := i) (fun j hj2 hb => ?_) hi ?_ ?_
      · have := a5 j hj2 hb
        simp only [Bool.and_eq_true] at hb ⊢
        exact ⟨decide_eq_true (by omega), hb.2⟩
      · rw [decide_eq_true (by omega), nw]
        rfl
      · rw [hU]
        rfl
    have n2 : cnt w (fun j => decide (j < M + 1) && isGn t (itm I j).1) ≤ cnt w (fun j => U j && isGn t (itm I j).1) := by
      refine cnt_mono (fun j hj2 hb => ?_)
      simp only [Bool.and_eq_true, decide_eq_true_eq] at hb ⊢
      refine ⟨a4 j ?_ hb.2, hb.2⟩
      by_cases e : j = M
      · rw [e] at hb
        unfold isGn at hb
        rw [a3] at hb
        simp at hb
      · omega
    omega
/-- whether write i can be done next, as the class asks it -/
def okO (S : Scr) (t : Stm) (I : List Itm) (R : Tab) (i : Nat) : Bool := match sAt R t (itm I i).1 with
  | none => false
  | some q => !(sHasTwin 30 S (sPut R t (itm I i).1 q (itm I i).2.2) q)
/-- as the reference asks it -/
def okM (S : Scr) (t : Stm) (I : List Itm) (W : Tab) (i : Nat) : Bool := (sClash 230 S (sPut W t (itm I i).1 (wpl t (itm I i).1 i) (itm I i).2.2)).isNone
theorem put_G {S : Scr} {t : Stm} {I : List Itm} {w : Nat} {U : Nat → Bool} {R W : Tab} {φ : Nat → Nat} {i q : Nat} {mk : Nat → Int32} (h : QR S t I w U R W φ) (hi : i < w) (hU : U i = false) (hq : sAt R t (itm I i).1 = some q) (hc : sClash 30 S R = none) : (sClash 30 S (sPut R t (itm I i).1 q mk)).isSome = sHasTwin 30 S (sPut R t (itm I i).1 q mk) q := by
  rcases bcs (isNewS t (itm I i).1) with nw | nw
  · obtain ⟨p, hp, p30, Rp, φp⟩ := h.2.2.2.1 i hi hU nw
    have eq : q = p := by
      unfold sAt at hq
      rw [if_neg (by rw [nw]; decide), hp] at hq
      cases hq
      rfl
    subst eq
    by_cases g : tCh t = 1
    · rw [put_gone nw g]
      have e1 : sClash 30 S (va_up R.1 q false, R.2) = none := clash_sub (T := R) (fun x hx => up_f hx) (fun _ _ => rfl) hc
      rw [e1]
      unfold sHasTwin
      rw [show (va_up R.1 q false, R.2).1 q = false from up_t rfl]
      rfl
    · rw [put_set nw g]
      exact clash_put (T := R) p30 (up_t rfl) (fun x hx => up_n hx) (fun x hx c => by show va_up R.2 q _ x c = R.2 x c; rw [up_n hx]) hc
  · have fr : sFree R = some q := by
      unfold sAt at hq
      rw [if_pos nw] at hq
      exact hq
    obtain ⟨q30, Rq, _⟩ := sFree_some fr
    rw [put_new nw]
    exact clash_put (T := R) q30 (up_t rfl) (fun x hx => up_n hx) (fun x hx c => by show va_up R.2 q _ x c = R.2 x c; rw [up_n hx]) hc
theorem gn_ok {S : Scr} {t : Stm} {I : List Itm} {w : Nat} {U : Nat → Bool} {R W : Tab} {φ : Nat → Nat} {i : Nat} (h : QR S t I w U R W φ) (hi : i < w) (hU : U i = false) (g : isGn t (itm I i).1 = true) : okO S t I R i = true := by
  unfold isGn at g
  rw [Bool.and_eq_true, Bool.not_eq_true', decide_eq_true_eq] at g
  obtain ⟨p, hp, p30, Rp, φp⟩ := h.2.2.2.1 i hi hU g.1
  have hq : sAt R t (itm I i).1 = some p := by unfold sAt; rw [if_neg (by rw [g.1]; decide), hp]
  unfold okO
  rw [hq]
  dsimp only
  rw [put_gone g.1 g.2]
  unfold sHasTwin
  rw [show (va_up R.1 p false, R.2).1 p = false from up_t rfl]
  rfl
/-- the state of an order in the making -/
def OS (S : Scr) (t : Stm) (T : Tab) (I : List Itm) (w : Nat) (U : Nat → Bool) (R W : Tab) : Prop := (∃ φ, QR S t I w U R W φ) ∧ QC t T I w U R ∧ GU t I w U ∧ sClash 30 S R = none
theorem ok_eq {S : Scr} {t : Stm} {T : Tab} {I : List Itm} {l : List Ent} {w i : Nat} {U : Nat → Bool} {R W : Tab} (hO : ScrOK S) (h : RW S t T I l w) (o : OS S t T I w U R W) (hi : i < w) (hU : U i = false) (hj : ∀ j, j < i → isGn t (itm I j).1 = true → U j = true) : (∃ q, sAt R t (itm I i).1 = some q) ∧ okO S t I R i = okM S t I W i := by
  obtain ⟨⟨φ, hq⟩, hc, hG, hcl⟩ := o
  have ex : ∃ q, sAt R t (itm I i).1 = some q := by
    unfold sAt
    rcases bcs (isNewS t (itm I i).1) with nw | nw
    · obtain ⟨p, hp, _⟩ := hq.2.2.2.1 i hi hU nw
      exact ⟨p, by rw [if_neg (by rw [nw]; decide), hp]⟩
    · obtain ⟨q, e⟩ := free_ex h hc hG hi hU nw hj
      exact ⟨q, by rw [if_pos nw, e]⟩
  refine ⟨ex, ?_⟩
  obtain ⟨q, e⟩ := ex
  obtain ⟨ψ, hs⟩ := hq.step (mk := (itm I i).2.2) h.2.2.2.1 h.2.1 h.2.2.1 hi hU e
  have pg := put_G (mk := (itm I i).2.2) hq hi hU e hcl
  have cl := hs.clash hO
  unfold okO okM
  rw [e]
  dsimp only
  rw [← pg]
  cases h1 : sClash 30 S (sPut R t (itm I i).1 q (itm I i).2.2) with
  | none => rw [cl.mp h1]; rfl
  | some x =>
    cases h2 : sClash 230 S (sPut W t (itm I i).1 (wpl t (itm I i).1 i) (itm I i).2.2) with
    | none => rw [cl.mpr h2] at h1; cases h1
    | some y => rfl
def nxO (S : Scr) (t : Stm) (I : List Itm) (U : Nat → Bool) (R : Tab) (i : Nat) : Bool := !U i && okO S t I R i
def nxM (S : Scr) (t : Stm) (I : List Itm) (U : Nat → Bool) (W : Tab) (i : Nat) : Bool := !U i && okM S t I W i
theorem gn_used {S : Scr} {t : Stm} {T : Tab} {I : List Itm} {w i : Nat} {U : Nat → Bool} {R W : Tab} (o : OS S t T I w U R W) (hi : i ≤ w) (hb : ∀ j, j < i → nxO S t I U R j = false) : ∀ j, j < i → isGn t (itm I j).1 = true → U j = true := by
  intro j hj g
  obtain ⟨⟨φ, hq⟩, _⟩ := o
  rcases bcs (U j) with u | u
  · have := hb j hj
    unfold nxO at this
    rw [u, gn_ok hq (by omega) u g] at this
    cases this
  · exact u
theorem nx_eq {S : Scr} {t : Stm} {T : Tab} {I : List Itm} {l : List Ent} {w i : Nat} {U : Nat → Bool} {R W : Tab} (hO : ScrOK S) (h : RW S t T I l w) (o : OS S t T I w U R W) (hi : i < w) (hb : ∀ j, j < i → nxO S t I U R j = false) : nxO S t I U R i = nxM S t I U W i := by
  unfold nxO nxM
  rcases bcs (U i) with u | u
  · rw [(ok_eq hO h o hi u (gn_used o (by omega) hb)).2]
  · rw [u]; rfl
theorem OS.next {S : Scr} {t : Stm} {T : Tab} {I : List Itm} {l : List Ent} {w i q : Nat} {U : Nat → Bool} {R W : Tab} (h : RW S t T I l w) (o : OS S t T I w U R W) (hi : i < w) (hb : ∀ j, j < i → nxO S t I U R j = false) (hx : nxO S t I U R i = true) (hq : sAt R t (itm I i).1 = some q) : OS S t T I w (va_up U i true) (sPut R t (itm I i).1 q (itm I i).2.2) (sPut W t (itm I i).1 (wpl t (itm I i).1 i) (itm I i).2.2) := by
  have gu := gn_used o (by omega) hb
  obtain ⟨⟨φ, hr⟩, hc, hG, hcl⟩ := o
  unfold nxO at hx
  rw [Bool.and_eq_true, Bool.not_eq_true'] at hx
  have pg := put_G (mk := (itm I i).2.2) hr hi hx.1 hq hcl
  refine ⟨hr.step h.2.2.2.1 h.2.1 h.2.2.1 hi hx.1 hq, QC.step hr hc hi hx.1 hq, fun m hm um nm j hj g => ?_, ?_⟩
  · by_cases e : j = i
    · exact up_t e
    · rw [up_n e]
      by_cases em : m = i
      · exact gu j (by omega) g
      · rw [up_n em] at um
        exact hG m hm um nm j hj g
  · have ho := hx.2
    unfold okO at ho
    rw [hq] at ho
    dsimp only at ho
    rw [Bool.not_eq_true', ← pg] at ho
    cases h1 : sClash 30 S (sPut R t (itm I i).1 q (itm I i).2.2) with
    | none => rfl
    | some x => rw [h1] at ho; cases ho
/-- the order: none if there is none -/
def ordS (S : Scr) (t : Stm) (I : List Itm) (w : Nat) : Nat → (Nat → Bool) → Tab → Option (List Nat)
  | 0, _, _ => some []
  | k + 1, U, R => match qf (nxO S t I U R) w 0 with
    | none => none
    | some i => match sAt R t (itm I i).1 with
      | none => none
      | some q => (ordS S t I w k (va_up U i true) (sPut R t (itm I i).1 q (itm I i).2.2)).map (fun L => i :: L)
theorem ord_n {S : Scr} {t : Stm} {I : List Itm} {w k : Nat} {U : Nat → Bool} {R : Tab} (h : qf (nxO S t I U R) w 0 = none) : ordS S t I w (k + 1) U R = none := by
  rw [ordS, h]
theorem ord_s {S : Scr} {t : Stm} {I : List Itm} {w k i q : Nat} {U : Nat → Bool} {R : Tab} (h : qf (nxO S t I U R) w 0 = some i) (hq : sAt R t (itm I i).1 = some q) : ordS S t I w (k + 1) U R = (ordS S t I w k (va_up U i true) (sPut R t (itm I i).1 q (itm I i).2.2)).map (fun L => i :: L) := by
  rw [ordS, h]
  dsimp only
  rw [hq]
theorem OS.start {S : Scr} {t : Stm} {T : Tab} {I : List Itm} {l : List Ent} {w : Nat} (h : RW S t T I l w) (hc : sClash 30 S T = none) : OS S t T I w (fun _ => false) T (wid0 T) := by
  refine ⟨⟨_, QR.start h.2.1 h.2.2.2.2.1⟩, ?_, fun m _ um => (by cases um), hc⟩
  unfold QC
  simp only [Bool.false_and]
