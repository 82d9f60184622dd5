/-! What a right run spools is of different rows; its log. -/
def Dst (L : List Itm) : Prop := L.Pairwise (fun a b => a.1 = none ∨ ¬ a.1 = b.1)
theorem Dst.snoc {L : List Itm} {q : Itm} (h : Dst L) (g : ∀ a ∈ L, a.1 = none ∨ ¬ a.1 = q.1) : Dst (L ++ [q]) := by
  unfold Dst
  rw [List.pairwise_append]
  refine ⟨h, List.pairwise_singleton _ _, fun a ha b hb => ?_⟩
  rw [List.mem_singleton] at hb
  rw [hb]
  exact g a ha
/-- rows that were read, spooled behind the making -/
def RdX (T : Tab) (x : RS × List Itm) : Prop := rT x.1 = T ∧ rL x.1 = [] ∧ Dst x.2
theorem RdX.meet {S : Scr} {t : Stm} {T : Tab} {pl o : Option Nat} {x : RS × List Itm} (h : RdX T x) (g : isKpt t pl = false → ∀ a ∈ x.2, a.1 = none ∨ ¬ a.1 = pl) : RdX T (sMeet S t 3 pl o x) := by
  obtain ⟨q1, q2, _, q4⟩ := sMeet_s (S := S) (t := t) (stage := 3) (pl := pl) (o := o) (x := x) (by omega)
  refine ⟨q1.trans h.1, q2.trans h.2.1, ?_⟩
  rcases q4 with q4 | ⟨mk, q4, q5, _⟩
  · rw [q4]; exact h.2.2
  · rw [q4]; exact h.2.2.snoc (g q5)
theorem meet_mem {S : Scr} {t : Stm} {pl o : Option Nat} {x : RS × List Itm} {q : Itm} (h : q ∈ (sMeet S t 3 pl o x).2) : q ∈ x.2 ∨ (q.1 = pl ∧ isKpt t pl = false) := by
  obtain ⟨_, _, _, q4⟩ := sMeet_s (S := S) (t := t) (stage := 3) (pl := pl) (o := o) (x := x) (by omega)
  rcases q4 with q4 | ⟨mk, q4, q5, _⟩
  · rw [q4] at h; exact Or.inl h
  · rw [q4] at h
    rcases List.mem_append.mp h with h | h
    · exact Or.inl h
    · rw [List.mem_singleton] at h
      rw [h]
      exact Or.inr ⟨rfl, q5⟩
def RdL (S : Scr) (T : Tab) (path : Nat) (last : Option Int) (L : List Itm) : Prop := ∀ q ∈ L, ∀ p, q.1 = some p → p < 30 ∧ T.1 p = true ∧ ∃ y, last = some y ∧ sRk S path T p ≤ y
theorem rd_read {S : Scr} {t : Stm} {T : Tab} {path : Nat} : ∀ m last x, RdX T x → RdL S T path last x.2 → RdX T (sRead S t 3 path m last x) ∧ ∀ q ∈ (sRead S t 3 path m last x).2, ∀ p, q.1 = some p → p < 30 ∧ T.1 p = true := by
  intro m
  induction m with
  | zero => intro last x h1 h2; exact ⟨h1, fun q hq p hp => ⟨(h2 q hq p hp).1, (h2 q hq p hp).2.1⟩⟩
  | succ m ih =>
    intro last x h1 h2
    unfold sRead
    split
    · split
      · exact ⟨h1, fun q hq p hp => ⟨(h2 q hq p hp).1, (h2 q hq p hp).2.1⟩⟩
      · rename_i p hs
        have eT : rT x.1 = T := h1.1
        rw [eT] at hs ⊢
        obtain ⟨p30, okp⟩ := sNext_ok hs
        have tp : T.1 p = true := sOk_has p okp
        have lk := sNext_lok hs
        refine ih _ _ (h1.meet (fun _ a ha => ?_)) ?_
        · cases ea : a.1 with
          | none => exact Or.inl rfl
          | some p' =>
            obtain ⟨_, _, y, ey, ly⟩ := h2 a ha p' ea
            refine Or.inr (fun e => ?_)
            cases e
            rw [ey] at lk
            unfold lOk at lk
            rw [decide_eq_true_eq] at lk
            omega
        · intro q hq p' hp'
          rcases meet_mem hq with g | ⟨g, _⟩
          · obtain ⟨a1, a2, y, ey, ly⟩ := h2 q g p' hp'
            refine ⟨a1, a2, _, rfl, ?_⟩
            rw [ey] at lk
            unfold lOk at lk
            rw [decide_eq_true_eq] at lk
            omega
          · rw [g] at hp'
            cases hp'
            exact ⟨p30, tp, _, rfl, Int.le_refl _⟩
    · exact ⟨h1, fun q hq p hp => ⟨(h2 q hq p hp).1, (h2 q hq p hp).2.1⟩⟩
/-- of a merge: rows that others ahead of o match, and this one's so far -/
def RdO (S : Scr) (t : Stm) (T : Tab) (path o : Nat) (last : Option Int) (L : List Itm) : Prop := ∀ q ∈ L, ∀ p, q.1 = some p → p < 30 ∧ T.1 p = true ∧ ¬ tCh t = 2 ∧ (mB S t T o p = true ∨ (isMat S t o T p = true ∧ ∃ y, last = some y ∧ sRk S path T p ≤ y))
theorem rd_readO {S : Scr} {t : Stm} {T : Tab} {path o : Nat} (hd : ¬ tCh t = 2 → noD S t T) (ho : o < (sOth S).length) : ∀ m last b x, RdX T x → RdO S t T path o last x.2 → RdX T (sReadO S t 3 path o m last b x).1 ∧ ∃ l2, RdO S t T path o l2 (sReadO S t 3 path o m last b x).1.2 := by
  intro m
  induction m with
  | zero => intro last b x h1 h2; exact ⟨h1, last, h2⟩
  | succ m ih =>
    intro last b x h1 h2
    unfold sReadO
    split
    · split
      · exact ⟨h1, last, h2⟩
      · rename_i p hs
        have eT : rT x.1 = T := h1.1
        rw [eT] at hs ⊢
        obtain ⟨p30, okp⟩ := sNext_ok hs
        have tp : T.1 p = true := sOk_has p okp
        have lk := sNext_lok hs
        have up : RdO S t T path o (some (sRk S path T p)) x.2 := by
          intro q hq p' hp'
          obtain ⟨a1, a2, a3, a4⟩ := h2 q hq p' hp'
          refine ⟨a1, a2, a3, ?_⟩
          rcases a4 with a4 | ⟨a4, y, ey, ly⟩
          · exact Or.inl a4
          · refine Or.inr ⟨a4, _, rfl, ?_⟩
            rw [ey] at lk
            unfold lOk at lk
            rw [decide_eq_true_eq] at lk
            omega
        split
        · rename_i im
          refine ih _ _ _ (h1.meet (fun kp a ha => ?_)) ?_
          · cases ea : a.1 with
            | none => exact Or.inl rfl
            | some p' =>
              obtain ⟨_, _, a3, a4⟩ := h2 a ha p' ea
              refine Or.inr (fun e => ?_)
              cases e
              rcases a4 with a4 | ⟨_, y, ey, ly⟩
              · obtain ⟨o', h1', h2'⟩ := mB_iff.mp a4
                exact hd a3 p p30 tp o' o h1' ho ⟨h2', im⟩
              · rw [ey] at lk
                unfold lOk at lk
                rw [decide_eq_true_eq] at lk
                omega
          · intro q hq p' hp'
            rcases meet_mem hq with g | ⟨g, kp⟩
            · exact up q g p' hp'
            · rw [g] at hp'
              cases hp'
              refine ⟨p30, tp, fun c2 => ?_, Or.inr ⟨im, _, rfl, Int.le_refl _⟩⟩
              unfold isKpt at kp
              rw [c2] at kp
              cases kp
        · exact ih _ _ _ h1 up
    · exact ⟨h1, last, h2⟩
theorem rd_for {S : Scr} {t : Stm} {T : Tab} {path o : Nat} {x : RS × List Itm} (hd : ¬ tCh t = 2 → noD S t T) (ho : o < (sOth S).length) (h1 : RdX T x) (h2 : RdO S t T path o none x.2) : RdX T (sFor S t 3 path o x) ∧ RdO S t T path (o + 1) none (sFor S t 3 path o x).2 := by
  obtain ⟨g1, l2, g2⟩ := rd_readO (path := path) hd ho 7000 none false x h1 h2
  have up : RdO S t T path (o + 1) none (sReadO S t 3 path o 7000 none false x).1.2 := by
    intro q hq p hp
    obtain ⟨a1, a2, a3, a4⟩ := g2 q hq p hp
    refine ⟨a1, a2, a3, Or.inl ?_⟩
    rcases a4 with a4 | ⟨a4, _⟩
    · obtain ⟨o', b1, b2⟩ := mB_iff.mp a4
      exact mB_iff.mpr ⟨o', by omega, b2⟩
    · exact mB_iff.mpr ⟨o, by omega, a4⟩
  unfold sFor
  generalize sReadO S t 3 path o 7000 none false x = y at g1 g2 up ⊢
  split
  · refine ⟨g1.meet (fun _ a _ => ?_), fun q hq p hp => ?_⟩
    · cases ea : a.1 with
      | none => exact Or.inl rfl
      | some p' => exact Or.inr (by simp)
    · rcases meet_mem hq with g | ⟨g, _⟩
      · exact up q g p hp
      · rw [g] at hp; cases hp
  · exact ⟨g1, up⟩
theorem rd_fors {S : Scr} {t : Stm} {T : Tab} {path : Nat} (hd : ¬ tCh t = 2 → noD S t T) : ∀ k o x, o + k = (sOth S).length → RdX T x → RdO S t T path o none x.2 → RdX T (sFors S t 3 path k o x) ∧ ∀ q ∈ (sFors S t 3 path k o x).2, ∀ p, q.1 = some p → p < 30 ∧ T.1 p = true := by
  intro k
  induction k with
  | zero => intro o x _ h1 h2; exact ⟨h1, fun q hq p hp => ⟨(h2 q hq p hp).1, (h2 q hq p hp).2.1⟩⟩
  | succ k ih =>
    intro o x hk h1 h2
    unfold sFors
    split
    · obtain ⟨g1, g2⟩ := rd_for hd (show o < (sOth S).length by omega) h1 h2
      exact ih (o + 1) _ (by omega) g1 g2
    · exact ⟨h1, fun q hq p hp => ⟨(h2 q hq p hp).1, (h2 q hq p hp).2.1⟩⟩
theorem items_ok {S : Scr} {t : Stm} {path : Nat} {T : Tab} : RdX T (sReads S t 3 path T) ∧ ∀ q ∈ (sReads S t 3 path T).2, ∀ p, q.1 = some p → p < 30 ∧ T.1 p = true := by
  have x0 : RdX T (sRun0 T, []) := ⟨rfl, rfl, List.Pairwise.nil⟩
  unfold sReads
  cases hd : sDblP S t T with
  | some p => exact ⟨⟨rfl, rfl, List.Pairwise.nil⟩, fun q hq => by cases hq⟩
  | none =>
    dsimp only
    split
    · rename_i h3
      refine rd_fors (fun c2 => dbl_no h3 (fun h2 => c2 ?_) hd) _ _ _ (by omega) x0 (fun q hq => by cases hq)
      simp [tCh, h3, h2]
    · exact rd_read _ _ _ x0 (fun q hq => by cases hq)
/-! the log -/
abbrev Ent : Type := Option Nat × Nat × (Nat → Int32)
def ent (l : List Ent) (k : Nat) : Ent := l.getD k (none, 0, fun _ => 0)
def itm (I : List Itm) (k : Nat) : Itm := I.getD k (none, none, fun _ => 0)
theorem ent_eq {l : List Ent} {k : Nat} (h : k < l.length) : l[k] = ent l k := by
  unfold ent
  rw [List.getD_eq_getElem?_getD, List.getElem?_eq_getElem h]
  rfl
theorem itm_eq {l : List Itm} {k : Nat} (h : k < l.length) : l[k] = itm l k := by
  unfold itm
  rw [List.getD_eq_getElem?_getD, List.getElem?_eq_getElem h]
  rfl
theorem ent_app {l : List Ent} {e : Ent} {k : Nat} (h : k < l.length) : ent (l ++ [e]) k = ent l k := by
  rw [← ent_eq h, ← ent_eq (by simp; omega), List.getElem_append_left h]
theorem ent_last {l : List Ent} {e : Ent} : ent (l ++ [e]) l.length = e := by
  rw [← ent_eq (by simp), List.getElem_append_right (Nat.le_refl _)]
  simp
def lgN (t : Stm) (T : Tab) (l : List Ent) : Nat → Tab
  | 0 => T
  | k + 1 => sPut (lgN t T l k) t (ent l k).1 (ent l k).2.1 (ent l k).2.2
theorem lgN_app {t : Stm} {T : Tab} {l : List Ent} {e : Ent} : ∀ k, k ≤ l.length → lgN t T (l ++ [e]) k = lgN t T l k := by
  intro k
  induction k with
  | zero => intro _; rfl
  | succ k ih =>
    intro h
    rw [lgN, lgN, ih (by omega), ent_app (by omega)]
def LogI (t : Stm) (T : Tab) (I : List Itm) (j : Nat) (r : RS) : Prop := rT r = lgN t T (rL r) (rL r).length ∧ (∀ k, k < (rL r).length → sAt (lgN t T (rL r) k) t (ent (rL r) k).1 = some (ent (rL r) k).2.1 ∧ (ent (rL r) k).1 = (itm I k).1 ∧ (ent (rL r) k).2.2 = (itm I k).2.2) ∧ (rL r).length ≤ j ∧ (rE r = 0 → (rL r).length = j ∧ ∀ i, j ≤ i → i < I.length → ∀ p, (itm I i).1 = some p → (rT r).1 p = true)
theorem dst_ne {I : List Itm} (hD : Dst I) {i j p : Nat} (hij : i < j) (hj : j < I.length) (hi : (itm I i).1 = some p) : ¬ (itm I j).1 = some p := by
  have h := List.pairwise_iff_getElem.mp hD i j (by omega) hj hij
  rw [itm_eq (by omega), itm_eq hj] at h
  rcases h with h | h
  · rw [h] at hi; cases hi
  · rw [hi] at h
    exact fun e => h e.symm
theorem LogI.step {S : Scr} {t : Stm} {T : Tab} {I : List Itm} {j : Nat} {r : RS} (hD : Dst I) (hj : j < I.length) (h : LogI t T I j r) : LogI t T I (j + 1) (sItem S t 3 r (itm I j)) := by
  obtain ⟨h1, h2, h3, h4⟩ := h
  unfold sItem
  by_cases e : rE r = 0
  · obtain ⟨h5, h6⟩ := h4 e
    have ph : plHas (rT r) (itm I j).1 = true := by
      unfold plHas
      cases hp : (itm I j).1 with
      | none => rfl
      | some p => exact h6 j (Nat.le_refl _) hj p hp
    rw [if_pos e, if_pos ph, if_neg (by simp), if_pos rfl]
    unfold sWrite
    cases ha : sAt (rT r) t (itm I j).1 with
    | none => exact ⟨h1, h2, by show (rL r).length ≤ j + 1; omega, fun z => absurd z (show ¬ (3 : Int32) = 0 by decide)⟩
    | some q =>
      dsimp only
      split
      · exact ⟨h1, h2, by show (rL r).length ≤ j + 1; omega, fun z => absurd z (show ¬ (4 : Int32) = 0 by decide)⟩
      · have el : rL (sPut (rT r) t (itm I j).1 q (itm I j).2.2, r.2.1, va_up (rC r) q (rC r q + 1), rL r ++ [((itm I j).1, q, (itm I j).2.2)]) = rL r ++ [((itm I j).1, q, (itm I j).2.2)] := rfl
        have et : rT (sPut (rT r) t (itm I j).1 q (itm I j).2.2, r.2.1, va_up (rC r) q (rC r q + 1), rL r ++ [((itm I j).1, q, (itm I j).2.2)]) = sPut (rT r) t (itm I j).1 q (itm I j).2.2 := rfl
        have ll : (rL r ++ [((itm I j).1, q, (itm I j).2.2)]).length = (rL r).length + 1 := by simp
        refine ⟨?_, ?_, ?_, fun _ => ⟨?_, fun i hi hi2 p hp => ?_⟩⟩
        · rw [et, el, ll, lgN, lgN_app _ (Nat.le_refl _), ent_last, ← h1]
        · rw [el, ll]
          intro k hk
          by_cases d : k < (rL r).length
          · rw [lgN_app _ (by omega), ent_app d]
            exact h2 k d
          · have d : k = (rL r).length := by omega
            subst d
            rw [lgN_app _ (Nat.le_refl _), ent_last, ← h1, h5]
            exact ⟨ha, rfl, rfl⟩
        · rw [el, ll]; omega
        · rw [el, ll]; omega
        · rw [et]
          have tp := h6 i (by omega) hi2 p hp
          unfold sPut
          split
          · show va_up (rT r).1 q true p = true
            unfold va_up
            split
            · rfl
            · exact tp
          · rename_i nw
            split
            · show va_up (rT r).1 q false p = true
              unfold va_up
              rw [if_neg ?_]
              · exact tp
              · intro epq
                have : sAt (rT r) t (itm I j).1 = (itm I j).1 := by unfold sAt; rw [if_neg nw]
                rw [this] at ha
                rw [← epq] at ha
                exact dst_ne hD (show j < i by omega) hi2 ha hp
            · show va_up (rT r).1 q true p = true
              unfold va_up
              split
              · rfl
              · exact tp
  · rw [if_neg e]
    exact ⟨h1, h2, by omega, fun z => absurd z e⟩
theorem LogI.fold {S : Scr} {t : Stm} {T : Tab} {I : List Itm} (hD : Dst I) : ∀ m j r, j + m = I.length → LogI t T I j r → LogI t T I I.length ((I.drop j).foldl (sItem S t 3) r) := by
  intro m
  induction m with
  | zero =>
    intro j r hj h
    rw [List.drop_of_length_le (by omega)]
    have : j = I.length := by omega
    rw [← this]
    exact h
  | succ m ih =>
    intro j r hj h
    have hl : j < I.length := by omega
    rw [List.drop_eq_getElem_cons hl, List.foldl_cons, itm_eq hl]
    exact ih (j + 1) _ (by omega) (h.step hD hl)
theorem log_run {S : Scr} {t : Stm} {path : Nat} {T : Tab} : LogI t T (sReads S t 3 path T).2 (sReads S t 3 path T).2.length (sRun S t 3 path T) := by
  obtain ⟨⟨h1, h2, h3⟩, h4⟩ := items_ok (S := S) (t := t) (path := path) (T := T)
  have L := LogI.fold (S := S) (t := t) (T := T) h3 (sReads S t 3 path T).2.length 0 (sReads S t 3 path T).1 (by omega) ⟨by rw [h1, h2]; rfl, fun k hk => by rw [h2] at hk; exact absurd hk (Nat.not_lt_zero k), by rw [h2]; exact Nat.le_refl _, fun _ => ⟨by rw [h2]; rfl, fun i _ hi p hp => by
    rw [h1]
    exact (h4 _ (by rw [← itm_eq hi]; exact List.getElem_mem hi) p hp).2⟩⟩
  rw [List.drop_zero] at L
  exact L
