/-! The class's pass reads the table. -/
def ItOK (S : Scr) (t : Stm) (stage : Nat) (q : Itm) : Prop := (∀ p, q.1 = some p → p < 30) ∧ (∀ o, q.2.1 = some o → o < (sOth S).length) ∧ (isNewS t q.1 = true → ∀ c, c < sCols S → (tNew t c).isSome = true) ∧ (stage = 3 → MkOK S t q.1 q.2.2)
def XOK (S : Scr) (t : Stm) (stage : Nat) (x : RS × List Itm) : Prop := RSok S x.1 ∧ (stage = 0 → x.2 = []) ∧ ∀ q ∈ x.2, ItOK S t stage q
theorem new_some {S : Scr} {t : Stm} (h : StmOK (sCols S) t) (p : Nat) : isNewS t (some p) = true → ∀ c, c < sCols S → (tNew t c).isSome = true := by
  intro b
  have e : tKd t = 2 := by simpa [isNewS] using b
  exact h.2.2.2.2.2.2.2.2.1 e
theorem new_none {S : Scr} {t : Stm} (h : StmOK (sCols S) t) (h3 : tKd t = 3) (hc : 1 ≤ sCols S) (ha : tAdds t = true) : ∀ c, c < sCols S → (tNew t c).isSome = true := by
  rcases h.2.2.2.2.2.2.2.2.2.1 h3 with z | z
  · exact z
  · unfold tAdds at ha
    rw [z 0] at ha
    cases ha
theorem XOK.meet {S : Scr} {t : Stm} {stage : Nat} {x : RS × List Itm} {pl o : Option Nat} (h : XOK S t stage x) (hp : ∀ p, pl = some p → p < 30 ∧ (rT x.1).1 p = true) (ho : ∀ q, o = some q → q < (sOth S).length) (hnew : isNewS t pl = true → ∀ c, c < sCols S → (tNew t c).isSome = true) : XOK S t stage (sMeet S t stage pl o x) := by
  by_cases e : stage = 0
  · subst e
    obtain ⟨h1, h2⟩ := sMeet_0 (S := S) (t := t) (pl := pl) (o := o) (x := x)
    rcases h2 with h2 | h2
    · rw [h2]; exact h
    · refine ⟨by rw [h2]; exact sMkW_ok h.1 hnew (fun p z _ => (hp p z).2), fun z => by rw [h1]; exact h.2.1 z, by rw [h1]; exact h.2.2⟩
  · obtain ⟨h1, h2, h3, h4⟩ := sMeet_s (S := S) (t := t) (pl := pl) (o := o) (x := x) e
    refine ⟨⟨by rw [h1]; exact h.1.1, by rw [h2]; exact h.1.2⟩, fun z => absurd z e, fun q hq => ?_⟩
    rcases h4 with h4 | ⟨mk, h4, h5, h6⟩
    · rw [h4] at hq; exact h.2.2 q hq
    · rw [h4] at hq
      rcases List.mem_append.mp hq with hq | hq
      · exact h.2.2 q hq
      · simp only [List.mem_singleton] at hq
        subst hq
        exact ⟨fun p z => (hp p z).1, ho, hnew, h6⟩
/-- what is left to read -/
def mu (S : Scr) (t : Stm) (stage path : Nat) (o : Option Nat) (last : Option Int) (r : RS) : Nat := (if stage = 0 then (200 - (rL r).length) * 31 else 0) + ahead (sOk S t path o (rT r)) (sRk S path (rT r)) last
theorem mu_le (S : Scr) (t : Stm) (stage path : Nat) (o : Option Nat) (last : Option Int) (r : RS) : mu S t stage path o last r ≤ 6230 := by
  unfold mu ahead
  have := cnt_le 30 (fun p => sOk S t path o (rT r) p && lOk last (sRk S path (rT r) p))
  split <;> omega
/-- a meeting leaves less to read -/
theorem mu_meet {S : Scr} {t : Stm} {stage path p : Nat} {o o' : Option Nat} {last : Option Int} {x : RS × List Itm} (h : XOK S t stage x) (hn : sNext (sOk S t path o (rT x.1)) (sRk S path (rT x.1)) last = some p) (hE : rE (sMeet S t stage (some p) o' x).1 = 0) : mu S t stage path o (some (sRk S path (rT x.1) p)) (sMeet S t stage (some p) o' x).1 < mu S t stage path o last x.1 := by
  have hl := ahead_lt hn
  by_cases e : stage = 0
  · subst e
    obtain ⟨h1, h2⟩ := sMeet_0 (S := S) (t := t) (pl := some p) (o := o') (x := x)
    rcases h2 with h2 | h2
    · rw [h2]
      unfold mu
      omega
    · rw [h2] at hE ⊢
      have h3 := sMkW_len (S := S) (t := t) (pl := some p) (o := o') (r := x.1)
      rcases h3 with h3 | h3
      · exact absurd hE h3
      · unfold mu ahead at *
        rw [h3]
        simp only [↓reduceIte, if_true]
        have := cnt_le 30 (fun q => sOk S t path o (rT (sMkW S t (some p) o' x.1)) q && lOk (some (sRk S path (rT x.1) p)) (sRk S path (rT (sMkW S t (some p) o' x.1)) q))
        have h4 : (rL x.1).length + 1 ≤ 200 ∨ 200 ≤ (rL x.1).length := by omega
        rcases h4 with h4 | h4
        · omega
        · exfalso
          have h5 := h.1.2
          unfold sMkW sWrite at hE h3
          cases e1 : sOver S (rT x.1) t (some p) o' with
          | some c => rw [e1] at hE; exact absurd hE (by show ¬ (2 : Int32) = 0; decide)
          | none =>
            rw [e1] at hE
            dsimp only at hE
            cases e2 : sAt (rT x.1) t (some p) with
            | none => rw [e2] at hE; exact absurd hE (by show ¬ (3 : Int32) = 0; decide)
            | some q =>
              rw [e2] at hE
              dsimp only at hE
              rw [if_pos h4] at hE
              exact absurd hE (by show ¬ (4 : Int32) = 0; decide)
  · obtain ⟨h1, h2, h3, h4⟩ := sMeet_s (S := S) (t := t) (pl := some p) (o := o') (x := x) e
    unfold mu
    rw [h1, h2]
    omega
theorem PsF.cur {C : AmC} {a s9 stage : Nat} {S : Scr} {r : RS} {v : Int64} (h : PsF C a S stage r) : PsF (uJ C s9 5 v) a S stage r := h
theorem okC_eq {S : Scr} {t : Stm} {path : Nat} {T : Tab} (h3 : ¬ tKd t = 3) (p : Nat) : okC S path (rgX S (some t) path none) T p = sOk S t path (some 0) T p := by
  unfold okC sOk sRng rgX
  simp only [↓reduceIte, h3, if_false]
theorem rdC_fr (C : AmC) (a : Nat) (S : Scr) (path : Nat) (T : Tab) (b : Option Nat) : Fr (fun z => z = a) C (rdC C a S path T b) := by
  cases b with
  | none => exact Fr.refl _ _
  | some p => exact (Fr.refl (fun z => z = a) C).uJ (a := a) rfl
theorem rdC_cI (C : AmC) (a : Nat) (S : Scr) (path : Nat) (T : Tab) (b : Option Nat) : cI (rdC C a S path T b) = cI C := by
  cases b <;> rfl
theorem rdC_cur {C : AmC} {a : Nat} {S : Scr} {path p : Nat} {T : Tab} {R : Int32 → Bool} {last : Option Int} (h : CurC C a S path R last) : CurC (rdC C a S path T (some p)) a S path R (some (sRk S path T p)) := by
  obtain ⟨h1, h2, h3, h4, h5⟩ := h
  exact ⟨h1, h2, h3, h4, by show cJ (uJ C a 5 _) a 5 = _; rw [j_J, if_pos ⟨rfl, rfl⟩]; rfl⟩
theorem PasC.of {C C1 : AmC} {a stage : Nat} {S : Scr} {t : Stm} {x : RS × List Itm} (h : PasC C a S t stage x) (e : cI C1 = cI C) : PasC C1 a S t stage x := by
  unfold PasC PsF ItC SlC TabC at *
  rw [e]
  exact h
/-- cells of a pass with its cursor -/
def PY (a : Nat) (b : Nat) : Prop := PX a b ∨ b = a + 3
theorem PY_ge {a : Nat} (h : a ∈ pasL) : ∀ b, PY a b → 113 ≤ b ∧ b < 129 := by
  obtain ⟨a1, a2⟩ := pas_ge h
  intro b hb
  unfold PY PX at hb
  omega
theorem c51_lp {a s st stage path : Nat} {S : Scr} {t : Stm} (hst : stage ≤ 3) (hpa : PathOK S path) (h3 : ¬ tKd t = 3) : ∀ m q n C last x, mu S t stage path (some 0) last x.1 ≤ m → (¬ stage = 0 → x.2.length + ahead (sOk S t path (some 0) (rT x.1)) (sRk S path (rT x.1)) last ≤ 30) → q + m ≤ 90000 → m + 1400 < n → PK C a s st S t → PasC C a S t stage x → XOK S t stage x → CurC C (a + 3) S path (rgX S (some t) path none) last → (∀ y, last = some y → -12000000000 < y ∧ y < 12000000000) → Rt (lp_51_10 n a (nI q) C) (fun _ C' => PasC C' a S t stage (sRead S t stage path (m + 1) last x) ∧ Fr (PY a) C C' ∧ XOK S t stage (sRead S t stage path (m + 1) last x)) := by
  intro m
  induction m with
  | zero =>
    intro q n C last x hm _ hq hn hK hF hX hC hl
    obtain ⟨n, rfl⟩ : ∃ m, n = m + 1 := ⟨n - 1, by omega⟩
    have k3 := pa_of hK.1 hK.2.1
    have b1 : ¬ 100000 ≤ q := by omega
    have g8 := hK.2.2.2.2.2.2.2.1
    by_cases e : rE x.1 = 0
    · have w5 := c5 (n := n) k3.kc (rw_of hK.1 k3.rw) hF.1.1 g8 hX.1.1 hpa hC hl (by omega)
      have eo : okC S path (rgX S (some t) path none) (rT x.1) = sOk S t path (some 0) (rT x.1) := funext (okC_eq h3)
      rw [eo] at w5
      cases hs : sNext (sOk S t path (some 0) (rT x.1)) (sRk S path (rT x.1)) last with
      | some p =>
        exfalso
        have := ahead_lt hs
        unfold mu at hm
        omega
      | none =>
        rw [hs] at w5
        have w5 : f_5 n (a + 3) (a + 1) C = some (-1, C) := w5
        have e11 : cI C a 11 = 0 := by rw [hF.1.2.2.2.1]; exact e
        simp (disch := omega) only [↓reduceIte, lp_51_10, n_100000, x_le, b1, k3.k, if_true, if_false, e11, not_true, ↓bd1 k3.p1, ↓bd1 k3.p0, k3.kc, ↓bd1 w5]
        have er : sRead S t stage path 1 last x = x := by
          unfold sRead
          rw [if_pos e, hs]
        rw [er]
        exact rt_ret ⟨hF, Fr.refl _ _, hX⟩
    · have e11 : ¬ cI C a 11 = 0 := by rw [hF.1.2.2.2.1]; exact e
      simp (disch := omega) only [↓reduceIte, lp_51_10, n_100000, x_le, b1, k3.k, if_true, if_false, e11, not_false_iff]
      have er : sRead S t stage path 1 last x = x := by
        unfold sRead
        rw [if_neg e]
      rw [er]
      exact rt_ret ⟨hF, Fr.refl _ _, hX⟩
  | succ m ih =>
    intro q n C last x hm hlen hq hn hK hF hX hC hl
    obtain ⟨n, rfl⟩ : ∃ m, n = m + 1 := ⟨n - 1, by omega⟩
    have k3 := pa_of hK.1 hK.2.1
    have b1 : ¬ 100000 ≤ q := by omega
    have g8 := hK.2.2.2.2.2.2.2.1
    have g10 := hK.2.2.2.2.2.2.2.2.2
    by_cases e : rE x.1 = 0
    · have w5 := c5 (n := n) k3.kc (rw_of hK.1 k3.rw) hF.1.1 g8 hX.1.1 hpa hC hl (by omega)
      have eo : okC S path (rgX S (some t) path none) (rT x.1) = sOk S t path (some 0) (rT x.1) := funext (okC_eq h3)
      rw [eo] at w5
      have e11 : cI C a 11 = 0 := by rw [hF.1.2.2.2.1]; exact e
      cases hs : sNext (sOk S t path (some 0) (rT x.1)) (sRk S path (rT x.1)) last with
      | none =>
        rw [hs] at w5
        have w5 : f_5 n (a + 3) (a + 1) C = some (-1, C) := w5
        simp (disch := omega) only [↓reduceIte, lp_51_10, n_100000, x_le, b1, k3.k, if_true, if_false, e11, not_true, ↓bd1 k3.p1, ↓bd1 k3.p0, k3.kc, ↓bd1 w5]
        have er : sRead S t stage path (m + 1 + 1) last x = x := by
          unfold sRead
          rw [if_pos e, hs]
        rw [er]
        exact rt_ret ⟨hF, Fr.refl _ _, hX⟩
      | some p =>
        rw [hs] at w5
        obtain ⟨hp30, hok⟩ := sNext_ok hs
        have tp : (rT x.1).1 p = true := by
          unfold sOk at hok
          simp only [Bool.and_eq_true] at hok
          exact hok.1
        have em : ¬ nI p = (-1 : Int32) := by rw [x_eqm (by omega)]; exact id
        have w5 : f_5 n (a + 3) (a + 1) C = some (nI p, rdC C (a + 3) S path (rT x.1) (some p)) := w5
        simp (disch := omega) only [↓reduceIte, lp_51_10, n_100000, x_le, b1, k3.k, if_true, if_false, e11, not_true, ↓bd1 k3.p1, ↓bd1 k3.p0, k3.kc, ↓bd1 w5, em, not_false_iff, x_a1]
        have F1 := rdC_fr C (a + 3) S path (rT x.1) (some p)
        have hK1 := hK.fr F1 (fun b hb => by have := pas_ge hK.2.1; omega)
        have hF1 : PasC (rdC C (a + 3) S path (rT x.1) (some p)) a S t stage x := hF.of (rdC_cI _ _ _ _ _ _)
        have hC1 := rdC_cur (T := rT x.1) (p := p) hC
        have hal := ahead_lt hs
        have hpp : ∀ p', (some p : Option Nat) = some p' → p' < 30 ∧ (rT x.1).1 p' = true := fun p' z => by cases z; exact ⟨hp30, tp⟩
        have M := c53 (n := n) (pl := some p) (o := none) hst hpp (fun _ z => by cases z) hK1 hF1 e hX.1.2 (fun z => by have := hlen z; omega) hX.2.1 (new_some g10 p) (by omega)
        refine rt_bind (rt_mono M (fun _ C2 H => ?_))
        obtain ⟨H1, H2⟩ := H
        have hX2 := hX.meet (o := none) hpp (fun _ z => by cases z) (new_some g10 p)
        have er : sRead S t stage path (m + 1 + 1) last x = sRead S t stage path (m + 1) (some (sRk S path (rT x.1) p)) (sMeet S t stage (some p) none x) := by
          rw [sRead, if_pos e, hs]
        rw [er]
        have hC2 : CurC C2 (a + 3) S path (rgX S (some t) path none) (some (sRk S path (rT x.1) p)) := hC1.of (H2.2.1 _ (by unfold PX; omega)) (H2.2.2 _ (by unfold PX; omega))
        have hK2 := hK1.fr H2 (fun b hb => by have := PY_ge hK.2.1 b (Or.inl hb); omega)
        have bd := sRk_bd g8 hX.1.1 hpa hp30 tp
        have FF : Fr (PY a) C C2 := (F1.mono (fun b hb => Or.inr hb)).trans (H2.mono (fun b hb => Or.inl hb))
        by_cases e2 : rE (sMeet S t stage (some p) none x).1 = 0
        · have hmu := mu_meet (o' := none) hX hs e2
          refine rt_mono (ih (q + 1) n C2 _ _ (by omega) (fun z => ?_) (by omega) (by omega) hK2 H1 hX2 hC2 (fun y hy => by cases hy; exact bd)) (fun _ C3 H3 => ⟨H3.1, FF.trans H3.2.1, H3.2.2⟩)
          have h9 := hlen z
          obtain ⟨y1, y2, y3, y4⟩ := sMeet_s (S := S) (t := t) (pl := some p) (o := none) (x := x) z
          rw [y1]
          rcases y4 with y4 | ⟨mk, y4, _⟩
          · rw [y4]; omega
          · rw [y4]
            simp only [List.length_append, List.length_cons, List.length_nil]
            omega
        · obtain ⟨n, rfl⟩ : ∃ m, n = m + 1 := ⟨n - 1, by omega⟩
          have e12 : ¬ cI C2 a 11 = 0 := by rw [H1.1.2.2.2.1]; exact e2
          have k4 := pa_of hK2.1 hK2.2.1
          have b2 : ¬ 100000 ≤ q + 1 := by omega
          simp (disch := omega) only [↓reduceIte, lp_51_10, n_100000, x_le, b2, k4.k, if_true, if_false, e12, not_false_iff]
          have er2 : sRead S t stage path (m + 1) (some (sRk S path (rT x.1) p)) (sMeet S t stage (some p) none x) = sMeet S t stage (some p) none x := by
            rw [sRead, if_neg e2]
          rw [er2]
          exact rt_ret ⟨H1, FF, hX2⟩
    · have e11 : ¬ cI C a 11 = 0 := by rw [hF.1.2.2.2.1]; exact e
      simp (disch := omega) only [↓reduceIte, lp_51_10, n_100000, x_le, b1, k3.k, if_true, if_false, e11, not_false_iff]
      have er : sRead S t stage path (m + 1 + 1) last x = x := by
        unfold sRead
        rw [if_neg e]
      rw [er]
      exact rt_ret ⟨hF, Fr.refl _ _, hX⟩
theorem c51 {n : Nat} {C : AmC} {a s st stage path : Nat} {S : Scr} {t : Stm} {x : RS × List Itm} (hst : stage ≤ 3) (hpa : PathOK S path) (h3 : ¬ tKd t = 3) (hK : PK C a s st S t) (hF : PasC C a S t stage x) (hX : XOK S t stage x) (hi : x.2 = []) (hn : 9000 ≤ n) : Rt (f_51 n a (nI path) C) (fun _ C' => PasC C' a S t stage (sRead S t stage path 7000 none x) ∧ Fr (PY a) C C' ∧ XOK S t stage (sRead S t stage path 7000 none x)) := by
  have hK0 := hK
  obtain ⟨hP, g2, g3, g4, g5, g6, g7, g8, g9, g10⟩ := hK
  have k3 := pa_of hP g2
  have kt := st_of hP g4
  obtain ⟨a1, a2⟩ := pas_ge g2
  have st8 := stm_lt g4
  unfold f_51
  simp only [↓reduceIte, k3.k, if_true, ↓bd1 k3.p1, ↓bd1 g5, ↓bd1 g6, k3.kc]
  refine rt_bind (rt_mono (c2 (n := n) hP g3 g7 g8 hpa k3.kc (by omega) kt.1 (by omega) g9 g10 h3 (by omega)) (fun _ C1 H => ?_))
  obtain ⟨H1, H2⟩ := H
  have hK1 := hK0.fr H2 (fun b hb => by omega)
  have hF1 : PasC C1 a S t stage x := by
    have e : ∀ b, ¬ b = a + 3 → cI C1 b = cI C b := fun b hb => H2.2.1 b hb
    refine ⟨hF.1.of (fun f _ _ => by rw [e a (by omega)]) (e _ (by omega)) (e _ (by omega)) (e _ (by omega)), fun z => (hF.2 z).of (by rw [e a (by omega)]) (fun i _ => by rw [e _ (by omega)]) (fun i _ => by rw [e _ (by omega)]) (fun i _ => by rw [e _ (by omega)]) g8.2.1⟩
  have L := c51_lp (a := a) (s := s) (st := st) hst hpa h3 6999 0 n C1 none x (by have := mu_le S t stage path (some 0) none x.1; omega) (fun _ => by rw [hi]; have := cnt_le 30 (fun p => sOk S t path (some 0) (rT x.1) p && lOk none (sRk S path (rT x.1) p)); unfold ahead; simp only [List.length_nil]; omega) (by omega) (by omega) hK1 hF1 hX H1 (fun y hy => by cases hy)
  rw [x_0] at L
  refine rt_bind (rt_mono L (fun z C2 H3 => ?_))
  rcases z with z | z
  · exact rt_ret ⟨H3.1, (H2.mono (fun b hb => Or.inr hb)).trans H3.2.1, H3.2.2⟩
  · exact rt_ret ⟨H3.1, (H2.mono (fun b hb => Or.inr hb)).trans H3.2.1, H3.2.2⟩
