/-! The class's pass reads for all others; doubles. -/
def mB (S : Scr) (t : Stm) (T : Tab) (o p : Nat) : Bool := (qf (fun o' => isMat S t o' T p) o 0).isSome
def noD (S : Scr) (t : Stm) (T : Tab) : Prop := ∀ p, p < 30 → T.1 p = true → ∀ o1 o2, o1 < o2 → o2 < (sOth S).length → ¬ (isMat S t o1 T p = true ∧ isMat S t o2 T p = true)
theorem mB_iff {S : Scr} {t : Stm} {T : Tab} {o p : Nat} : mB S t T o p = true ↔ ∃ o', o' < o ∧ isMat S t o' T p = true := by
  unfold mB
  constructor
  · intro h
    cases e : qf (fun o' => isMat S t o' T p) o 0 with
    | none => rw [e] at h; cases h
    | some q =>
      obtain ⟨_, h2, h3, _⟩ := qf_some e
      exact ⟨q, by omega, h3⟩
  · rintro ⟨o', h1, h2⟩
    cases e : qf (fun o' => isMat S t o' T p) o 0 with
    | none =>
      have := qf_none.mp e o' (by omega) (by omega)
      rw [h2] at this
      cases this
    | some q => rfl
theorem dbl_no {S : Scr} {t : Stm} {T : Tab} (h3 : tKd t = 3) (hk : ¬ tHow t = 2) (h : sDblP S t T = none) : noD S t T := by
  unfold sDblP at h
  rw [if_pos ⟨h3, hk⟩] at h
  intro p hp tp o1 o2 h1 h2 hm
  have := qf_none.mp h p (by omega) (by omega)
  rw [tp, Bool.true_and] at this
  have : sDbl S t T p = none := by
    cases e : sDbl S t T p with
    | none => rfl
    | some z => rw [e] at this; cases this
  unfold sDbl at this
  cases e : qf (fun o => isMat S t o T p) (sOth S).length 0 with
  | none =>
    have := qf_none.mp e o1 (by omega) (by omega)
    rw [hm.1] at this
    cases this
  | some q =>
    obtain ⟨_, q2, q3, q4⟩ := qf_some e
    rw [e] at this
    simp only [Option.bind_some, Option.map_eq_none_iff] at this
    have hq : q ≤ o1 := by
      apply Nat.le_of_not_lt
      intro z
      have := q4 o1 (by omega) z
      rw [hm.1] at this
      cases this
    have := qf_none.mp this o2 (by omega) (by omega)
    rw [hm.2] at this
    cases this
theorem M_step {S : Scr} {t : Stm} {T : Tab} {path o : Nat} (hd : noD S t T) (ho : o < (sOth S).length) : cnt 30 (fun p => T.1 p && mB S t T o p) + rem S t path o T none ≤ cnt 30 (fun p => T.1 p && mB S t T (o + 1) p) := by
  refine cnt_add (fun q hq z => ?_) (fun q hq z => ?_) (fun q hq z => ?_)
  · simp only [Bool.and_eq_true] at *
    obtain ⟨o', h1, h2⟩ := mB_iff.mp z.2
    exact ⟨z.1, mB_iff.mpr ⟨o', by omega, h2⟩⟩
  · unfold sOk at z
    simp only [Bool.and_eq_true] at *
    exact ⟨z.1.1.1, mB_iff.mpr ⟨o, by omega, z.2⟩⟩
  · unfold sOk at z
    simp only [Bool.and_eq_true] at z
    obtain ⟨o', h1, h2⟩ := mB_iff.mp z.1.2
    exact hd q hq z.1.1 o' o h1 ho ⟨h2, z.2.2⟩
/-- how long the spool may be at one of others -/
def lenF (S : Scr) (t : Stm) (T0 : Tab) (stage o : Nat) (x : RS × List Itm) : Prop := ¬ stage = 0 → rT x.1 = T0 ∧ (if tCh t = 2 then x.2.length ≤ o else x.2.length ≤ cnt 30 (fun p => T0.1 p && mB S t T0 o p) + o)
theorem lenF_step {S : Scr} {t : Stm} {T0 : Tab} {stage path o : Nat} {x : RS × List Itm} (h : lenF S t T0 stage o x) (hO : ScrOK S) (hd : ¬ tCh t = 2 → noD S t T0) (ho : o < (sOth S).length) : (¬ stage = 0 → lenO S t path o none x) ∧ (∀ m, ¬ stage = 0 → rT (sReadO S t stage path o m none false x).1.1 = T0 ∧ (sReadO S t stage path o m none false x).1.2.length < 40 ∧ (if tCh t = 2 then (sReadO S t stage path o m none false x).1.2.length ≤ o else (sReadO S t stage path o m none false x).1.2.length ≤ cnt 30 (fun p => T0.1 p && mB S t T0 (o + 1) p) + o)) := by
  have ho10 := hO.2.2.2.2.2.1
  have c30 := cnt_le 30 (fun p => T0.1 p && mB S t T0 (o + 1) p)
  constructor
  · intro z
    obtain ⟨h1, h2⟩ := h z
    unfold lenO
    by_cases k : tCh t = 2
    · rw [if_pos k] at h2 ⊢; omega
    · rw [if_neg k] at h2 ⊢
      have := M_step (path := path) (hd k) ho
      rw [h1]
      omega
  · intro m z
    obtain ⟨h1, h2⟩ := h z
    obtain ⟨y1, y2, y3⟩ := sReadO_s (S := S) (t := t) (path := path) (o := o) z m none false x
    by_cases k : tCh t = 2
    · rw [if_pos k] at h2 ⊢
      rw [y1, y2 k]
      exact ⟨h1, by omega, h2⟩
    · rw [if_neg k] at h2 ⊢
      have := M_step (path := path) (hd k) ho
      rw [h1] at y3
      exact ⟨y1.trans h1, by omega, by omega⟩
theorem lenF_for {S : Scr} {t : Stm} {T0 : Tab} {stage path o : Nat} {x : RS × List Itm} (h : lenF S t T0 stage o x) (hO : ScrOK S) (hd : ¬ tCh t = 2 → noD S t T0) (ho : o < (sOth S).length) : lenF S t T0 stage (o + 1) (sFor S t stage path o x) := by
  intro z
  obtain ⟨y1, y2, y3⟩ := (lenF_step (path := path) h hO hd ho).2 7000 z
  unfold sFor
  by_cases c : (!(sReadO S t stage path o 7000 none false x).2 && tAdds t && decide (rE (sReadO S t stage path o 7000 none false x).1.1 = 0)) = true
  · rw [if_pos c]
    obtain ⟨q1, q2, q3, q4⟩ := sMeet_s (S := S) (t := t) (pl := none) (o := some o) (x := (sReadO S t stage path o 7000 none false x).1) z
    refine ⟨q1.trans y1, ?_⟩
    have hl : (sMeet S t stage none (some o) (sReadO S t stage path o 7000 none false x).1).2.length ≤ (sReadO S t stage path o 7000 none false x).1.2.length + 1 := by
      rcases q4 with q4 | ⟨mk, q4, _⟩
      · rw [q4]; omega
      · rw [q4]; simp
    by_cases k : tCh t = 2
    · rw [if_pos k] at y3 ⊢; omega
    · rw [if_neg k] at y3 ⊢; omega
  · rw [if_neg c]
    refine ⟨y1, ?_⟩
    by_cases k : tCh t = 2
    · rw [if_pos k] at y3 ⊢; omega
    · rw [if_neg k] at y3 ⊢; omega
theorem c52_lp {a s st stage path : Nat} {S : Scr} {t : Stm} {T0 : Tab} (hst : stage ≤ 3) (hpa : PathOK S path) (h3 : tKd t = 3) (hd : ¬ tCh t = 2 → noD S t T0) : ∀ k o n C x, o + k = (sOth S).length → k + 9000 < n → PK C a s st S t → PasC C a S t stage x → XOK S t stage x → lenF S t T0 stage o x → Rt (lp_52_2 n a (nI path) (nI o) C) (fun _ C' => PasC C' a S t stage (sFors S t stage path k o x) ∧ Fr (PY a) C C' ∧ XOK S t stage (sFors S t stage path k o x) ∧ lenF S t T0 stage (o + k) (sFors S t stage path k o x)) := by
  intro k
  induction k with
  | zero =>
    intro o n C x h1 h2 hK hF hX hL
    obtain ⟨n, rfl⟩ : ∃ m, n = m + 1 := ⟨n - 1, by omega⟩
    have k3 := pa_of hK.1 hK.2.1
    have ks := sc_of hK.1 hK.2.2.1
    have g8 := hK.2.2.2.2.2.2.2.1
    have hl := g8.2.2.2.2.2.1
    have b1 : (sOth S).length ≤ o := by omega
    simp (disch := omega) only [↓reduceIte, lp_52_2, k3.k, if_true, ↓bd1 hK.2.2.2.2.1, ks.k, hK.2.2.2.2.2.2.1.2.2.2.2.1, x_le, b1]
    exact rt_ret ⟨hF, Fr.refl _ _, hX, hL⟩
  | succ k ih =>
    intro o n C x h1 h2 hK hF hX hL
    obtain ⟨n, rfl⟩ : ∃ m, n = m + 1 := ⟨n - 1, by omega⟩
    have hK0 := hK
    obtain ⟨hP, g2, g3, g4, g5, g6, g7, g8, g9, g10⟩ := hK
    have k3 := pa_of hP g2
    have ks := sc_of hP g3
    have kt := st_of hP g4
    obtain ⟨a1, a2⟩ := pas_ge g2
    have st8 := stm_lt g4
    have hl := g8.2.2.2.2.2.1
    have b1 : ¬ (sOth S).length ≤ o := by omega
    have ho : o < (sOth S).length := by omega
    have hc1 := g8.1
    by_cases e : rE x.1 = 0
    · have e11 : cI C a 11 = 0 := by rw [hF.1.2.2.2.1]; exact e
      have w95 : f_95 n s (nI o) (nI (tOth t)) C = some (othN S o (tOth t), C) := c95 (o := some o) ks g7 g8 (fun q z => by cases z; exact ho) g10.2.2.2.2.1
      simp (disch := omega) only [↓reduceIte, lp_52_2, k3.k, if_true, if_false, ↓bd1 g5, ks.k, g7.2.2.2.2.1, x_le, b1, e11, not_true, ↓bd1 g6, kt.1, g9.2.2.2.2.1, ↓bd1 w95, ↓bd1 k3.p1, k3.kc]
      refine rt_bind (rt_mono (c4 (n := n) hP g3 g7 g8 hpa k3.kc (by omega) kt.1 (by omega) g9 g10 h3 ho) (fun _ C1 H => ?_))
      obtain ⟨H1, H2⟩ := H
      have hK1 := hK0.fr H2 (fun b hb => by omega)
      have k4 := pa_of hK1.1 g2
      have hF1 : PasC C1 a S t stage x := by
        have e : ∀ b, ¬ b = a + 3 → cI C1 b = cI C b := fun b hb => H2.2.1 b hb
        refine ⟨hF.1.of (fun f _ _ => by rw [e a (by omega)]) (e _ (by omega)) (e _ (by omega)) (e _ (by omega)), fun z => (hF.2 z).of (by rw [e a (by omega)]) (fun i _ => by rw [e _ (by omega)]) (fun i _ => by rw [e _ (by omega)]) (fun i _ => by rw [e _ (by omega)]) g8.2.1⟩
      have w5 := c5 (n := n) k4.kc (rw_of hK1.1 k4.rw) hF1.1.1 g8 hX.1.1 hpa H1 (fun y hy => by cases hy) (by omega)
      have eo : okC S path (rgX S (some t) path (some o)) (rT x.1) = sOk S t path (some o) (rT x.1) := rfl
      rw [eo] at w5
      dsimp only
      rw [bd1 k4.p1, bd1 k4.p0, if_pos k4.kc, bd1 w5]
      dsimp only
      have F3 := rdC_fr C1 (a + 3) S path (rT x.1) (sNext (sOk S t path (some o) (rT x.1)) (sRk S path (rT x.1)) none)
      have hK3 := hK1.fr F3 (fun b hb => by omega)
      have hF3 : PasC (rdC C1 (a + 3) S path (rT x.1) (sNext (sOk S t path (some o) (rT x.1)) (sRk S path (rT x.1)) none)) a S t stage x := hF1.of (rdC_cI _ _ _ _ _ _)
      have hls := lenF_step (path := path) hL g8 hd ho
      have L := c52_in (a := a) (s := s) (st := st) hst hpa h3 ho 6999 0 n _ none false x (by have := mu_le S t stage path (some o) none x.1; omega) hls.1 (by omega) (by omega) hK3 hF3 hX (rdC_cur2 _ H1)
      simp only [↓reduceIte, Bool.false_eq_true, if_false, x_0] at L
      refine rt_bind (rt_mono L (fun z C4 H4 => ?_))
      obtain ⟨ez, G1, G2, G3⟩ := H4
      subst ez
      dsimp only
      have FF : Fr (PY a) C C4 := (H2.mono (fun b hb => Or.inr hb)).trans ((F3.mono (fun b hb => Or.inr hb)).trans G2)
      have hK4 := hK3.fr G2 (fun b hb => by have := PY_ge g2 b hb; omega)
      have k5 := pa_of hK4.1 g2
      have er : sFors S t stage path (k + 1) o x = sFors S t stage path k (o + 1) (sFor S t stage path o x) := by
        rw [sFors, if_pos e]
      rw [er]
      have hLF := lenF_for (path := path) hL g8 hd ho
      have eL : o + (k + 1) = o + 1 + k := by omega
      rw [eL]
      have go : ∀ C5, Fr (PY a) C C5 → PK C5 a s st S t → PasC C5 a S t stage (sFor S t stage path o x) → XOK S t stage (sFor S t stage path o x) → Rt (lp_52_2 n a (nI path) (nI o + 1) C5) (fun _ C' => PasC C' a S t stage (sFors S t stage path k (o + 1) (sFor S t stage path o x)) ∧ Fr (PY a) C C' ∧ XOK S t stage (sFors S t stage path k (o + 1) (sFor S t stage path o x)) ∧ lenF S t T0 stage (o + 1 + k) (sFors S t stage path k (o + 1) (sFor S t stage path o x))) := fun C5 F5 K5 P5 X5 => by
        rw [x_a1]
        exact rt_mono (ih (o + 1) n C5 _ (by omega) (by omega) K5 P5 X5 hLF) (fun _ C6 H6 => ⟨H6.1, F5.trans H6.2.1, H6.2.2⟩)
      rcases bcs (sReadO S t stage path o 7000 none false x).2 with bm | bm
      · have eb : (sReadO S t stage path o (6999 + 1) none false x).2 = false := bm
        simp only [↓reduceIte, eb, Bool.false_eq_true, if_false, not_true]
        rw [bd1 (show cP C4 a 7 = some st from hK4.2.2.2.2.2.1), if_pos kt.1, hK4.2.2.2.2.2.2.2.2.1.2.1]
        rcases bcs (tAdds t) with ba | ba
        · have ef : sFor S t stage path o x = (sReadO S t stage path o 7000 none false x).1 := by
            unfold sFor
            rw [if_neg (by rw [ba]; simp)]
          simp only [↓reduceIte, ba, Bool.false_eq_true, if_false, if_true, k5.k]
          exact go C4 FF hK4 (by rw [ef]; exact G1) (by rw [ef]; exact G3)
        · have ne1 : ¬ (1 : Int32) = 0 := by decide
          simp only [↓reduceIte, ba, if_true, ne1, if_false, k5.k]
          have e11' : cI C4 a 11 = rE (sReadO S t stage path o 7000 none false x).1.1 := G1.1.2.2.2.1
          by_cases ee : rE (sReadO S t stage path o 7000 none false x).1.1 = 0
          · have ef : sFor S t stage path o x = sMeet S t stage none (some o) (sReadO S t stage path o 7000 none false x).1 := by
              unfold sFor
              rw [if_pos (by simp [ba, bm, ee])]
            rw [e11', if_neg (by simpa using ee)]
            have hoo : ∀ q, (some o : Option Nat) = some q → q < (sOth S).length := fun q z => by cases z; exact ho
            have hnn : isNewS t none = true → ∀ c, c < sCols S → (tNew t c).isSome = true := fun _ => new_none g10 h3 hc1 ba
            have M := c53 (n := n) (pl := none) (o := some o) hst (fun p z => by cases z) hoo hK4 G1 ee G3.1.2 (fun z => (hls.2 7000 z).2.1) G3.2.1 hnn (by omega)
            simp only [oI_s, oI_n] at M
            refine rt_bind (rt_mono M (fun _ C5 H5 => ?_))
            dsimp only
            refine go C5 (FF.trans (H5.2.mono (fun b hb => Or.inl hb))) (hK4.fr H5.2 (fun b hb => by have := PY_ge g2 b (Or.inl hb); omega)) (by rw [ef]; exact H5.1) ?_
            rw [ef]
            exact G3.meet (fun p z => by cases z) hoo hnn
          · have ef : sFor S t stage path o x = (sReadO S t stage path o 7000 none false x).1 := by
              unfold sFor
              rw [if_neg (by simp [ee])]
            rw [e11', if_pos (by simpa using ee)]
            exact go C4 FF hK4 (by rw [ef]; exact G1) (by rw [ef]; exact G3)
      · have eb : (sReadO S t stage path o (6999 + 1) none false x).2 = true := bm
        have ne1 : ¬ (1 : Int32) = 0 := by decide
        have ef : sFor S t stage path o x = (sReadO S t stage path o 7000 none false x).1 := by
          unfold sFor
          rw [if_neg (by rw [bm]; simp)]
        simp only [↓reduceIte, eb, if_true, ne1, not_false_iff]
        exact go C4 FF hK4 (by rw [ef]; exact G1) (by rw [ef]; exact G3)
    · have e11 : ¬ cI C a 11 = 0 := by rw [hF.1.2.2.2.1]; exact e
      simp (disch := omega) only [↓reduceIte, lp_52_2, k3.k, if_true, if_false, ↓bd1 g5, ks.k, g7.2.2.2.2.1, x_le, b1, e11, not_false_iff]
      have er : sFors S t stage path (k + 1) o x = x := by
        rw [sFors, if_neg e]
      rw [er]
      refine rt_ret ⟨hF, Fr.refl _ _, hX, fun z => ?_⟩
      obtain ⟨q1, q2⟩ := hL z
      refine ⟨q1, ?_⟩
      by_cases kp : tCh t = 2
      · rw [if_pos kp] at q2 ⊢; omega
      · rw [if_neg kp] at q2 ⊢
        have : cnt 30 (fun p => T0.1 p && mB S t T0 o p) ≤ cnt 30 (fun p => T0.1 p && mB S t T0 (o + (k + 1)) p) := cnt_mono (fun q hq z => by
          simp only [Bool.and_eq_true] at *
          obtain ⟨o', y1, y2⟩ := mB_iff.mp z.2
          exact ⟨z.1, mB_iff.mpr ⟨o', by omega, y2⟩⟩)
        omega
