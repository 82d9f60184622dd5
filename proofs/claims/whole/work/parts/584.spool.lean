/-! The class's pass: the spool is emptied; a clash; a whole run. -/
theorem sItem_ne {S : Scr} {t : Stm} {stage : Nat} {r : RS} {q : Itm} (h : ¬ rE r = 0) : sItem S t stage r q = r := by
  unfold sItem
  rw [if_neg h]
theorem fold_ne {S : Scr} {t : Stm} {stage : Nat} : ∀ {l : List Itm} {r : RS}, ¬ rE r = 0 → l.foldl (sItem S t stage) r = r := by
  intro l
  induction l with
  | nil => intro r _; rfl
  | cons q l ih => intro r h; rw [List.foldl_cons, sItem_ne h]; exact ih h
theorem sItem_ok {S : Scr} {t : Stm} {stage : Nat} {r : RS} {q : Itm} (h : RSok S r) (hq : ItOK S t stage q) : RSok S (sItem S t stage r q) := by
  unfold sItem
  by_cases e : rE r = 0
  · rw [if_pos e]
    by_cases c : plHas (rT r) q.1 = true
    · rw [if_pos c]
      have hh : ∀ p, q.1 = some p → isNewS t q.1 = false → (rT r).1 p = true := fun p z _ => by rw [z] at c; exact c
      by_cases d : (decide (stage = 1) && !sHolds S (rT r) q.1 t) = true
      · rw [if_pos d]; exact h
      · rw [if_neg d]
        by_cases s3 : stage = 3
        · rw [if_pos s3]; exact sWrite_ok h (hq.2.2.2 s3) hq.2.2.1 hh
        · rw [if_neg s3]; exact sMkW_ok h hq.2.2.1 hh
    · rw [if_neg c]; exact h
  · rw [if_neg e]; exact h
/-- the items from slot j on -/
def SpC (C : AmC) (a j : Nat) (S : Scr) (t : Stm) (stage : Nat) (l : List Itm) : Prop := cI C a 9 = nI (j + l.length) ∧ j + l.length ≤ 40 ∧ ∀ i (h : i < l.length), cI C (a + 4) (j + i) = oI l[i].1 ∧ cI C (a + 5) (j + i) = oI l[i].2.1 ∧ (stage = 3 → SlC C a (j + i) S t l[i].1 l[i].2.2)
theorem SpC.tl {C C1 : AmC} {a j stage : Nat} {S : Scr} {t : Stm} {q : Itm} {l : List Itm} (h : SpC C a j S t stage (q :: l)) (e9 : cI C1 a 9 = cI C a 9) (e4 : cI C1 (a + 4) = cI C (a + 4)) (e5 : cI C1 (a + 5) = cI C (a + 5)) (e6 : stage = 3 → cI C1 (a + 6) = cI C (a + 6)) : SpC C1 a (j + 1) S t stage l := by
  obtain ⟨h1, h2, h3⟩ := h
  simp only [List.length_cons] at h1 h2
  refine ⟨by rw [e9, h1]; congr 1; omega, by omega, fun i hi => ?_⟩
  have := h3 (i + 1) (by simpa using hi)
  simp only [List.getElem_cons_succ] at this
  rw [show j + (i + 1) = j + 1 + i from by omega] at this
  refine ⟨by rw [e4]; exact this.1, by rw [e5]; exact this.2.1, fun z => ⟨by rw [e4]; exact this.1, fun d hd hv => by rw [e6 z]; exact (this.2.2 z).2 d hd hv⟩⟩
theorem c54_lp {a s st stage : Nat} {S : Scr} {t : Stm} (hst : stage ≤ 3) (hs0 : ¬ stage = 0) : ∀ (l : List Itm) (j n : Nat) (C : AmC) (r : RS), l.length + 1400 < n → PK C a s st S t → PsF C a S stage r → (rE r = 0 → SpC C a j S t stage l) → RSok S r → (∀ q ∈ l, ItOK S t stage q) → Rt (lp_54_2 n a (nI j) C) (fun _ C' => PsF C' a S stage (l.foldl (sItem S t stage) r) ∧ Fr (PX a) C C' ∧ (stage = 3 → cI C' (a + 4) = cI C (a + 4) ∧ cI C' (a + 6) = cI C (a + 6))) := by
  intro l
  induction l with
  | nil =>
    intro j n C r hn hK hF hS hX _
    obtain ⟨n, rfl⟩ : ∃ m, n = m + 1 := ⟨n - 1, by omega⟩
    have k3 := pa_of hK.1 hK.2.1
    have post : Rt (some ((), C)) (fun _ C' => PsF C' a S stage (([] : List Itm).foldl (sItem S t stage) r) ∧ Fr (PX a) C C' ∧ (stage = 3 → cI C' (a + 4) = cI C (a + 4) ∧ cI C' (a + 6) = cI C (a + 6))) := rt_ret ⟨hF, Fr.refl _ _, fun _ => ⟨rfl, rfl⟩⟩
    by_cases e : rE r = 0
    · obtain ⟨h9, h40, _⟩ := hS e
      simp only [List.length_nil, Nat.add_zero] at h9 h40
      simp (disch := omega) only [↓reduceIte, lp_54_2, k3.k, if_true, h9, x_le, Nat.le_refl]
      exact post
    · have e11 : ¬ cI C a 11 = 0 := by rw [hF.2.2.2.1]; exact e
      unfold lp_54_2
      rw [if_pos k3.k]
      by_cases c1 : cI C a 9 ≤ nI j
      · rw [if_pos c1]; exact post
      · rw [if_neg c1]
        by_cases c2 : (40 : Int32) ≤ nI j
        · rw [if_pos c2]; exact post
        · rw [if_neg c2, if_pos e11]; exact post
  | cons q l ih =>
    intro j n C r hn hK hF hS hX hok
    obtain ⟨n, rfl⟩ : ∃ m, n = m + 1 := ⟨n - 1, by omega⟩
    simp only [List.length_cons] at hn
    have hK0 := hK
    obtain ⟨hP, g2, g3, g4, g5, g6, g7, g8, g9, g10⟩ := hK
    have k3 := pa_of hP g2
    have ks := sc_of hP g3
    have kt := st_of hP g4
    have hrw := rw_of hP k3.rw
    obtain ⟨a1, a2⟩ := pas_ge g2
    by_cases e : rE r = 0
    · have e11 : cI C a 11 = 0 := by rw [hF.2.2.2.1]; exact e
      have hSp := hS e
      obtain ⟨h9, h40, hI⟩ := id hSp
      simp only [List.length_cons] at h9 h40
      have q0 := hI 0 (by simp)
      simp only [Nat.add_zero, List.getElem_cons_zero] at q0
      obtain ⟨q4, q5, q6⟩ := q0
      have hq := hok q List.mem_cons_self
      have hokl : ∀ q ∈ l, ItOK S t stage q := fun q' z => hok q' (List.mem_cons_of_mem _ z)
      have c1 : ¬ j + (l.length + 1) ≤ j := by omega
      have c2 : ¬ 40 ≤ j := by omega
      have hj : j < 40 := by omega
      have e8 : cI C a 8 = nI stage := hF.2.1
      have cl : Int32.toNatClampNeg (nI j) = j := x_cl (by omega)
      rw [List.foldl_cons]
      -- what follows, with nothing changed
      have skip : sItem S t stage r q = r → Rt (lp_54_2 n a (nI j + 1) C) (fun _ C' => PsF C' a S stage (l.foldl (sItem S t stage) (sItem S t stage r q)) ∧ Fr (PX a) C C' ∧ (stage = 3 → cI C' (a + 4) = cI C (a + 4) ∧ cI C' (a + 6) = cI C (a + 6))) := fun es => by
        rw [es, x_a1]
        exact ih (j + 1) n C r (by omega) hK0 hF (fun _ => hSp.tl rfl rfl rfl (fun _ => rfl)) hX hokl
      -- a write of what the slot bears
      have wr : ∀ C2 mk, PK C2 a s st S t → PsF C2 a S stage r → SlC C2 a j S t q.1 mk → (∀ p, q.1 = some p → isNewS t q.1 = false → (rT r).1 p = true) → cI C2 a 9 = cI C a 9 → cI C2 (a + 4) = cI C (a + 4) → cI C2 (a + 5) = cI C (a + 5) → (stage = 3 → cI C2 (a + 6) = cI C (a + 6)) → Fr (PX a) C C2 → sItem S t stage r q = sWrite t q.1 mk r → Rt ((f_57 n a (nI j) C2).bind (fun z => match z with
          | (_, C14) => lp_54_2 n a (nI j + 1) C14)) (fun _ C' => PsF C' a S stage (l.foldl (sItem S t stage) (sItem S t stage r q)) ∧ Fr (PX a) C C' ∧ (stage = 3 → cI C' (a + 4) = cI C (a + 4) ∧ cI C' (a + 6) = cI C (a + 6))) := by
        intro C2 mk K2 F2 S2 hh z9 z4 z5 z6 FF es
        refine rt_bind (rt_mono (c57 (n := n) hj hq.1 K2 F2 hX.2 hq.2.2.1 hh S2 (by omega)) (fun _ C3 H => ?_))
        obtain ⟨H1, H2, H3⟩ := H
        rw [← es] at H1
        have w4 : cI C3 (a + 4) = cI C2 (a + 4) := H2.2.1 _ (by omega)
        have w5 : cI C3 (a + 5) = cI C2 (a + 5) := H2.2.1 _ (by omega)
        have w6 : cI C3 (a + 6) = cI C2 (a + 6) := H2.2.1 _ (by omega)
        have FX : Fr (PX a) C C3 := FF.trans (H2.mono (fun b hb => by unfold PX; omega))
        dsimp only
        rw [x_a1]
        refine rt_mono (ih (j + 1) n C3 _ (by omega) (K2.fr H2 (fun b hb => by omega)) H1 (fun _ => hSp.tl (by rw [H3, z9]) (by rw [w4, z4]) (by rw [w5, z5]) (fun z => by rw [w6, z6 z])) (sItem_ok hX hq) hokl) (fun _ C4 H4 => ⟨H4.1, FX.trans H4.2.1, fun z => ?_⟩)
        obtain ⟨y1, y2⟩ := H4.2.2 z
        exact ⟨by rw [y1, w4, z4], by rw [y2, w6, z6 z]⟩
      -- making, then a write
      have mkw : ¬ stage = 3 → (∀ p, q.1 = some p → (rT r).1 p = true) → sItem S t stage r q = sMkW S t q.1 q.2.1 r → Rt ((f_56 n a (nI j) C).bind (fun z => match z with
          | (_, C17) => (if ¬ (cI C17 a 11) = 0 then lp_54_2 n a (nI j + 1) C17 else (f_57 n a (nI j) C17).bind (fun z => match z with
            | (_, C21) => lp_54_2 n a (nI j + 1) C21)))) (fun _ C' => PsF C' a S stage (l.foldl (sItem S t stage) (sItem S t stage r q)) ∧ Fr (PX a) C C' ∧ (stage = 3 → cI C' (a + 4) = cI C (a + 4) ∧ cI C' (a + 6) = cI C (a + 6))) := by
        intro s3 hh es
        refine rt_bind (rt_mono (c56 (n := n) hj hq.1 hq.2.1 hK0 hF.1 q4 q5 e11 (by omega)) (fun _ C2 H => ?_))
        obtain ⟨H1, H2, H3, H4⟩ := H
        dsimp only
        have K2 := hK0.fr H1 (fun b hb => by omega)
        have FX : Fr (PX a) C C2 := H1.mono (fun b hb => by unfold PX; omega)
        have eo : sOver S (rT r) t q.1 q.2.1 = qf (ovF S (rT r) t q.1 q.2.1) (sCols S) 0 := rfl
        cases ho2 : qf (ovF S (rT r) t q.1 q.2.1) (sCols S) 0 with
        | some d =>
          rw [ho2] at H4 eo
          obtain ⟨y1, y2, y3⟩ := H4
          have ne2 : ¬ (2 : Int32) = 0 := by decide
          rw [y1, if_pos ne2]
          have e2 : sMkW S t q.1 q.2.1 r = rEnd r 2 (oI q.1) (nI d) := by rw [sMkW, eo]
          have F2 : PsF C2 a S stage (sItem S t stage r q) := by
            rw [es, e2]
            obtain ⟨h1, h2, h3, h4, h5, h6, h7⟩ := hF
            exact ⟨h1.of (H1.2.1 _ (by omega)) (H1.2.1 _ (by omega)), by rw [H3 8 (by omega)]; exact h2, by rw [H3 10 (by omega)]; exact h3, y1, y2, y3, fun p hp => by rw [H1.2.1 _ (by omega)]; exact h7 p hp⟩
          rw [x_a1]
          refine rt_mono (ih (j + 1) n C2 _ (by omega) K2 F2 (fun z => ?_) (sItem_ok hX hq) hokl) (fun _ C4 H4 => ⟨H4.1, FX.trans H4.2.1, fun z => absurd z s3⟩)
          rw [es, e2] at z
          exact absurd z ne2
        | none =>
          rw [ho2] at H4 eo
          obtain ⟨y1, y2⟩ := H4
          have y11 : cI C2 a 11 = 0 := by rw [y1]; exact e11
          simp only [↓reduceIte, y11, not_true, if_false]
          have e2 : sMkW S t q.1 q.2.1 r = sWrite t q.1 (mkS S (rT r) t q.1 q.2.1) r := by rw [sMkW, eo]
          refine wr C2 (mkS S (rT r) t q.1 q.2.1) K2 (hF.of (fun f _ _ => by rw [y1]) (H1.2.1 _ (by omega)) (H1.2.1 _ (by omega)) (H1.2.1 _ (by omega))) ⟨by rw [H1.2.1 _ (by omega)]; exact q4, fun d hd hv => y2 d (by omega) (by omega) hv⟩ (fun p z _ => hh p z) (by rw [y1]) (H1.2.1 _ (by omega)) (H1.2.1 _ (by omega)) (fun z => absurd z s3) FX (by rw [es, e2])
      have go : (∀ p, q.1 = some p → (rT r).1 p = true) → Rt (if stage = 1 then (if sHolds S (rT r) q.1 t = true then (f_56 n a (nI j) C).bind (fun z => match z with
          | (_, C17) => (if ¬ (cI C17 a 11) = 0 then lp_54_2 n a (nI j + 1) C17 else (f_57 n a (nI j) C17).bind (fun z => match z with
            | (_, C21) => lp_54_2 n a (nI j + 1) C21))) else lp_54_2 n a (nI j + 1) C) else if stage = 3 then (f_57 n a (nI j) C).bind (fun z => match z with
          | (_, C14) => lp_54_2 n a (nI j + 1) C14) else (f_56 n a (nI j) C).bind (fun z => match z with
          | (_, C17) => (if ¬ (cI C17 a 11) = 0 then lp_54_2 n a (nI j + 1) C17 else (f_57 n a (nI j) C17).bind (fun z => match z with
            | (_, C21) => lp_54_2 n a (nI j + 1) C21)))) (fun _ C' => PsF C' a S stage (l.foldl (sItem S t stage) (sItem S t stage r q)) ∧ Fr (PX a) C C' ∧ (stage = 3 → cI C' (a + 4) = cI C (a + 4) ∧ cI C' (a + 6) = cI C (a + 6))) := by
        intro hh
        have cond : plHas (rT r) q.1 = true := by
          cases h1 : q.1 with
          | none => rfl
          | some p => exact hh p h1
        by_cases s1 : stage = 1
        · rw [if_pos s1]
          rcases bcs (sHolds S (rT r) q.1 t) with b | b
          · rw [b]
            simp only [↓reduceIte, Bool.false_eq_true, if_false]
            refine skip ?_
            unfold sItem
            rw [if_pos e, if_pos cond, if_pos (by simp [s1, b])]
          · rw [b]
            simp only [↓reduceIte, if_true]
            refine mkw (by omega) hh ?_
            unfold sItem
            rw [if_pos e, if_pos cond, if_neg (by simp [b]), if_neg (by omega)]
        · rw [if_neg s1]
          by_cases s3 : stage = 3
          · rw [if_pos s3]
            refine wr C q.2.2 hK0 hF (q6 s3) (fun p z _ => hh p z) rfl rfl rfl (fun _ => rfl) (Fr.refl _ _) ?_
            unfold sItem
            rw [if_pos e, if_pos cond, if_neg (by simp [s1]), if_pos s3]
          · rw [if_neg s3]
            refine mkw s3 hh ?_
            unfold sItem
            rw [if_pos e, if_pos cond, if_neg (by simp [s1]), if_neg s3]
      have ne1 : ¬ (1 : Int32) = 0 := by decide
      have w103 := c103 (n := n) ks g7 g8 hrw hF.1 hq.1 kt.1 g9 g10 (by omega)
      have hst4 : stage = 1 ∨ stage = 2 ∨ stage = 3 := by omega
      have i4 : amIn (nI j) 40 = true := by rw [x_in (by omega)]; exact hj
      cases hpl : q.1 with
      | none =>
        have G := go (fun p z => by rw [hpl] at z; cases z)
        rw [hpl] at q4 w103
        have q4 : cI C (a + 4) j = -1 := q4
        have w103 : f_103 n s st (a + 1) (-1) C = some (if sHolds S (rT r) none t = true then 1 else 0, C) := w103
        rw [hpl] at G
        rcases hst4 with rfl | rfl | rfl
        · have t1 : (nI 1 = (1 : Int32)) = True := by decide
          have t3 : (nI 1 = (3 : Int32)) = False := by decide
          simp only [↓reduceIte, if_true] at G
          rcases bcs (sHolds S (rT r) none t) with b | b
          · rw [b] at w103 G
            simp only [↓reduceIte, Bool.false_eq_true, if_false] at w103 G
            simp (disch := omega) only [lp_54_2, k3.k, if_true, if_false, h9, ↓reduceIte, n_2, n_3, n_4, n_5, n_6, n_7, n_8, n_10, n_12, n_20, n_30, n_40, n_100, n_120, n_150, n_200, n_230, n_320, n_450, n_900, x_le, x_lt, x_eq, x_lt0, x_le0, x_0le, x_0lt, x_eq0, x_eq1, x_1lt, x_le1, x_lt1, x_1le, x_eqm, x_add, x_a1, x_1a, x_a0, x_0a, x_mul, x_sub, x_s1, x_1s, x_div, x_cl, x_cl0, x_cl1, x_in, x_in0, x_in1, x_ofNat, c1, c2, e11, not_true, ↓bd1 k3.p2, k3.k4, k3.l4, hj, q4, e8, t1, t3, ↓bd1 g5, ↓bd1 g6, ↓bd1 k3.p0, ks.k, w103, Option.bind_some]
            rw [x_a1] at G
            exact G
          · rw [b] at w103 G
            simp only [↓reduceIte, if_true] at w103 G
            rw [x_a1] at G
            simp (disch := omega) only [lp_54_2, k3.k, if_true, if_false, h9, ↓reduceIte, n_2, n_3, n_4, n_5, n_6, n_7, n_8, n_10, n_12, n_20, n_30, n_40, n_100, n_120, n_150, n_200, n_230, n_320, n_450, n_900, x_le, x_lt, x_eq, x_lt0, x_le0, x_0le, x_0lt, x_eq0, x_eq1, x_1lt, x_le1, x_lt1, x_1le, x_eqm, x_add, x_a1, x_1a, x_a0, x_0a, x_mul, x_sub, x_s1, x_1s, x_div, x_cl, x_cl0, x_cl1, x_in, x_in0, x_in1, x_ofNat, c1, c2, e11, not_true, not_false_iff, ↓bd1 k3.p2, k3.k4, k3.l4, hj, q4, e8, t1, t3, ↓bd1 g5, ↓bd1 g6, ↓bd1 k3.p0, ks.k, w103, Option.bind_some, ne1]
            exact G
        · have t1 : (nI 2 = (1 : Int32)) = False := by decide
          have t3 : (nI 2 = (3 : Int32)) = False := by decide
          simp only [↓reduceIte, show ¬ (2 : Nat) = 1 from by decide, show ¬ (2 : Nat) = 3 from by decide, if_false] at G
          rw [x_a1] at G
          simp (disch := omega) only [lp_54_2, k3.k, if_true, if_false, h9, ↓reduceIte, n_2, n_3, n_4, n_5, n_6, n_7, n_8, n_10, n_12, n_20, n_30, n_40, n_100, n_120, n_150, n_200, n_230, n_320, n_450, n_900, x_le, x_lt, x_eq, x_lt0, x_le0, x_0le, x_0lt, x_eq0, x_eq1, x_1lt, x_le1, x_lt1, x_1le, x_eqm, x_add, x_a1, x_1a, x_a0, x_0a, x_mul, x_sub, x_s1, x_1s, x_div, x_cl, x_cl0, x_cl1, x_in, x_in0, x_in1, x_ofNat, c1, c2, e11, not_true, not_false_iff, ↓bd1 k3.p2, k3.k4, k3.l4, hj, q4, e8, t1, t3, show ¬ (2 : Nat) = 3 from by decide]
          exact G
        · have t1 : (nI 3 = (1 : Int32)) = False := by decide
          have t3 : (nI 3 = (3 : Int32)) = True := by decide
          simp only [↓reduceIte, show ¬ (3 : Nat) = 1 from by decide, if_true, if_false] at G
          rw [x_a1] at G
          simp (disch := omega) only [lp_54_2, k3.k, if_true, if_false, h9, ↓reduceIte, n_2, n_3, n_4, n_5, n_6, n_7, n_8, n_10, n_12, n_20, n_30, n_40, n_100, n_120, n_150, n_200, n_230, n_320, n_450, n_900, x_le, x_lt, x_eq, x_lt0, x_le0, x_0le, x_0lt, x_eq0, x_eq1, x_1lt, x_le1, x_lt1, x_1le, x_eqm, x_add, x_a1, x_1a, x_a0, x_0a, x_mul, x_sub, x_s1, x_1s, x_div, x_cl, x_cl0, x_cl1, x_in, x_in0, x_in1, x_ofNat, c1, c2, e11, not_true, not_false_iff, ↓bd1 k3.p2, k3.k4, k3.l4, hj, q4, e8, t1, t3]
          exact G
      | some p =>
        have hp30 := hq.1 p hpl
        rw [hpl] at q4 w103
        have q4 : cI C (a + 4) j = nI p := q4
        have w103 : f_103 n s st (a + 1) (nI p) C = some (if sHolds S (rT r) (some p) t = true then 1 else 0, C) := w103
        have em : ¬ nI p = (-1 : Int32) := by rw [x_eqm (by omega)]; exact id
        rcases bcs ((rT r).1 p) with tp | tp
        · have w75 : f_75 n (a + 1) (nI p) C = some (0, C) := by rw [rh_eq hrw hF.1 hp30, tp]; rfl
          have es : sItem S t stage r q = r := by
            unfold sItem
            rw [if_pos e, if_neg (by rw [hpl]; simp [plHas, tp])]
          have G := skip es
          rw [x_a1] at G
          simp (disch := omega) only [lp_54_2, k3.k, if_true, if_false, h9, ↓reduceIte, n_2, n_3, n_4, n_5, n_6, n_7, n_8, n_10, n_12, n_20, n_30, n_40, n_100, n_120, n_150, n_200, n_230, n_320, n_450, n_900, x_le, x_lt, x_eq, x_lt0, x_le0, x_0le, x_0lt, x_eq0, x_eq1, x_1lt, x_le1, x_lt1, x_1le, x_eqm, x_add, x_a1, x_1a, x_a0, x_0a, x_mul, x_sub, x_s1, x_1s, x_div, x_cl, x_cl0, x_cl1, x_in, x_in0, x_in1, x_ofNat, c1, c2, e11, not_true, not_false_iff, ↓bd1 k3.p2, k3.k4, k3.l4, hj, q4, em, ↓bd1 k3.p0, hrw.1, w75, Option.bind_some]
          exact G
        · have w75 : f_75 n (a + 1) (nI p) C = some (1, C) := by rw [rh_eq hrw hF.1 hp30, tp]; rfl
          have G := go (fun p' z => by rw [hpl] at z; cases z; exact tp)
          rw [hpl] at G
          rcases hst4 with rfl | rfl | rfl
          · have t1 : (nI 1 = (1 : Int32)) = True := by decide
            have t3 : (nI 1 = (3 : Int32)) = False := by decide
            simp only [↓reduceIte, if_true] at G
            rcases bcs (sHolds S (rT r) (some p) t) with b | b
            · rw [b] at w103 G
              simp only [↓reduceIte, Bool.false_eq_true, if_false] at w103 G
              rw [x_a1] at G
              simp (disch := omega) only [lp_54_2, k3.k, if_true, if_false, h9, ↓reduceIte, n_2, n_3, n_4, n_5, n_6, n_7, n_8, n_10, n_12, n_20, n_30, n_40, n_100, n_120, n_150, n_200, n_230, n_320, n_450, n_900, x_le, x_lt, x_eq, x_lt0, x_le0, x_0le, x_0lt, x_eq0, x_eq1, x_1lt, x_le1, x_lt1, x_1le, x_eqm, x_add, x_a1, x_1a, x_a0, x_0a, x_mul, x_sub, x_s1, x_1s, x_div, x_cl, x_cl0, x_cl1, x_in, x_in0, x_in1, x_ofNat, c1, c2, e11, not_true, not_false_iff, ↓bd1 k3.p2, k3.k4, k3.l4, hj, q4, em, hrw.1, w75, ne1, e8, t1, t3, ↓bd1 g5, ↓bd1 g6, ↓bd1 k3.p0, ks.k, w103, Option.bind_some]
              exact G
            · rw [b] at w103 G
              simp only [↓reduceIte, if_true] at w103 G
              rw [x_a1] at G
              simp (disch := omega) only [lp_54_2, k3.k, if_true, if_false, h9, ↓reduceIte, n_2, n_3, n_4, n_5, n_6, n_7, n_8, n_10, n_12, n_20, n_30, n_40, n_100, n_120, n_150, n_200, n_230, n_320, n_450, n_900, x_le, x_lt, x_eq, x_lt0, x_le0, x_0le, x_0lt, x_eq0, x_eq1, x_1lt, x_le1, x_lt1, x_1le, x_eqm, x_add, x_a1, x_1a, x_a0, x_0a, x_mul, x_sub, x_s1, x_1s, x_div, x_cl, x_cl0, x_cl1, x_in, x_in0, x_in1, x_ofNat, c1, c2, e11, not_true, not_false_iff, ↓bd1 k3.p2, k3.k4, k3.l4, hj, q4, em, hrw.1, w75, ne1, e8, t1, t3, ↓bd1 g5, ↓bd1 g6, ↓bd1 k3.p0, ks.k, w103, Option.bind_some]
              exact G
          · have t1 : (nI 2 = (1 : Int32)) = False := by decide
            have t3 : (nI 2 = (3 : Int32)) = False := by decide
            simp only [↓reduceIte, show ¬ (2 : Nat) = 1 from by decide, show ¬ (2 : Nat) = 3 from by decide, if_false] at G
            rw [x_a1] at G
            simp (disch := omega) only [lp_54_2, k3.k, if_true, if_false, h9, ↓reduceIte, n_2, n_3, n_4, n_5, n_6, n_7, n_8, n_10, n_12, n_20, n_30, n_40, n_100, n_120, n_150, n_200, n_230, n_320, n_450, n_900, x_le, x_lt, x_eq, x_lt0, x_le0, x_0le, x_0lt, x_eq0, x_eq1, x_1lt, x_le1, x_lt1, x_1le, x_eqm, x_add, x_a1, x_1a, x_a0, x_0a, x_mul, x_sub, x_s1, x_1s, x_div, x_cl, x_cl0, x_cl1, x_in, x_in0, x_in1, x_ofNat, c1, c2, e11, not_true, not_false_iff, ↓bd1 k3.p2, ↓bd1 k3.p0, k3.k4, k3.l4, hj, q4, em, hrw.1, w75, ne1, e8, t1, t3, show ¬ (2 : Nat) = 3 from by decide, Option.bind_some]
            exact G
          · have t1 : (nI 3 = (1 : Int32)) = False := by decide
            have t3 : (nI 3 = (3 : Int32)) = True := by decide
            simp only [↓reduceIte, show ¬ (3 : Nat) = 1 from by decide, if_true, if_false] at G
            rw [x_a1] at G
            simp (disch := omega) only [lp_54_2, k3.k, if_true, if_false, h9, ↓reduceIte, n_2, n_3, n_4, n_5, n_6, n_7, n_8, n_10, n_12, n_20, n_30, n_40, n_100, n_120, n_150, n_200, n_230, n_320, n_450, n_900, x_le, x_lt, x_eq, x_lt0, x_le0, x_0le, x_0lt, x_eq0, x_eq1, x_1lt, x_le1, x_lt1, x_1le, x_eqm, x_add, x_a1, x_1a, x_a0, x_0a, x_mul, x_sub, x_s1, x_1s, x_div, x_cl, x_cl0, x_cl1, x_in, x_in0, x_in1, x_ofNat, c1, c2, e11, not_true, not_false_iff, ↓bd1 k3.p2, ↓bd1 k3.p0, k3.k4, k3.l4, hj, q4, em, hrw.1, w75, ne1, e8, t1, t3, Option.bind_some]
            exact G
    · have e11 : ¬ cI C a 11 = 0 := by rw [hF.2.2.2.1]; exact e
      have post : Rt (some ((), C)) (fun _ C' => PsF C' a S stage ((q :: l).foldl (sItem S t stage) r) ∧ Fr (PX a) C C' ∧ (stage = 3 → cI C' (a + 4) = cI C (a + 4) ∧ cI C' (a + 6) = cI C (a + 6))) := rt_ret ⟨by rw [fold_ne e]; exact hF, Fr.refl _ _, fun _ => ⟨rfl, rfl⟩⟩
      unfold lp_54_2
      rw [if_pos k3.k]
      by_cases c1 : cI C a 9 ≤ nI j
      · rw [if_pos c1]; exact post
      · rw [if_neg c1]
        by_cases c2 : (40 : Int32) ≤ nI j
        · rw [if_pos c2]; exact post
        · rw [if_neg c2, if_pos e11]; exact post
theorem c54 {n : Nat} {C : AmC} {a s st stage : Nat} {S : Scr} {t : Stm} {x : RS × List Itm} (hst : stage ≤ 3) (hK : PK C a s st S t) (hF : PasC C a S t stage x) (hX : XOK S t stage x) (hn : 1600 ≤ n) : Rt (f_54 n a C) (fun _ C' => PsF C' a S stage (x.2.foldl (sItem S t stage) x.1) ∧ Fr (PX a) C C' ∧ (stage = 3 → cI C' (a + 4) = cI C (a + 4) ∧ cI C' (a + 6) = cI C (a + 6))) := by
  unfold f_54
  by_cases e : stage = 0
  · have h0 := hX.2.1 e
    have k3 := pa_of hK.1 hK.2.1
    obtain ⟨n, rfl⟩ : ∃ m, n = m + 1 := ⟨n - 1, by omega⟩
    have post : Rt (some ((), C)) (fun _ C' => PsF C' a S stage (x.2.foldl (sItem S t stage) x.1) ∧ Fr (PX a) C C' ∧ (stage = 3 → cI C' (a + 4) = cI C (a + 4) ∧ cI C' (a + 6) = cI C (a + 6))) := rt_ret ⟨by rw [h0]; exact hF.1, Fr.refl _ _, fun _ => ⟨rfl, rfl⟩⟩
    by_cases ee : rE x.1 = 0
    · have h9 := (hF.2 ee).1
      rw [h0] at h9
      have h9 : cI C a 9 = 0 := h9
      have l0 : (0 : Int32) ≤ 0 := by decide
      simp only [↓reduceIte, lp_54_2, k3.k, if_true, h9, l0, Option.bind_some]
      exact post
    · have e11 : ¬ cI C a 11 = 0 := by rw [hF.1.2.2.2.1]; exact ee
      unfold lp_54_2
      rw [if_pos k3.k]
      by_cases c1 : cI C a 9 ≤ 0
      · rw [if_pos c1]; exact post
      · rw [if_neg c1, if_neg (show ¬ (40 : Int32) ≤ 0 by decide), if_pos e11]; exact post
  · have hl : x.2.length ≤ 40 ∨ ¬ rE x.1 = 0 := by
      by_cases ee : rE x.1 = 0
      · exact Or.inl (hF.2 ee).2.1
      · exact Or.inr ee
    by_cases ee : rE x.1 = 0
    · have hI := hF.2 ee
      have hlen := hI.2.1
      have L := c54_lp (a := a) (s := s) (st := st) hst e x.2 0 n C x.1 (by omega) hK hF.1 (fun _ => ⟨by rw [Nat.zero_add]; exact hI.1, by omega, fun i hi => by rw [Nat.zero_add]; exact hI.2.2 i hi⟩) hX.1 hX.2.2
      rw [x_0] at L
      exact rt_bind (rt_mono L (fun _ C' H => rt_ret H))
    · have L := c54_lp (a := a) (s := s) (st := st) hst e [] 0 n C x.1 (by simp only [List.length_nil]; omega) hK hF.1 (fun z => absurd z ee) hX.1 (fun q z => by cases z)
      rw [x_0] at L
      refine rt_bind (rt_mono L (fun _ C' H => rt_ret ⟨?_, H.2⟩))
      rw [fold_ne ee]
      exact H.1
theorem c59 {n : Nat} {C : AmC} {a s st stage : Nat} {S : Scr} {t : Stm} {r : RS} (hK : PK C a s st S t) (hF : PsF C a S stage r) (hn : 100 ≤ n) : Rt (f_59 n a C) (fun _ C' => PsF C' a S stage (sEnd S r) ∧ Fr (fun b => b = a) C C') := by
  obtain ⟨hP, g2, g3, g4, g5, g6, g7, g8, g9, g10⟩ := hK
  have k3 := pa_of hP g2
  have ks := sc_of hP g3
  have hrw := rw_of hP k3.rw
  unfold f_59
  by_cases e : rE r = 0
  · have e11 : cI C a 11 = 0 := by rw [hF.2.2.2.1]; exact e
    have w107 := c107 (n := n) ks g7 g8 hrw hF.1 (by omega)
    have hl := g8.2.2.1
    cases hc : sClash 30 S (rT r) with
    | none =>
      rw [hc] at w107
      have w107 : f_107 n s (a + 1) C = some (-1, C) := w107
      simp only [↓reduceIte, k3.k, if_true, e11, ↓bd1 g5, ↓bd1 k3.p0, ks.k, w107, Option.bind_some]
      refine rt_ret ⟨?_, Fr.refl _ _⟩
      unfold sEnd
      rw [if_pos e, hc]
      exact hF
    | some i =>
      rw [hc] at w107
      have w107 : f_107 n s (a + 1) C = some (nI i, C) := w107
      have hi : i < (sIdx S).length := by
        obtain ⟨_, z, _⟩ := qf_some hc
        omega
      have w105 := c105 (n := n) ks g7 g8 hrw hF.1 hi (by omega)
      have em : ¬ nI i = (-1 : Int32) := by rw [x_eqm (by omega)]; exact id
      simp only [↓reduceIte, k3.k, if_true, if_false, e11, ↓bd1 g5, ↓bd1 k3.p0, ks.k, w107, Option.bind_some, em, w105, c48 k3.k]
      refine rt_ret ⟨?_, uE_fr C a 5 (nI i) (twI (sTwin 30 S (rT r) i))⟩
      unfold sEnd
      rw [if_pos e, hc]
      exact hF.uE 5 (nI i) (twI (sTwin 30 S (rT r) i))
  · have e11 : ¬ cI C a 11 = 0 := by rw [hF.2.2.2.1]; exact e
    simp only [↓reduceIte, k3.k, if_true, if_false, e11]
    refine rt_ret ⟨?_, Fr.refl _ _⟩
    unfold sEnd
    rw [if_neg e]
    exact hF
