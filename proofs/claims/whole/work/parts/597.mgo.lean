/-! The reference's run: the spool is gone through. -/
theorem f218_ne {n : Nat} {C : AmC} {p : Int32} (h : ¬ cI C 145 66 = 0) : f_218 n 145 p C = some ((), C) := by
  unfold f_218
  rw [if_pos k_145, if_pos h]
/-- the reference's items from j on -/
def SpM (C : AmC) (j : Nat) (S : Scr) (t : Stm) (stage : Nat) (l : List Itm) : Prop := cI C 145 80 = nI (j + l.length) ∧ j + l.length ≤ 320 ∧ ∀ i (h : i < l.length), cI C 188 (j + i) = oI l[i].1 ∧ (tKd t = 3 → ∃ q, l[i].2.1 = some q ∧ cI C 189 (j + i) = nI q) ∧ (stage = 3 → isKpt t l[i].1 = false → ∀ c, c < sCols S → (valsS t l[i].1 c).isSome = true → cI C 190 (4 * (j + i) + c) = l[i].2.2 c)
theorem SpM.tl {C C1 : AmC} {j stage : Nat} {S : Scr} {t : Stm} {q : Itm} {l : List Itm} (h : SpM C j S t stage (q :: l)) (e80 : cI C1 145 80 = cI C 145 80) (e : ∀ b, 188 ≤ b → b ≤ 190 → cI C1 b = cI C b) : SpM C1 (j + 1) S t stage l := by
  obtain ⟨h1, h2, h3⟩ := h
  simp only [List.length_cons] at h1 h2
  refine ⟨by rw [e80, h1]; congr 1; omega, by omega, fun i hi => ?_⟩
  have := h3 (i + 1) (by simpa using hi)
  simp only [List.getElem_cons_succ] at this
  rw [show j + (i + 1) = j + 1 + i from by omega] at this
  rw [e 188 (by omega) (by omega), e 189 (by omega) (by omega), e 190 (by omega) (by omega)]
  exact this
theorem m220_lp {h i stage : Nat} {S : Scr} {t : Stm} (hst : stage ≤ 3) (hs0 : ¬ stage = 0) : ∀ (l : List Itm) (j n : Nat) (C : AmC) (r : RS), l.length + 1500 < n → MK C h S i t → MrF C S t r → (rE r = 0 → r1 r = -1 ∧ r2 r = -1 ∧ SpM C j S t stage l) → RSok S r → (∀ q ∈ l, ItV S t q ∧ (nKp t q = true → ItOK S t stage q)) → j + l.length < 1000 → Rt (lp_220_13 n 145 (nI stage) (if tKd t = 3 then 1 else 0) (nI j) C) (fun _ C' => MrF C' S t ((l.filter (nKp t)).foldl (sItem S t stage) r) ∧ FrM 65 C C') := by
  have hst4 : stage = 1 ∨ stage = 2 ∨ stage = 3 := by omega
  intro l
  induction l with
  | nil =>
    intro j n C r hn hK hF hS hX _ hj
    obtain ⟨n, rfl⟩ : ∃ m, n = m + 1 := ⟨n - 1, by omega⟩
    have post : Rt (some ((), C)) (fun _ C' => MrF C' S t ((([] : List Itm).filter (nKp t)).foldl (sItem S t stage) r) ∧ FrM 65 C C') := rt_ret ⟨hF, FrM.refl _ _⟩
    by_cases e : rE r = 0
    · obtain ⟨_, _, h9, h40, _⟩ := hS e
      simp only [List.length_nil, Nat.add_zero] at h9 h40
      simp (disch := omega) only [↓reduceIte, lp_220_13, if_true, if_false, Option.bind_some, k_145, h9, x_le, Nat.le_refl]
      exact post
    · have e66 : ¬ cI C 145 66 = 0 := by rw [hF.2.2.2.1]; exact e
      unfold lp_220_13
      rw [if_pos k_145]
      by_cases c1 : cI C 145 80 ≤ nI j
      · rw [if_pos c1]; exact post
      · rw [if_neg c1, if_pos e66]; exact post
  | cons q l ih =>
    intro j n C r hn hK hF hS hX hok hjl
    obtain ⟨n, rfl⟩ : ∃ m, n = m + 1 := ⟨n - 1, by omega⟩
    simp only [List.length_cons] at hn hjl
    have hK0 := hK
    obtain ⟨⟨hP, hh2, hSc, hO⟩, k2, k3, k4, k5⟩ := hK
    by_cases e : rE r = 0
    · have e66 : cI C 145 66 = 0 := by rw [hF.2.2.2.1]; exact e
      obtain ⟨e1, e2, hSp⟩ := hS e
      obtain ⟨h9, h40, hI⟩ := id hSp
      simp only [List.length_cons] at h9 h40
      have q0 := hI 0 (by simp)
      simp only [Nat.add_zero, List.getElem_cons_zero] at q0
      obtain ⟨q4, q5, q6⟩ := q0
      obtain ⟨hV, hq⟩ := hok q List.mem_cons_self
      have hokl : ∀ q ∈ l, ItV S t q ∧ (nKp t q = true → ItOK S t stage q) := fun q' z => hok q' (List.mem_cons_of_mem _ z)
      have c1 : ¬ j + (l.length + 1) ≤ j := by omega
      have j320 : j < 320 := by omega
      have cl : Int32.toNatClampNeg (nI j) = j := x_cl (by omega)
      have f67 : cI C 145 67 = -1 := by rw [hF.2.2.2.2.1]; exact e1
      have f68 : cI C 145 68 = -1 := by rw [hF.2.2.2.2.2.1]; exact e2
      -- the spec's step, kept or not
      have fs : ((q :: l).filter (nKp t)).foldl (sItem S t stage) r = (l.filter (nKp t)).foldl (sItem S t stage) (if isKpt t q.1 = true then r else sItem S t stage r q) := by
        rcases bcs (isKpt t q.1) with b | b
        · have : nKp t q = true := by simp [nKp, b]
          rw [List.filter_cons_of_pos this, List.foldl_cons, b]
          rfl
        · have : ¬ nKp t q = true := by simp [nKp, b]
          rw [List.filter_cons_of_neg this, b]
          rfl
      rw [fs]
      have okX : RSok S (if isKpt t q.1 = true then r else sItem S t stage r q) := by
        rcases bcs (isKpt t q.1) with b | b
        · rw [b]; exact sItem_ok hX (hq (by simp [nKp, b]))
        · rw [b]; exact hX
      have cont : ∀ C1, FrM 65 C C1 → MrF C1 S t (if isKpt t q.1 = true then r else sItem S t stage r q) → (rE (if isKpt t q.1 = true then r else sItem S t stage r q) = 0 → r1 (if isKpt t q.1 = true then r else sItem S t stage r q) = -1 ∧ r2 (if isKpt t q.1 = true then r else sItem S t stage r q) = -1) → cI C1 145 80 = cI C 145 80 → (∀ b, 188 ≤ b → b ≤ 190 → cI C1 b = cI C b) → Rt (lp_220_13 n 145 (nI stage) (if tKd t = 3 then 1 else 0) (nI j + 1) C1) (fun _ C' => MrF C' S t ((l.filter (nKp t)).foldl (sItem S t stage) (if isKpt t q.1 = true then r else sItem S t stage r q)) ∧ FrM 65 C C') := fun C1 F1 M1 R1 e80 eb => by
        rw [x_a1]
        exact rt_mono (ih (j + 1) n C1 _ (by omega) (hK0.fr F1 (by decide)) M1 (fun z => ⟨(R1 z).1, (R1 z).2, hSp.tl e80 eb⟩) okX hokl (by omega)) (fun _ C2 H => ⟨H.1, F1.trans H.2⟩)
      have skip : isKpt t q.1 = true ∨ sItem S t stage r q = r → Rt (lp_220_13 n 145 (nI stage) (if tKd t = 3 then 1 else 0) (nI j + 1) C) (fun _ C' => MrF C' S t ((l.filter (nKp t)).foldl (sItem S t stage) (if isKpt t q.1 = true then r else sItem S t stage r q)) ∧ FrM 65 C C') := fun z => by
        have er : (if isKpt t q.1 = true then r else sItem S t stage r q) = r := by
          rcases z with z | z
          · rw [z]; rfl
          · rw [z]; split <;> rfl
        refine cont C (FrM.refl _ _) (by rw [er]; exact hF) (fun _ => by rw [er]; exact ⟨e1, e2⟩) rfl (fun _ _ _ => rfl)
      have hp : ∀ p, q.1 = some p → p < 30 := hV.1
      have hnew : isNewS t q.1 = true → ∀ c, c < sCols S → (tNew t c).isSome = true := fun z => by
        rcases bcs (isKpt t q.1) with b | b
        · exact (hq (by simp [nKp, b])).2.2.1 z
        · exfalso
          unfold isKpt at b
          unfold isNewS at z
          simp only [Bool.and_eq_true, decide_eq_true_eq] at b
          cases h9 : q.1 with
          | none => rw [h9] at b; cases b.2
          | some p =>
            rw [h9] at z
            simp only [Option.isNone_some, Bool.or_false, decide_eq_true_eq] at z
            have := b.1
            unfold tCh at this
            simp [z] at this
      -- writing what was made in C1
      have wr : ∀ C1 mk, FrK C C1 → cI C1 145 66 = 0 → cI C1 145 67 = -1 → cI C1 145 68 = -1 → (isKpt t q.1 = false → MdM C1 S t q.1 mk) → (∀ p, q.1 = some p → (rT r).1 p = true) → (isKpt t q.1 = false → sItem S t stage r q = sWrite t q.1 mk r) → Rt ((f_218 n 145 (oI q.1) C1).bind (fun z => match z with
          | (_, C25) => lp_220_13 n 145 (nI stage) (if tKd t = 3 then 1 else 0) (nI j + 1) C25)) (fun _ C' => MrF C' S t ((l.filter (nKp t)).foldl (sItem S t stage) (if isKpt t q.1 = true then r else sItem S t stage r q)) ∧ FrM 65 C C') := by
        intro C1 mk F1 z6 z7 z8 hM hh es
        have K1 := hK0.fr F1.frM (by decide)
        have M1 : MrF C1 S t r := by
          have := hF.K F1 z6 z7 z8
          rw [rEnd_self e e1 e2] at this
          exact this
        refine rt_bind (rt_mono (m218 (n := n) (mk := mk) K1 M1 e e1 e2 hX.2 hp hV.2.1 (fun p z _ => hh p z) hM hnew (by omega)) (fun _ C2 G => ?_))
        obtain ⟨G1, G2, G3, G4, G5⟩ := G
        have er : (if isKpt t q.1 = true then r else sWrite t q.1 mk r) = (if isKpt t q.1 = true then r else sItem S t stage r q) := by
          rcases bcs (isKpt t q.1) with b | b
          · rw [b]; simp only [↓reduceIte, Bool.false_eq_true, if_false]; exact (es b).symm
          · rw [b]; rfl
        rw [er] at G1
        refine cont C2 (F1.frM.trans G2) G1 (fun _ => ?_) (by rw [G4, F1.2.2.2 80 (by decide) (by decide) (by decide) (by decide)]) (fun b y1 y2 => by rw [G5 b (by omega), F1.2.2.1 b (by omega) (by omega)])
        rw [← er]
        rcases bcs (isKpt t q.1) with b | b
        · rw [b]; exact sWrite_12 e1 e2
        · rw [b]; exact ⟨e1, e2⟩
      have o' : ∃ o', cI C 189 j = o' ∧ (tKd t = 3 → ∃ z, q.2.1 = some z ∧ z < (sOth S).length ∧ o' = nI z) := ⟨_, rfl, fun z => by
        obtain ⟨y, y1, y2⟩ := q5 z
        obtain ⟨y', y3, y4⟩ := hV.2.2 z
        rw [y1] at y3
        cases y3
        exact ⟨y, y1, y4, y2⟩⟩
      obtain ⟨o', eo, ho'⟩ := o'
      have mkw : ¬ stage = 3 → (∀ p, q.1 = some p → (rT r).1 p = true) → (isKpt t q.1 = false → sItem S t stage r q = sMkW S t q.1 q.2.1 r) → Rt ((f_217 n 145 (oI q.1) o' C).bind (fun z => match z with
          | (_, C22) => (f_218 n 145 (oI q.1) C22).bind (fun z => match z with
            | (_, C25) => lp_220_13 n 145 (nI stage) (if tKd t = 3 then 1 else 0) (nI j + 1) C25))) (fun _ C' => MrF C' S t ((l.filter (nKp t)).foldl (sItem S t stage) (if isKpt t q.1 = true then r else sItem S t stage r q)) ∧ FrM 65 C C') := by
        intro s3 hh es
        have hw : WhoOK S (rT r) t q.1 q.2.1 o' := ⟨fun p z => ⟨hp p z, hh p z⟩, hV.2.1, ho'⟩
        refine rt_bind (rt_mono (m217 (n := n) hw hK0 hF.1 e66 (by omega)) (fun _ C1 H => ?_))
        obtain ⟨H1, H2, H3⟩ := H
        dsimp only
        rcases bcs (isKpt t q.1) with b | b
        · obtain ⟨Md, Ov⟩ := H3 b
          cases hov : sOver S (rT r) t q.1 q.2.1 with
          | none =>
            rw [hov] at Ov
            obtain ⟨y1, y2, y3⟩ := Ov
            exact wr C1 (mkS S (rT r) t q.1 q.2.1) H1 y1 (y2.trans f67) (y3.trans f68) (fun _ => Md) hh (fun _ => by rw [es b, sMkW, hov])
          | some d =>
            rw [hov] at Ov
            obtain ⟨y1, y2, y3⟩ := Ov
            have ne2 : ¬ cI C1 145 66 = 0 := by rw [y1]; decide
            rw [f218_ne ne2]
            simp only [Option.bind_some]
            have e9 : sItem S t stage r q = rEnd r 2 (oI q.1) (nI d) := by rw [es b, sMkW, hov]
            have er : (if isKpt t q.1 = true then r else sItem S t stage r q) = rEnd r 2 (oI q.1) (nI d) := by rw [b, e9]; rfl
            refine cont C1 H1.frM (by rw [er]; exact hF.K H1 y1 y2 y3) (fun z => ?_) (H1.2.2.2 80 (by decide) (by decide) (by decide) (by decide)) (fun b y1 y2 => H1.2.2.1 b (by omega) (by omega))
            rw [er] at z
            exact absurd z (by show ¬ (2 : Int32) = 0; decide)
        · obtain ⟨y1, y2, y3⟩ := H2 b
          exact wr C1 (fun _ => 0) H1 y1 (y2.trans f67) (y3.trans f68) (fun z => by rw [b] at z; cases z) hh (fun z => by rw [b] at z; cases z)
      have lay : stage = 3 → (∀ p, q.1 = some p → (rT r).1 p = true) → (isKpt t q.1 = false → sItem S t stage r q = sWrite t q.1 q.2.2 r) → Rt ((f_221 n 145 (nI j) (oI q.1) C).bind (fun z => match z with
          | (_, C22) => (f_218 n 145 (oI q.1) C22).bind (fun z => match z with
            | (_, C25) => lp_220_13 n 145 (nI stage) (if tKd t = 3 then 1 else 0) (nI j + 1) C25))) (fun _ C' => MrF C' S t ((l.filter (nKp t)).foldl (sItem S t stage) (if isKpt t q.1 = true then r else sItem S t stage r q)) ∧ FrM 65 C C') := by
        intro s3 hh es
        refine rt_bind (rt_mono (m221 (n := n) (mk := q.2.2) j320 hp hnew hK0 (fun z => q6 s3 z) (by omega)) (fun _ C1 H => ?_))
        obtain ⟨H1, H2, H3, H4, H5⟩ := H
        exact wr C1 q.2.2 H1 (H2.trans e66) (H3.trans f67) (H4.trans f68) H5 hh es
      -- the row is there (or none is asked)
      have go : (∀ p, q.1 = some p → (rT r).1 p = true) → plHas (rT r) q.1 = true → Rt (if stage = 1 ∧ ¬ tKd t = 3 ∧ sHolds S (rT r) q.1 t = false then lp_220_13 n 145 (nI stage) (if tKd t = 3 then 1 else 0) (nI j + 1) C else if stage = 3 then (f_221 n 145 (nI j) (oI q.1) C).bind (fun z => match z with
          | (_, C22) => (f_218 n 145 (oI q.1) C22).bind (fun z => match z with
            | (_, C25) => lp_220_13 n 145 (nI stage) (if tKd t = 3 then 1 else 0) (nI j + 1) C25)) else (f_217 n 145 (oI q.1) o' C).bind (fun z => match z with
          | (_, C22) => (f_218 n 145 (oI q.1) C22).bind (fun z => match z with
            | (_, C25) => lp_220_13 n 145 (nI stage) (if tKd t = 3 then 1 else 0) (nI j + 1) C25))) (fun _ C' => MrF C' S t ((l.filter (nKp t)).foldl (sItem S t stage) (if isKpt t q.1 = true then r else sItem S t stage r q)) ∧ FrM 65 C C') := by
        intro hh cond
        have m3 : tKd t = 3 → sHolds S (rT r) q.1 t = true := fun z => by
          unfold sHolds
          rw [k5.2.2.2.2.2.2.2.2.2.2.2.2.1 z]
          rfl
        by_cases c0 : stage = 1 ∧ ¬ tKd t = 3 ∧ sHolds S (rT r) q.1 t = false
        · rw [if_pos c0]
          refine skip (Or.inr ?_)
          unfold sItem
          rw [if_pos e, if_pos cond, if_pos (by simp [c0.1, c0.2.2])]
        · rw [if_neg c0]
          have nh : ¬ (decide (stage = 1) && !sHolds S (rT r) q.1 t) = true := by
            intro z
            simp only [Bool.and_eq_true, decide_eq_true_eq, Bool.not_eq_true'] at z
            refine c0 ⟨z.1, fun y => ?_, z.2⟩
            rw [m3 y] at z
            cases z.2
          by_cases s3 : stage = 3
          · rw [if_pos s3]
            refine lay s3 hh (fun _ => ?_)
            unfold sItem
            rw [if_pos e, if_pos cond, if_neg nh, if_pos s3]
          · rw [if_neg s3]
            refine mkw s3 hh (fun _ => ?_)
            unfold sItem
            rw [if_pos e, if_pos cond, if_neg nh, if_neg s3]
      have ne1 : ¬ (1 : Int32) = 0 := by decide
      cases hpl : q.1 with
      | none =>
        have h3 : tKd t = 3 := by
          apply Classical.byContradiction
          intro z
          have := hV.2.1 z
          rw [hpl] at this
          cases this
        have G := go (fun p z => by rw [hpl] at z; cases z) (by rw [hpl]; rfl)
        rw [hpl] at G q4
        rw [x_a1] at G
        rcases hst4 with rfl | rfl | rfl
        · have t1 : (nI 1 = (1 : Int32)) = True := by decide
          have t3 : (nI 1 = (3 : Int32)) = False := by decide
          simp only [↓reduceIte, h3, not_true, false_and, and_false, if_false, if_true, show (1 : Nat) = 1 ↔ True from by decide, show (1 : Nat) = 3 ↔ False from by decide] at G
          simp (disch := omega) only [↓reduceIte, lp_220_13, if_true, if_false, Option.bind_some, k_145, h9, x_le, c1, e66, not_true, not_false_iff, ↓bd1 (w_145_77 hP), k_188, l_188, ↓bd1 (w_145_78 hP), k_189, l_189, x_in, x_cl, j320, q4, eo, t1, t3, x_a1, show (oI none = (-1 : Int32)) ↔ True from by decide, h3, ne1]
          exact G
        · have t1 : (nI 2 = (1 : Int32)) = False := by decide
          have t3 : (nI 2 = (3 : Int32)) = False := by decide
          simp only [↓reduceIte, h3, not_true, false_and, and_false, if_false, if_true, show (2 : Nat) = 1 ↔ False from by decide, show (2 : Nat) = 3 ↔ False from by decide] at G
          simp (disch := omega) only [↓reduceIte, lp_220_13, if_true, if_false, Option.bind_some, k_145, h9, x_le, c1, e66, not_true, not_false_iff, ↓bd1 (w_145_77 hP), k_188, l_188, ↓bd1 (w_145_78 hP), k_189, l_189, x_in, x_cl, j320, q4, eo, t1, t3, x_a1, show (oI none = (-1 : Int32)) ↔ True from by decide, h3, ne1]
          exact G
        · have t1 : (nI 3 = (1 : Int32)) = False := by decide
          have t3 : (nI 3 = (3 : Int32)) = True := by decide
          simp only [↓reduceIte, h3, not_true, false_and, and_false, if_false, if_true, show (3 : Nat) = 1 ↔ False from by decide, show (3 : Nat) = 3 ↔ True from by decide] at G
          simp (disch := omega) only [↓reduceIte, lp_220_13, if_true, if_false, Option.bind_some, k_145, h9, x_le, c1, e66, not_true, not_false_iff, ↓bd1 (w_145_77 hP), k_188, l_188, ↓bd1 (w_145_78 hP), k_189, l_189, x_in, x_cl, j320, q4, eo, t1, t3, x_a1, show (oI none = (-1 : Int32)) ↔ True from by decide, h3, ne1]
          exact G
      | some p =>
        have hp30 := hp p hpl
        have p150 : p < 150 := by omega
        rw [← hpl]
        have q4' : cI C 188 j = nI p := by rw [q4, hpl]; rfl
        clear q4
        have q4 := q4'
        have em : ¬ nI p = (-1 : Int32) := by rw [x_eqm (by omega)]; exact id
        have w180 := hF.1.1 p hp30
        rw [Nat.zero_add] at w180
        have eop : oI q.1 = nI p := by rw [hpl]; rfl
        rcases bcs ((rT r).1 p) with tp | tp
        · have es : sItem S t stage r q = r := by
            unfold sItem
            rw [if_pos e, if_neg (by rw [hpl]; simp [plHas, tp])]
          have G := skip (Or.inr es)
          rw [x_a1] at G
          simp (disch := omega) only [↓reduceIte, lp_220_13, if_true, if_false, Option.bind_some, k_145, h9, x_le, c1, e66, not_true, not_false_iff, ↓bd1 (w_145_77 hP), k_188, l_188, ↓bd1 (w_145_78 hP), k_189, l_189, x_in, x_cl, j320, q4, em, ↓bd1 (w_145_57 hP), k_180, l_180, p150, w180, tp, Bool.false_eq_true, x_a1]
          exact G
        · have G := go (fun p' z => by rw [hpl] at z; cases z; exact tp) (by rw [hpl]; exact tp)
          rw [eop, x_a1] at G
          by_cases h3 : tKd t = 3
          · rcases hst4 with rfl | rfl | rfl
            · have t1 : (nI 1 = (1 : Int32)) = True := by decide
              have t3 : (nI 1 = (3 : Int32)) = False := by decide
              simp only [↓reduceIte, h3, not_true, false_and, and_false, if_false, if_true, show (1 : Nat) = 1 ↔ True from by decide, show (1 : Nat) = 3 ↔ False from by decide] at G
              simp (disch := omega) only [↓reduceIte, lp_220_13, if_true, if_false, Option.bind_some, k_145, h9, x_le, c1, e66, not_true, not_false_iff, ↓bd1 (w_145_77 hP), k_188, l_188, ↓bd1 (w_145_78 hP), k_189, l_189, x_in, x_cl, j320, q4, eo, t1, t3, x_a1, em, w180, ↓bd1 (w_145_57 hP), k_180, l_180, p150, tp, h3, ne1]
              exact G
            · have t1 : (nI 2 = (1 : Int32)) = False := by decide
              have t3 : (nI 2 = (3 : Int32)) = False := by decide
              simp only [↓reduceIte, h3, not_true, false_and, and_false, if_false, if_true, show (2 : Nat) = 1 ↔ False from by decide, show (2 : Nat) = 3 ↔ False from by decide] at G
              simp (disch := omega) only [↓reduceIte, lp_220_13, if_true, if_false, Option.bind_some, k_145, h9, x_le, c1, e66, not_true, not_false_iff, ↓bd1 (w_145_77 hP), k_188, l_188, ↓bd1 (w_145_78 hP), k_189, l_189, x_in, x_cl, j320, q4, eo, t1, t3, x_a1, em, w180, ↓bd1 (w_145_57 hP), k_180, l_180, p150, tp, h3, ne1]
              exact G
            · have t1 : (nI 3 = (1 : Int32)) = False := by decide
              have t3 : (nI 3 = (3 : Int32)) = True := by decide
              simp only [↓reduceIte, h3, not_true, false_and, and_false, if_false, if_true, show (3 : Nat) = 1 ↔ False from by decide, show (3 : Nat) = 3 ↔ True from by decide] at G
              simp (disch := omega) only [↓reduceIte, lp_220_13, if_true, if_false, Option.bind_some, k_145, h9, x_le, c1, e66, not_true, not_false_iff, ↓bd1 (w_145_77 hP), k_188, l_188, ↓bd1 (w_145_78 hP), k_189, l_189, x_in, x_cl, j320, q4, eo, t1, t3, x_a1, em, w180, ↓bd1 (w_145_57 hP), k_180, l_180, p150, tp, h3, ne1]
              exact G
          · have w210 : f_210 n 145 (nI p) C = some (if sHolds S (rT r) q.1 t = true then 1 else 0, C) := by
              rw [hpl]
              exact m210 hK0.1 hF.1 hp30 tp k2 k3 k4 k5 (by omega)
            rcases hst4 with rfl | rfl | rfl
            · have t1 : (nI 1 = (1 : Int32)) = True := by decide
              have t3 : (nI 1 = (3 : Int32)) = False := by decide
              rcases bcs (sHolds S (rT r) q.1 t) with b | b
              · have w : f_210 n 145 (nI p) C = some (0, C) := by rw [w210, b]; rfl
                rw [if_pos (show (1 = 1 ∧ ¬ tKd t = 3 ∧ sHolds S (rT r) q.1 t = false) by simp [h3, b])] at G
                simp only [↓reduceIte, h3, if_false, show (1 : Nat) = 3 ↔ False from by decide] at G
                simp (disch := omega) only [↓reduceIte, lp_220_13, if_true, if_false, Option.bind_some, k_145, h9, x_le, c1, e66, not_true, not_false_iff, ↓bd1 (w_145_77 hP), k_188, l_188, ↓bd1 (w_145_78 hP), k_189, l_189, x_in, x_cl, j320, q4, eo, t1, t3, x_a1, em, w180, ↓bd1 (w_145_57 hP), k_180, l_180, p150, tp, h3, ne1, w]
                exact G
              · have w : f_210 n 145 (nI p) C = some (1, C) := by rw [w210, b]; rfl
                rw [if_neg (show ¬ (1 = 1 ∧ ¬ tKd t = 3 ∧ sHolds S (rT r) q.1 t = false) by simp [h3, b])] at G
                simp only [↓reduceIte, h3, if_false, show (1 : Nat) = 3 ↔ False from by decide] at G
                simp (disch := omega) only [↓reduceIte, lp_220_13, if_true, if_false, Option.bind_some, k_145, h9, x_le, c1, e66, not_true, not_false_iff, ↓bd1 (w_145_77 hP), k_188, l_188, ↓bd1 (w_145_78 hP), k_189, l_189, x_in, x_cl, j320, q4, eo, t1, t3, x_a1, em, w180, ↓bd1 (w_145_57 hP), k_180, l_180, p150, tp, h3, ne1, w]
                exact G
            · have t1 : (nI 2 = (1 : Int32)) = False := by decide
              have t3 : (nI 2 = (3 : Int32)) = False := by decide
              simp only [↓reduceIte, h3, false_and, if_false, if_true, show (2 : Nat) = 1 ↔ False from by decide, show (2 : Nat) = 3 ↔ False from by decide] at G
              simp (disch := omega) only [↓reduceIte, lp_220_13, if_true, if_false, Option.bind_some, k_145, h9, x_le, c1, e66, not_true, not_false_iff, ↓bd1 (w_145_77 hP), k_188, l_188, ↓bd1 (w_145_78 hP), k_189, l_189, x_in, x_cl, j320, q4, eo, t1, t3, x_a1, em, w180, ↓bd1 (w_145_57 hP), k_180, l_180, p150, tp, h3, ne1]
              exact G
            · have t1 : (nI 3 = (1 : Int32)) = False := by decide
              have t3 : (nI 3 = (3 : Int32)) = True := by decide
              simp only [↓reduceIte, h3, false_and, if_false, if_true, show (3 : Nat) = 1 ↔ False from by decide, show (3 : Nat) = 3 ↔ True from by decide] at G
              simp (disch := omega) only [↓reduceIte, lp_220_13, if_true, if_false, Option.bind_some, k_145, h9, x_le, c1, e66, not_true, not_false_iff, ↓bd1 (w_145_77 hP), k_188, l_188, ↓bd1 (w_145_78 hP), k_189, l_189, x_in, x_cl, j320, q4, eo, t1, t3, x_a1, em, w180, ↓bd1 (w_145_57 hP), k_180, l_180, p150, tp, h3, ne1]
              exact G
    · have e66 : ¬ cI C 145 66 = 0 := by rw [hF.2.2.2.1]; exact e
      have post : Rt (some ((), C)) (fun _ C' => MrF C' S t (((q :: l).filter (nKp t)).foldl (sItem S t stage) r) ∧ FrM 65 C C') := rt_ret ⟨by rw [fold_ne e]; exact hF, FrM.refl _ _⟩
      unfold lp_220_13
      rw [if_pos k_145]
      by_cases c1 : cI C 145 80 ≤ nI j
      · rw [if_pos c1]; exact post
      · rw [if_neg c1, if_pos e66]; exact post
