/-! The reference's run, whole; keys by the reference. -/
theorem MC.fr {lo : Nat} {C C1 : AmC} {h : Nat} {S : Scr} (k : MC C h S) (F : FrM lo C C1) (hl : 41 ≤ lo) : MC C1 h S := k.of F.1 (F.2.2.2 40 (by omega)) (fun a h1 h2 => F.2.2.1 a (by unfold MX; omega))
def ruH (C : AmC) (i : Nat) : AmC := uI (uI (uI (uI (uI (uI (uI C 145 59 (nI i)) 145 80 0) 145 69 0) 145 66 0) 145 65 0) 145 68 (-1)) 145 67 (-1)
theorem m224 {n : Nat} {C : AmC} {h i path stage : Nat} {S : Scr} {T : Tab} {t : Stm} (hM : MC C h S) (hi : i < 16) (ht : StmM C i t) (hto : StmOK (sCols S) t) (hT : TabM 30 (sCols S) C 180 0 T) (hZ : TabZ 30 (sCols S) C 180 0 T) (hN : TabN (sCols S) T) (hpa : PathOK S path) (hst : stage ≤ 3) (hn : 9500 ≤ n) : Rt (f_224 n 145 (nI i) (nI path) (nI stage) C) (fun _ C' => MrF C' S t (sRun S t stage path T) ∧ FrM 59 C C' ∧ MK C' h S i t ∧ XOK S t stage (sReads S t stage path T)) := by
  have a145 : ∀ f, ¬ f = 59 → ¬ f = 80 → ¬ f = 69 → ¬ f = 66 → ¬ f = 65 → ¬ f = 68 → ¬ f = 67 → cI (ruH C i) 145 f = cI C 145 f := fun f z1 z2 z3 z4 z5 z6 z7 => by
    unfold ruH
    rw [r_I, if_neg (by omega), r_I, if_neg (by omega), r_I, if_neg (by omega), r_I, if_neg (by omega), r_I, if_neg (by omega), r_I, if_neg (by omega), r_I, if_neg (by omega)]
  have v59 : cI (ruH C i) 145 59 = nI i := by unfold ruH; simp [r_I]
  have v80 : cI (ruH C i) 145 80 = 0 := by unfold ruH; simp [r_I]
  have v66 : cI (ruH C i) 145 66 = 0 := by unfold ruH; simp [r_I]
  have v65 : cI (ruH C i) 145 65 = 0 := by unfold ruH; simp [r_I]
  have v68 : cI (ruH C i) 145 68 = -1 := by unfold ruH; simp [r_I]
  have v67 : cI (ruH C i) 145 67 = -1 := by unfold ruH; simp [r_I]
  have ao : ∀ b, ¬ b = 145 → cI (ruH C i) b = cI C b := fun b hb => by
    unfold ruH
    rw [r_In hb, r_In hb, r_In hb, r_In hb, r_In hb, r_In hb, r_In hb]
  have F0 : FrM 59 C (ruH C i) := ⟨rfl, rfl, fun b hb => ao b (by unfold MX at hb; omega), fun f hf => a145 f (by omega) (by omega) (by omega) (by omega) (by omega) (by omega) (by omega)⟩
  have Z := m224_z (i := nI i) (path := nI path) (stage := nI stage) 30 0 n (ruH C i) rfl (by omega) (hM.1.of rfl)
  rw [x_0] at Z
  unfold f_224
  rw [if_pos k_145]
  refine rt_bind (rt_mono Z (fun z E H => ?_))
  obtain ⟨ez, G1, G2, G3, _, G5⟩ := H
  subst ez
  dsimp only
  rw [if_pos k_145]
  have FE : FrM 59 C E := F0.trans ⟨G1, G2, fun b hb => G3 b (by unfold MX at hb; omega), fun f _ => by rw [G3 145 (by decide)]⟩
  have E145 : cI E 145 = cI (ruH C i) 145 := G3 145 (by decide)
  have eS : ∀ a, 151 ≤ a → a < 178 → cI E a = cI C a := fun a h1 h2 => FE.2.2.1 a (by unfold MX; omega)
  have KE : MK E h S i t := ⟨hM.fr FE (by decide), by rw [E145]; exact v59, hi, ht.of eS, hto⟩
  have TE : TabM 30 (sCols S) E 180 0 T := hT.of (by rw [G3 180 (by decide), ao 180 (by decide)])
  have M0 : MrF E S t (sRun0 T) := by
    refine ⟨TE, ?_, by rw [E145, v65]; rfl, by rw [E145, v66]; rfl, by rw [E145, v67]; rfl, by rw [E145, v68]; rfl, fun p hp => by rw [G5 p (by omega) hp]; rfl, fun j hj => by cases hj⟩
    unfold TabZ
    rw [G3 180 (by decide), ao 180 (by decide)]
    exact hZ
  have A0 : MasC E S t stage 0 (sRun0 T, []) := ⟨M0, fun _ => ⟨rfl, rfl, [], ⟨by rw [E145, v80]; rfl, by simp, fun j hj => by cases hj⟩, rfl, by simp, fun q hq => by cases hq⟩⟩
  have X0 : XOK S t stage (sRun0 T, []) := ⟨⟨hN, by show ([] : List (Option Nat × Nat × (Nat → Int32))).length ≤ 200; simp⟩, fun _ => rfl, fun q hq => by cases hq⟩
  have w223 := m223 (n := n) KE TE (by omega)
  rw [bd1 w223]
  dsimp only
  have ne1 : ¬ (1 : Int32) = 0 := by decide
  have hkd := hto.1
  -- behind the reading
  have finish : ∀ C1, FrM 59 C C1 → MK C1 h S i t → MasC C1 S t stage (310 * min stage 1) (sReads S t stage path T) → XOK S t stage (sReads S t stage path T) → Rt ((f_220 n 145 (nI stage) C1).bind (fun z => match z with
      | (_, C47) => some ((), C47))) (fun _ C' => MrF C' S t (sRun S t stage path T) ∧ FrM 59 C C' ∧ MK C' h S i t ∧ XOK S t stage (sReads S t stage path T)) := by
    intro C1 F1 K1 A1 X1
    refine rt_bind (rt_mono (m220 (n := n) hst K1 A1 (Nat.mul_le_mul_right _ (by omega)) X1 (by omega)) (fun _ C2 H => ?_))
    exact rt_ret ⟨H.1, F1.trans (H.2.mono (by decide)), K1.fr H.2 (by decide), X1⟩
  cases hd : sDblP S t T with
  | some p =>
    have er : sReads S t stage path T = (rEnd (sRun0 T) 1 (nI p) (dblI (sDbl S t T p)), []) := by unfold sReads; rw [hd]
    simp only [↓reduceIte, Option.isSome_some, if_true, ne1, if_false]
    have eD : dbM E S t T = uI (uI (uI E 145 66 1) 145 67 (nI p)) 145 68 (dblI (sDbl S t T p)) := by unfold dbM; rw [hd]
    rw [eD]
    have FK : FrK E (uI (uI (uI E 145 66 1) 145 67 (nI p)) 145 68 (dblI (sDbl S t T p))) := (((FrK.refl E).u145 _ (by omega)).u145 _ (by omega)).u145 _ (by omega)
    have MD := M0.K (e := 1) (x := nI p) (y := dblI (sDbl S t T p)) FK (by rw [r_I, if_neg (by decide), r_I, if_neg (by decide), r_I, if_pos ⟨rfl, rfl⟩]) (by rw [r_I, if_neg (by decide), r_I, if_pos ⟨rfl, rfl⟩]) (by rw [r_I, if_pos ⟨rfl, rfl⟩])
    refine rt_ret ⟨?_, FE.trans (FK.frM.mono (by decide)), KE.fr FK.frM (by decide), ?_⟩
    · unfold sRun
      rw [er]
      exact MD
    · rw [er]
      exact ⟨X0.1, fun _ => rfl, fun q hq => by cases hq⟩
  | none =>
    have eD : dbM E S t T = E := by unfold dbM; rw [hd]
    rw [eD]
    simp only [↓reduceIte, Option.isSome_none, Bool.false_eq_true, if_false, if_true]
    rw [bd1 (w_145_32 KE.1.1), if_pos k_170, l_170, if_pos ((x_in (by omega)).mpr hi), x_cl (by omega), KE.2.2.2.1.1]
    by_cases h3 : tKd t = 3
    · have er : sReads S t stage path T = sFors S t stage path (sOth S).length 0 (sRun0 T, []) := by unfold sReads; rw [hd]; dsimp only; rw [if_pos h3]
      have n3 : ¬ ¬ nI (tKd t) = (3 : Int32) := by rw [h3]; decide
      rw [if_neg n3]
      have hl := hM.2.2.2.2.2.2.2.2.1
      have L := m224_ot (h := h) (i := i) hst hpa h3 (sOth S).length 0 n E (sRun0 T, []) (by omega) (by omega) KE (by simpa using A0) X0
      rw [x_0] at L
      refine rt_bind (rt_mono L (fun z C1 H1 => ?_))
      obtain ⟨ez, H2, H3, H4⟩ := H1
      subst ez
      dsimp only
      rw [if_pos k_145]
      exact finish C1 (FE.trans (H3.mono (by decide))) (KE.fr H3 (by decide)) (by rw [er]; exact H2) (by rw [er]; exact H4)
    · have er : sReads S t stage path T = sRead S t stage path 7000 none (sRun0 T, []) := by unfold sReads; rw [hd]; dsimp only; rw [if_neg h3]
      have n3 : ¬ nI (tKd t) = (3 : Int32) := by rw [n_3, x_eq (by omega) (by omega)]; exact h3
      rw [if_pos n3]
      have FB := beg_fr E path
      have w204 : f_204 n 145 (nI path) E = some ((), uI (uI E 145 61 0) 145 60 (nI path)) := by
        unfold f_204
        simp only [↓reduceIte, k_145, if_true]
      have d : ∀ f, ¬ f = 60 → ¬ f = 61 → cI (uI (uI E 145 61 0) 145 60 (nI path)) 145 f = cI E 145 f := fun f z1 z2 => by rw [r_I, if_neg (by omega), r_I, if_neg (by omega)]
      have KB := KE.fr FB (by decide)
      have AB : MasC (uI (uI E 145 61 0) 145 60 (nI path)) S t stage 0 (sRun0 T, []) := A0.of (fun f z _ => d f (by omega) (by omega)) (fun b hb => by rw [r_In hb, r_In hb])
      have LB : LastM (uI (uI E 145 61 0) 145 60 (nI path)) S path none := by
        show cI _ 145 61 = 0
        rw [r_I, if_neg (by decide), r_I, if_pos ⟨rfl, rfl⟩]
      have onB : cI (uI (uI E 145 61 0) 145 60 (nI path)) 145 60 = nI path := by rw [r_I, if_pos ⟨rfl, rfl⟩]
      obtain ⟨C3, w5, Q1, Q2, Q3, Q4, Q5⟩ := m205_go (n := n) (o := 0) KB AB X0 hpa (fun z => absurd z h3) LB onB (by omega)
      rw [x_0] at w5
      rw [bd1 w204]
      dsimp only
      rw [bd1 w5]
      dsimp only
      have L := m224_rd (h := h) (i := i) hst hpa h3 6999 n C3 none (sRun0 T, []) 0 (by have := mu_le S t stage path (some 0) none (sRun0 T); exact Nat.le_trans this (by decide)) (fun _ => rfl) (fun _ => by unfold ahead; rw [Nat.zero_add]; exact Nat.le_trans (cnt_le 30 _) (by decide)) (by omega) Q2 Q3 X0 Q4 Q5
      refine rt_bind (rt_mono L (fun z C1 H1 => ?_))
      obtain ⟨ez, H2, H3, H4⟩ := H1
      subst ez
      dsimp only
      rw [if_pos k_145]
      have FF : FrM 60 E C1 := FB.trans ((Q1.mono (by decide)).trans (H3.mono (by decide)))
      exact finish C1 (FE.trans (FF.mono (by decide))) (KE.fr FF (by decide)) (by rw [er]; exact H2) (by rw [er]; exact H4)
/-! keys -/
theorem m191 {n : Nat} {C : AmC} {h a f N p q i : Nat} {S : Scr} {T : Tab} (hP : PInv C) (hS : ScrM C h S) (hO : ScrOK S) (ha : isK a 12 = true) (hl : f + 5 * N ≤ aLen a) (hN : N < 1000) (hf : f < 100000) (hT : TabM N (sCols S) C a f T) (hp : p < N) (hq : q < N) (tp : T.1 p = true) (tq : T.1 q = true) (hi : i < (sIdx S).length) : f_191 n 145 a (nI f) (nI N) (nI (3 * h + i)) (nI p) (nI q) C = some (if kEq S T i p q = true then 1 else 0, C) := by
  have hb := hS.1
  have hl3 := hO.2.2.1
  have h4 := hO.2.1
  obtain ⟨g1, g2⟩ := ix_lt hO hi
  have i6 : 3 * h + i < 6 := by omega
  obtain ⟨x1, x2⟩ := hS.2.2.2.1 i hi
  have ap : f + N + 4 * p + ix1 S i < aLen a := by omega
  have aq : f + N + 4 * q + ix1 S i < aLen a := by omega
  have ep := hT.2 p hp tp _ g1
  have eq := hT.2 q hq tq _ g1
  unfold f_191 kEq
  by_cases c : T.2 p (ix1 S i) = T.2 q (ix1 S i)
  · cases hx : ix2 S i with
    | none =>
      rw [hx] at x2
      have x2 : cI C 168 (3 * h + i) = -1 := x2
      simp (disch := omega) only [if_true, if_false, Option.bind_some, k_145, ha, ↓bd1 (w_145_29 hP), k_167, l_167, ↓bd1 (w_145_30 hP), k_168, l_168, ↓reduceIte, n_2, n_3, n_4, n_5, n_6, n_7, n_8, n_10, n_12, n_20, n_30, n_40, n_100, n_120, n_150, n_200, n_230, n_320, n_450, n_900, x_le, x_lt, x_eq, x_lt0, x_le0, x_0le, x_0lt, x_eq0, x_eq1, x_1lt, x_le1, x_lt1, x_1le, x_eqm, x_add, x_a1, x_1a, x_a0, x_0a, x_mul, x_sub, x_s1, x_1s, x_div, x_cl, x_cl0, x_cl1, x_in, x_in0, x_in1, x_ofNat, i6, x1, ap, aq, ep, eq, c, not_true, x2, decide_true, Bool.and_self]
    | some d =>
      rw [hx] at x2
      have x2 : cI C 168 (3 * h + i) = nI d := x2
      have gd := (g2 d hx).1
      have em : ¬ nI d = (-1 : Int32) := by rw [x_eqm (by omega)]; exact id
      have ap2 : f + N + 4 * p + d < aLen a := by omega
      have aq2 : f + N + 4 * q + d < aLen a := by omega
      have ep2 := hT.2 p hp tp _ gd
      have eq2 := hT.2 q hq tq _ gd
      by_cases c2 : T.2 p d = T.2 q d
      · simp (disch := omega) only [if_true, if_false, Option.bind_some, k_145, ha, ↓bd1 (w_145_29 hP), k_167, l_167, ↓bd1 (w_145_30 hP), k_168, l_168, ↓reduceIte, n_2, n_3, n_4, n_5, n_6, n_7, n_8, n_10, n_12, n_20, n_30, n_40, n_100, n_120, n_150, n_200, n_230, n_320, n_450, n_900, x_le, x_lt, x_eq, x_lt0, x_le0, x_0le, x_0lt, x_eq0, x_eq1, x_1lt, x_le1, x_lt1, x_1le, x_eqm, x_add, x_a1, x_1a, x_a0, x_0a, x_mul, x_sub, x_s1, x_1s, x_div, x_cl, x_cl0, x_cl1, x_in, x_in0, x_in1, x_ofNat, i6, x1, ap, aq, ep, eq, c, not_true, x2, em, ap2, aq2, ep2, eq2, c2, decide_true, Bool.and_self]
      · simp (disch := omega) only [if_true, if_false, Option.bind_some, k_145, ha, ↓bd1 (w_145_29 hP), k_167, l_167, ↓bd1 (w_145_30 hP), k_168, l_168, ↓reduceIte, n_2, n_3, n_4, n_5, n_6, n_7, n_8, n_10, n_12, n_20, n_30, n_40, n_100, n_120, n_150, n_200, n_230, n_320, n_450, n_900, x_le, x_lt, x_eq, x_lt0, x_le0, x_0le, x_0lt, x_eq0, x_eq1, x_1lt, x_le1, x_lt1, x_1le, x_eqm, x_add, x_a1, x_1a, x_a0, x_0a, x_mul, x_sub, x_s1, x_1s, x_div, x_cl, x_cl0, x_cl1, x_in, x_in0, x_in1, x_ofNat, i6, x1, ap, aq, ep, eq, c, not_true, not_false_iff, x2, em, ap2, aq2, ep2, eq2, c2, decide_true, decide_false, Bool.and_false, Bool.false_eq_true]
  · simp (disch := omega) only [if_true, if_false, Option.bind_some, k_145, ha, ↓bd1 (w_145_29 hP), k_167, l_167, ↓reduceIte, n_2, n_3, n_4, n_5, n_6, n_7, n_8, n_10, n_12, n_20, n_30, n_40, n_100, n_120, n_150, n_200, n_230, n_320, n_450, n_900, x_le, x_lt, x_eq, x_lt0, x_le0, x_0le, x_0lt, x_eq0, x_eq1, x_1lt, x_le1, x_lt1, x_1le, x_eqm, x_add, x_a1, x_1a, x_a0, x_0a, x_mul, x_sub, x_s1, x_1s, x_div, x_cl, x_cl0, x_cl1, x_in, x_in0, x_in1, x_ofNat, i6, x1, ap, aq, ep, eq, c, not_false_iff, decide_false, Bool.false_and, Bool.false_eq_true]
theorem m192_in {C : AmC} {h a f N p i : Nat} {S : Scr} {T : Tab} (hP : PInv C) (hS : ScrM C h S) (hO : ScrOK S) (ha : isK a 12 = true) (hl : f + 5 * N ≤ aLen a) (hN : N < 1000) (hf : f < 100000) (hT : TabM N (sCols S) C a f T) (hp : p < N) (hi : i < (sIdx S).length) : ∀ k j n, j + k = N → k < n → lp_192_27 n 145 a (nI f) (nI N) (nI h) (nI i) (nI p) (nI j) C = some (if T.1 p = true then (match qf (fun q => T.1 q && kEq S T i p q) k j with
    | some q => .inl (145, nI i, nI p, nI q)
    | none => .inr (145, a, nI f, nI N, nI h, nI i, nI p)) else .inr (145, a, nI f, nI N, nI h, nI i, nI p), C) := by
  have hb := hS.1
  have hl3 := hO.2.2.1
  have ip : f + p < aLen a := by omega
  have vp := hT.1 p hp
  intro k
  induction k with
  | zero =>
    intro j n h1 h2
    obtain ⟨n, rfl⟩ : ∃ m, n = m + 1 := ⟨n - 1, by omega⟩
    have b1 : N ≤ j := by omega
    simp (disch := omega) only [↓reduceIte, lp_192_27, x_le, b1, if_true, qf]
    split <;> rfl
  | succ k ih =>
    intro j n h1 h2
    obtain ⟨n, rfl⟩ : ∃ m, n = m + 1 := ⟨n - 1, by omega⟩
    have b1 : ¬ N ≤ j := by omega
    have ih1 := ih (j + 1) n (by omega) (by omega)
    have iq : f + j < aLen a := by omega
    have vq := hT.1 j (by omega)
    have ne1 : ¬ (1 : Int32) = 0 := by decide
    have n01 : ¬ (0 : Int32) = 1 := by decide
    rcases bcs (T.1 p) with tp | tp
    · rw [tp] at vp
      simp only [↓reduceIte, Bool.false_eq_true, if_false] at vp
      simp (disch := omega) only [lp_192_27, if_true, if_false, Option.bind_some, k_145, ha, ↓reduceIte, n_2, n_3, n_4, n_5, n_6, n_7, n_8, n_10, n_12, n_20, n_30, n_40, n_100, n_120, n_150, n_200, n_230, n_320, n_450, n_900, x_le, x_lt, x_eq, x_lt0, x_le0, x_0le, x_0lt, x_eq0, x_eq1, x_1lt, x_le1, x_lt1, x_1le, x_eqm, x_add, x_a1, x_1a, x_a0, x_0a, x_mul, x_sub, x_s1, x_1s, x_div, x_cl, x_cl0, x_cl1, x_in, x_in0, x_in1, x_ofNat, b1, ip, vp, n01, not_false_iff, tp, Bool.false_eq_true]
    · rw [tp] at vp ih1 ⊢
      simp only [↓reduceIte, if_true] at vp ih1 ⊢
      rcases bcs (T.1 j) with tj | tj
      · rw [tj] at vq
        simp only [↓reduceIte, Bool.false_eq_true, if_false] at vq
        have q0 : qf (fun q => T.1 q && kEq S T i p q) (k + 1) j = qf (fun q => T.1 q && kEq S T i p q) k (j + 1) := by rw [qf, if_neg (by simp [tj])]
        rw [q0]
        simp (disch := omega) only [lp_192_27, if_true, if_false, Option.bind_some, k_145, ha, ↓reduceIte, n_2, n_3, n_4, n_5, n_6, n_7, n_8, n_10, n_12, n_20, n_30, n_40, n_100, n_120, n_150, n_200, n_230, n_320, n_450, n_900, x_le, x_lt, x_eq, x_lt0, x_le0, x_0le, x_0lt, x_eq0, x_eq1, x_1lt, x_le1, x_lt1, x_1le, x_eqm, x_add, x_a1, x_1a, x_a0, x_0a, x_mul, x_sub, x_s1, x_1s, x_div, x_cl, x_cl0, x_cl1, x_in, x_in0, x_in1, x_ofNat, b1, ip, iq, vp, vq, not_true]
        exact ih1
      · rw [tj] at vq
        simp only [↓reduceIte, if_true] at vq
        have w := m191 (n := n) hP hS hO ha hl hN hf hT hp (show j < N by omega) tp tj hi
        rcases bcs (kEq S T i p j) with tk | tk
        · rw [tk] at w
          simp only [↓reduceIte, Bool.false_eq_true, if_false] at w
          have q0 : qf (fun q => T.1 q && kEq S T i p q) (k + 1) j = qf (fun q => T.1 q && kEq S T i p q) k (j + 1) := by rw [qf, if_neg (by simp [tk])]
          rw [q0]
          simp (disch := omega) only [lp_192_27, if_true, if_false, Option.bind_some, k_145, ha, ↓reduceIte, n_2, n_3, n_4, n_5, n_6, n_7, n_8, n_10, n_12, n_20, n_30, n_40, n_100, n_120, n_150, n_200, n_230, n_320, n_450, n_900, x_le, x_lt, x_eq, x_lt0, x_le0, x_0le, x_0lt, x_eq0, x_eq1, x_1lt, x_le1, x_lt1, x_1le, x_eqm, x_add, x_a1, x_1a, x_a0, x_0a, x_mul, x_sub, x_s1, x_1s, x_div, x_cl, x_cl0, x_cl1, x_in, x_in0, x_in1, x_ofNat, b1, ip, iq, vp, vq, not_true, ne1, w]
          exact ih1
        · rw [tk] at w
          simp only [↓reduceIte, if_true] at w
          have q0 : qf (fun q => T.1 q && kEq S T i p q) (k + 1) j = some j := by rw [qf, if_pos (by simp [tk, tj])]
          rw [q0]
          simp (disch := omega) only [lp_192_27, if_true, if_false, Option.bind_some, k_145, ha, ↓reduceIte, n_2, n_3, n_4, n_5, n_6, n_7, n_8, n_10, n_12, n_20, n_30, n_40, n_100, n_120, n_150, n_200, n_230, n_320, n_450, n_900, x_le, x_lt, x_eq, x_lt0, x_le0, x_0le, x_0lt, x_eq0, x_eq1, x_1lt, x_le1, x_lt1, x_1le, x_eqm, x_add, x_a1, x_1a, x_a0, x_0a, x_mul, x_sub, x_s1, x_1s, x_div, x_cl, x_cl0, x_cl1, x_in, x_in0, x_in1, x_ofNat, b1, ip, iq, vp, vq, not_true, not_false_iff, ne1, w]
theorem m192_p {C : AmC} {h a f N i : Nat} {S : Scr} {T : Tab} (hP : PInv C) (hS : ScrM C h S) (hO : ScrOK S) (ha : isK a 12 = true) (hl : f + 5 * N ≤ aLen a) (hN : N < 1000) (hf : f < 100000) (hT : TabM N (sCols S) C a f T) (hi : i < (sIdx S).length) : ∀ k j n, j + k = N → k + 1010 < n → lp_192_20 n 145 a (nI f) (nI N) (nI h) (nI i) (nI j) C = some (match (qf (fun p => T.1 p && (twQ N S T i p).isSome) k j).bind (fun p => (twQ N S T i p).map (fun q => (p, q))) with
    | some (p, q) => .inl (145, nI i, nI p, nI q)
    | none => .inr (145, a, nI f, nI N, nI h, nI i), C) := by
  have hl3 := hO.2.2.1
  intro k
  induction k with
  | zero =>
    intro j n h1 h2
    obtain ⟨n, rfl⟩ : ∃ m, n = m + 1 := ⟨n - 1, by omega⟩
    have b1 : N ≤ j := by omega
    simp (disch := omega) only [↓reduceIte, lp_192_20, x_le, b1, if_true, qf, Option.bind_none]
  | succ k ih =>
    intro j n h1 h2
    obtain ⟨n, rfl⟩ : ∃ m, n = m + 1 := ⟨n - 1, by omega⟩
    have b1 : ¬ N ≤ j := by omega
    have ih1 := ih (j + 1) n (by omega) (by omega)
    have L := m192_in hP hS hO ha hl hN hf hT (show j < N by omega) hi (N - (j + 1)) (j + 1) n (by omega) (by omega)
    have et : twQ N S T i j = qf (fun q => T.1 q && kEq S T i j q) (N - (j + 1)) (j + 1) := rfl
    rw [← et] at L
    rcases bcs (T.1 j) with tj | tj
    · rw [tj] at L
      simp only [↓reduceIte, Bool.false_eq_true, if_false] at L
      have q0 : qf (fun p => T.1 p && (twQ N S T i p).isSome) (k + 1) j = qf (fun p => T.1 p && (twQ N S T i p).isSome) k (j + 1) := by rw [qf, if_neg (by simp [tj])]
      rw [q0]
      simp (disch := omega) only [↓reduceIte, lp_192_20, x_le, b1, if_false, x_a1, L, Option.bind_some]
      exact ih1
    · rw [tj] at L
      simp only [↓reduceIte, if_true] at L
      cases ht : twQ N S T i j with
      | none =>
        rw [ht] at L
        have q0 : qf (fun p => T.1 p && (twQ N S T i p).isSome) (k + 1) j = qf (fun p => T.1 p && (twQ N S T i p).isSome) k (j + 1) := by rw [qf, if_neg (by simp [ht])]
        rw [q0]
        simp (disch := omega) only [↓reduceIte, lp_192_20, x_le, b1, if_false, x_a1, L, Option.bind_some]
        exact ih1
      | some q =>
        rw [ht] at L
        have q0 : qf (fun p => T.1 p && (twQ N S T i p).isSome) (k + 1) j = some j := by rw [qf, if_pos (by simp [ht, tj])]
        rw [q0]
        simp (disch := omega) only [↓reduceIte, lp_192_20, x_le, b1, if_false, x_a1, L, Option.bind_some, ht, Option.map_some]
theorem m192_i {C : AmC} {h a f N : Nat} {S : Scr} {T : Tab} (hP : PInv C) (hS : ScrM C h S) (hO : ScrOK S) (ha : isK a 12 = true) (hl : f + 5 * N ≤ aLen a) (hN : N < 1000) (hf : f < 100000) (hT : TabM N (sCols S) C a f T) : ∀ k j n, j + k = (sIdx S).length → k + 2020 < n → lp_192_2 n 145 a (nI f) (nI N) (nI h) (nI j) C = some (match (qf (fun i => bt (sKeys S) i && (sTwin N S T i).isSome) k j).bind (fun i => (sTwin N S T i).map (fun z => (i, z))) with
    | some (i, p, q) => .inl (145, nI i, nI p, nI q)
    | none => .inr (), C) := by
  have hl3 := hO.2.2.1
  have hb := hS.1
  intro k
  induction k with
  | zero =>
    intro j n h1 h2
    obtain ⟨n, rfl⟩ : ∃ m, n = m + 1 := ⟨n - 1, by omega⟩
    have b1 : (sIdx S).length ≤ j := by omega
    simp (disch := omega) only [↓reduceIte, lp_192_2, if_true, if_false, Option.bind_some, k_145, ↓bd1 (w_145_22 hP), k_160, l_160, x_in, x_cl, hb, hS.2.2.1, x_le, b1, qf, Option.bind_none]
  | succ k ih =>
    intro j n h1 h2
    obtain ⟨n, rfl⟩ : ∃ m, n = m + 1 := ⟨n - 1, by omega⟩
    have b1 : ¬ (sIdx S).length ≤ j := by omega
    have ih1 := ih (j + 1) n (by omega) (by omega)
    have ne1 : ¬ (1 : Int32) = 0 := by decide
    have keq := hS.2.2.2.2.1
    rcases bcs (bt (sKeys S) j) with tb | tb
    · have q0 : qf (fun i => bt (sKeys S) i && (sTwin N S T i).isSome) (k + 1) j = qf (fun i => bt (sKeys S) i && (sTwin N S T i).isSome) k (j + 1) := by rw [qf, if_neg (by simp [tb])]
      rw [q0]
      simp (disch := omega) only [↓reduceIte, lp_192_2, if_true, if_false, Option.bind_some, k_145, ↓bd1 (w_145_22 hP), k_160, l_160, ↓bd1 (w_145_23 hP), k_161, l_161, x_in, x_cl, hb, hS.2.2.1, x_le, b1, keq, bt_ss, tb, Bool.false_eq_true, not_true, x_a1]
      exact ih1
    · have L := m192_p hP hS hO ha hl hN hf hT (show j < (sIdx S).length by omega) N 0 n (by omega) (by omega)
      rw [x_0] at L
      have et : sTwin N S T j = (qf (fun p => T.1 p && (twQ N S T j p).isSome) N 0).bind (fun p => (twQ N S T j p).map (fun q => (p, q))) := rfl
      rw [← et] at L
      cases ht : sTwin N S T j with
      | none =>
        rw [ht] at L
        have q0 : qf (fun i => bt (sKeys S) i && (sTwin N S T i).isSome) (k + 1) j = qf (fun i => bt (sKeys S) i && (sTwin N S T i).isSome) k (j + 1) := by rw [qf, if_neg (by simp [ht])]
        rw [q0]
        simp (disch := omega) only [↓reduceIte, lp_192_2, if_true, if_false, Option.bind_some, k_145, ↓bd1 (w_145_22 hP), k_160, l_160, ↓bd1 (w_145_23 hP), k_161, l_161, x_in, x_cl, hb, hS.2.2.1, x_le, b1, keq, bt_ss, tb, ne1, not_false_iff, x_a1, L]
        exact ih1
      | some z =>
        obtain ⟨p, q⟩ := z
        rw [ht] at L
        have q0 : qf (fun i => bt (sKeys S) i && (sTwin N S T i).isSome) (k + 1) j = some j := by rw [qf, if_pos (by simp [ht, tb])]
        rw [q0]
        simp (disch := omega) only [↓reduceIte, lp_192_2, if_true, if_false, Option.bind_some, k_145, ↓bd1 (w_145_22 hP), k_160, l_160, ↓bd1 (w_145_23 hP), k_161, l_161, x_in, x_cl, hb, hS.2.2.1, x_le, b1, keq, bt_ss, tb, ne1, not_false_iff, x_a1, L, ht, Option.map_some]
/-- where the reference puts the clash's places -/
def clM (C : AmC) (o : Option (Nat × Nat)) : AmC := match o with
  | none => C
  | some (p, q) => uI (uI C 145 55 (nI p)) 145 56 (nI q)
theorem m192 {n : Nat} {C : AmC} {h a f N : Nat} {S : Scr} {T : Tab} (hP : PInv C) (hS : ScrM C h S) (hO : ScrOK S) (ha : isK a 12 = true) (hl : f + 5 * N ≤ aLen a) (hN : N < 1000) (hf : f < 100000) (hT : TabM N (sCols S) C a f T) (hn : 2100 ≤ n) : f_192 n 145 a (nI f) (nI N) (nI h) C = some (oI (sClash N S T), clM C ((sClash N S T).bind (sTwin N S T))) := by
  have hl3 := hO.2.2.1
  have L := m192_i hP hS hO ha hl hN hf hT (sIdx S).length 0 n (by omega) (by omega)
  rw [x_0] at L
  have ec : sClash N S T = qf (fun i => bt (sKeys S) i && (sTwin N S T i).isSome) (sIdx S).length 0 := rfl
  rw [← ec] at L
  unfold f_192
  rw [L]
  cases hc : sClash N S T with
  | none => rfl
  | some i =>
    rw [ec] at hc
    obtain ⟨_, _, h3, _⟩ := qf_some hc
    simp only [Bool.and_eq_true] at h3
    cases ht : sTwin N S T i with
    | none => rw [ht] at h3; cases h3.2
    | some z =>
      obtain ⟨p, q⟩ := z
      simp only [↓reduceIte, Option.bind_some, ht, Option.map_some, k_145, if_true, clM, oI_n, oI_s]
