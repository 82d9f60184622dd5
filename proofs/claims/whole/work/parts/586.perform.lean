/-! The class's pass: a whole run. -/
def cpR (C : AmC) (r r0 : Nat) : AmC := uI (uA C (r + 1) (va_cpy (cI C (r0 + 1)) (cI C (r + 1)) 0 0 120)) r 1 (cI C r0 1)
theorem rows_ne {C : AmC} {r r0 : Nat} (h : RwK C r) (h0 : RwK C r0) : ¬ r0 = r + 1 := by
  intro e
  have q1 := (isK_p h.2.2.1).2
  have q2 := (isK_p h0.1).2
  rw [e, q1] at q2
  cases q2
theorem c72 {n : Nat} {C : AmC} {r r0 : Nat} (h : RwK C r) (h0 : RwK C r0) : f_72 n r r0 C = some ((), cpR C r r0) := by
  have ne := rows_ne h h0
  unfold f_72 cpR
  have c120 : Int32.toNatClampNeg (Int32.ofNat 120) = 120 := by decide
  have c0 : Int32.toNatClampNeg (0 : Int32) = 0 := by decide
  have e1 : cI (uA C (r + 1) (va_cpy (cI C (r0 + 1)) (cI C (r + 1)) 0 0 120)) r0 = cI C r0 := r_An ne
  have n0 : ¬ (0 : Int32) < 0 := by decide
  have n1 : ¬ (Int32.ofNat 120) < 0 := by decide
  have n2 : 0 + 120 ≤ 120 := by decide
  simp only [↓reduceIte, h0.1, h.1, if_true, ↓bd1 h0.2.1, ↓bd1 h.2.1, h.2.2.1, h0.2.2.1, h.2.2.2, h0.2.2.2, c120, c0, n0, n1, n2, not_false_iff, and_self, e1]
theorem cpR_fr (C : AmC) (r r0 : Nat) : Fr (fun b => b = r ∨ b = r + 1) C (cpR C r r0) := ((Fr.refl (fun b => b = r ∨ b = r + 1) C).uA (a := r + 1) (Or.inr rfl)).uI (a := r) (Or.inl rfl)
theorem cpR_T {cols : Nat} {C : AmC} {r r0 : Nat} {T : Tab} (h4 : cols ≤ 4) (hT : TabC cols C r0 T) : TabC cols (cpR C r r0) r T := by
  have e1 : cI (cpR C r r0) r 1 = cI C r0 1 := by unfold cpR; rw [r_I, if_pos ⟨rfl, rfl⟩]
  have e2 : cI (cpR C r r0) (r + 1) = va_cpy (cI C (r0 + 1)) (cI C (r + 1)) 0 0 120 := by unfold cpR; rw [r_In (by omega), r_Ae]
  refine ⟨fun p hp => by rw [e1]; exact hT.1 p hp, fun p hp => by rw [e1]; exact hT.2.1 p hp, fun p hp tp c hc => ?_⟩
  rw [e2, ← hT.2.2 p hp tp c hc]
  unfold va_cpy
  rw [if_pos (by omega)]
  congr 1
  omega
theorem PInv.uP {C : AmC} {a j q : Nat} (h : PInv C) (hn : ∀ z ∈ refL, ¬ (z.1 = a ∧ z.2.1 = j)) : PInv (uP C a j q) := by
  intro z hz
  rw [p_P, if_neg (hn z hz)]
  exact h z hz
set_option maxRecDepth 20000 in
theorem ref67 : ∀ a ∈ pasL, ∀ z ∈ refL, ¬ (z.1 = a ∧ z.2.1 = 6) ∧ ¬ (z.1 = a ∧ z.2.1 = 7) := by decide +kernel
/-- nothing but a pass's cells has changed -/
def FrP (a : Nat) (C C' : AmC) : Prop := PInv C' ∧ (∀ b, ¬ b = a → cP C' b = cP C b) ∧ (∀ b, ¬ PY a b → cI C' b = cI C b) ∧ ∀ b, ¬ PY a b → cJ C' b = cJ C b
theorem c45_z {a : Nat} {path : Nat} (h2 : a ∈ pasL) : ∀ k p n C, p + k = 30 → k < n → PInv C → Rt (lp_45_23 n a (nI path) (nI p) C) (fun z C' => z = (a, nI path) ∧ Fr (fun b => b = a + 7) C C' ∧ (∀ q, q < p → cI C' (a + 7) q = cI C (a + 7) q) ∧ ∀ q, p ≤ q → q < 30 → cI C' (a + 7) q = 0) := by
  intro k
  induction k with
  | zero =>
    intro p n C h1 hn hP
    obtain ⟨n, rfl⟩ : ∃ m, n = m + 1 := ⟨n - 1, by omega⟩
    have b1 : 30 ≤ p := by omega
    simp (disch := omega) only [lp_45_23, ↓reduceIte, n_2, n_3, n_4, n_5, n_6, n_7, n_8, n_10, n_12, n_20, n_30, n_40, n_100, n_120, n_150, n_200, n_230, n_320, n_450, n_900, x_le, x_lt, x_eq, x_lt0, x_le0, x_0le, x_0lt, x_eq0, x_eq1, x_1lt, x_le1, x_lt1, x_1le, x_eqm, x_add, x_a1, x_1a, x_a0, x_0a, x_mul, x_sub, x_s1, x_1s, x_div, x_cl, x_cl0, x_cl1, x_in, x_in0, x_in1, x_ofNat, b1, if_true]
    exact rt_ret ⟨rfl, Fr.refl _ _, fun _ _ => rfl, fun q z1 z2 => by omega⟩
  | succ k ih =>
    intro p n C h1 hn hP
    obtain ⟨n, rfl⟩ : ∃ m, n = m + 1 := ⟨n - 1, by omega⟩
    have b1 : ¬ 30 ≤ p := by omega
    have b2 : p < 30 := by omega
    have k3 := pa_of hP h2
    simp (disch := omega) only [lp_45_23, ↓reduceIte, n_2, n_3, n_4, n_5, n_6, n_7, n_8, n_10, n_12, n_20, n_30, n_40, n_100, n_120, n_150, n_200, n_230, n_320, n_450, n_900, x_le, x_lt, x_eq, x_lt0, x_le0, x_0le, x_0lt, x_eq0, x_eq1, x_1lt, x_le1, x_lt1, x_1le, x_eqm, x_add, x_a1, x_1a, x_a0, x_0a, x_mul, x_sub, x_s1, x_1s, x_div, x_cl, x_cl0, x_cl1, x_in, x_in0, x_in1, x_ofNat, b1, if_true, if_false, k3.k, ↓bd1 k3.p5, k3.k7, k3.l7, b2]
    have F : Fr (fun b => b = a + 7) C (uI C (a + 7) p 0) := (Fr.refl (fun b => b = a + 7) C).uI (a := a + 7) rfl
    refine rt_mono (ih (p + 1) n _ (by omega) (by omega) (hP.of rfl)) (fun z C' H => ⟨H.1, F.trans H.2.1, fun q hq => ?_, fun q z1 z2 => ?_⟩)
    · rw [H.2.2.1 q (by omega), r_I, if_neg (by omega)]
    · by_cases e : q = p
      · subst e
        rw [H.2.2.1 q (by omega), r_I, if_pos ⟨rfl, rfl⟩]
      · exact H.2.2.2 q (by omega) z2
/-- what a pass bears behind its run -/
def PEnd (C : AmC) (a : Nat) (S : Scr) (t : Stm) (stage path : Nat) (T : Tab) : Prop := PsF C a S stage (sEnd S (sRun S t stage path T)) ∧ (stage = 3 → rE (sReads S t stage path T).1 = 0 → (sReads S t stage path T).2.length ≤ 40 ∧ ∀ j (h : j < (sReads S t stage path T).2.length), SlC C a j S t (sReads S t stage path T).2[j].1 (sReads S t stage path T).2[j].2.2)
theorem sReads_ok {S : Scr} {t : Stm} {stage path : Nat} {T : Tab} (h : XOK S t stage (sReads S t stage path T)) : RSok S (sRun S t stage path T) := by
  unfold sRun
  have : ∀ (l : List Itm) (r : RS), RSok S r → (∀ q ∈ l, ItOK S t stage q) → RSok S (l.foldl (sItem S t stage) r) := by
    intro l
    induction l with
    | nil => intro r hr _; exact hr
    | cons q l ih =>
      intro r hr hq
      rw [List.foldl_cons]
      exact ih _ (sItem_ok hr (hq q List.mem_cons_self)) (fun q' z => hq q' (List.mem_cons_of_mem _ z))
  exact this _ _ h.1 h.2.2
theorem c45 {n : Nat} {C : AmC} {a s i path stage r0 : Nat} {S : Scr} {T : Tab} (hP : PInv C) (ha : a ∈ pasL) (hs : s ∈ scrL) (hS : ScrC C s S) (hO : ScrOK S) (hi : i < (sStm S).length) (hpa : PathOK S path) (hst : stage ≤ 3) (hr0 : r0 ∈ rowsL) (hra : r0 + 1 < a ∨ a + 8 ≤ r0) (hT : TabC (sCols S) C r0 T) (hN : TabN (sCols S) T) (hn : 9500 ≤ n) : Rt (f_45 n a s (nI i) (nI path) (nI stage) r0 C) (fun _ C' => PEnd C' a S (sStm S)[i] stage path T ∧ FrP a C C' ∧ PK C' a s (s + 16 + 3 * i) S (sStm S)[i] ∧ XOK S (sStm S)[i] stage (sReads S (sStm S)[i] stage path T)) := by
  obtain ⟨a1, a2⟩ := pas_ge ha
  have hl8 := hO.2.2.2.2.2.2.2.1
  have i8 : i < 8 := by omega
  have hst2 := sc_st s hs i i8
  generalize ht : (sStm S)[i] = t
  have hto : StmOK (sCols S) t := by rw [← ht]; exact hO.2.2.2.2.2.2.2.2 _ (List.getElem_mem hi)
  have hstm : StmC (sCols S) C s (s + 16 + 3 * i) t := by rw [← ht]; exact hS.2.2.2.2.2.2.2 i hi
  generalize hst' : s + 16 + 3 * i = st at hst2 hstm
  have st8 := stm_lt hst2
  have s8 := scr_lt hs
  have P1 : PInv (uP C a 6 s) := hP.uP (fun z hz => (ref67 a ha z hz).1)
  have P2 : PInv (uP (uP C a 6 s) a 7 st) := P1.uP (fun z hz => (ref67 a ha z hz).2)
  have w90 : f_90 n s (nI i) (uP C a 6 s) = some (st, uP C a 6 s) := by rw [c90 (sc_of P1 hs) i8, hst']
  generalize hB : uP (uP C a 6 s) a 7 st = B at P2
  have Bi : cI B = cI C := by rw [← hB]; rfl
  have Bj : cJ B = cJ C := by rw [← hB]; rfl
  have Bp : ∀ b, ¬ b = a → cP B b = cP C b := fun b hb => by
    funext k
    rw [← hB, p_P, if_neg (fun z => hb z.1), p_P, if_neg (fun z => hb z.1)]
  have B6 : cP B a 6 = some s := by rw [← hB, p_P, if_neg (by simp), p_P, if_pos ⟨rfl, rfl⟩]
  have B7 : cP B a 7 = some st := by rw [← hB, p_P, if_pos ⟨rfl, rfl⟩]
  have KB : PK B a s st S t := ⟨P2, ha, hs, hst2, B6, B7, hS.of hl8 (fun b _ _ => by rw [Bi]), hO, hstm.of (fun b _ _ => by rw [Bi]) (by rw [Bi]) (by rw [Bi]) (by rw [Bi]), hto⟩
  have k3 := pa_of P2 ha
  have TB : TabC (sCols S) B r0 T := hT.of (by rw [Bi]) (by rw [Bi])
  have F8 : Fr (PY a) B (uI B a 8 (nI stage)) := (Fr.refl (PY a) B).uI (a := a) (Or.inl (Or.inl rfl))
  have P8 : PInv (uI B a 8 (nI stage)) := P2.of rfl
  have k8 := pa_of P8 ha
  have w72 := c72 (n := n) (rw_of P8 k8.rw) (rw_of P8 hr0)
  have T8 : TabC (sCols S) (uI B a 8 (nI stage)) r0 T := TB.of (r_In (by omega)) (r_In (by omega))
  have T9 := cpR_T (r := a + 1) hO.2.1 T8
  have F9 : Fr (PY a) B (cpR (uI B a 8 (nI stage)) (a + 1) r0) := F8.trans ((cpR_fr _ _ _).mono (fun b hb => Or.inl (by unfold PX; omega)))
  generalize hD : cpR (uI B a 8 (nI stage)) (a + 1) r0 = D at T9 F9
  rw [hD] at w72
  have D8 : cI D a 8 = nI stage := by
    rw [← hD]
    rw [(cpR_fr (uI B a 8 (nI stage)) (a + 1) r0).2.1 a (by omega), r_I, if_pos ⟨rfl, rfl⟩]
  have F10 : Fr (PY a) B (uI (uI D a 9 0) a 10 0) := (F9.uI (a := a) (Or.inl (Or.inl rfl))).uI (a := a) (Or.inl (Or.inl rfl))
  have Z := c45_z (path := path) ha 30 0 n (uI (uI D a 9 0) a 10 0) rfl (by omega) (P2.of F10.1)
  rw [x_0] at Z
  unfold f_45
  have kk : isK a 3 = true := k3.k
  rw [if_pos kk, if_pos (sc_of hP hs).k, bd1 w90]
  dsimp only
  rw [hB, bp_I, bd1 k3.p0, if_pos (rw_of P2 k3.rw).1, bd1 w72]
  dsimp only
  refine rt_bind (rt_mono Z (fun z E H => ?_))
  obtain ⟨ez, G1, _, G2⟩ := H
  subst ez
  dsimp only
  rw [if_pos kk]
  have FE : Fr (PY a) B E := F10.trans (G1.mono (fun b hb => Or.inl (by unfold PX; omega)))
  have E0 : cI E a = cI (uI (uI D a 9 0) a 10 0) a := G1.2.1 a (by omega)
  rw [c48 kk]
  simp only [Option.bind_some]
  have FQ : Fr (PY a) B (uE E a 0 (-1) (-1)) := FE.trans ((uE_fr E a 0 (-1) (-1)).mono (fun b hb => Or.inl (Or.inl hb)))
  have KQ := KB.fr FQ (fun b hb => by have := PY_ge ha b hb; omega)
  have F0 : PsF E a S stage (sRun0 T) ∨ True := Or.inr trivial
  clear F0
  have u := uE_11 E a 0 (-1) (-1)
  have TQ : TabC (sCols S) (uE E a 0 (-1) (-1)) (a + 1) T := by
    refine TabC.of T9 ?_ ?_
    · rw [(uE_fr E a 0 (-1) (-1)).2.1 _ (by omega), G1.2.1 _ (by omega), r_In (by omega), r_In (by omega)]
    · rw [(uE_fr E a 0 (-1) (-1)).2.1 _ (by omega), G1.2.1 _ (by omega), r_In (by omega), r_In (by omega)]
  have PQ : PsF (uE E a 0 (-1) (-1)) a S stage (sRun0 T) := by
    refine ⟨TQ, ?_, ?_, u.1, u.2.1, u.2.2.1, fun p hp => ?_⟩
    · rw [u.2.2.2 8 (by omega), E0, r_I, if_neg (by omega), r_I, if_neg (by omega)]; exact D8
    · rw [u.2.2.2 10 (by omega), E0, r_I, if_pos ⟨rfl, rfl⟩]; rfl
    · rw [(uE_fr E a 0 (-1) (-1)).2.1 _ (by omega), G2 p (by omega) hp]; rfl
  have Q9 : cI (uE E a 0 (-1) (-1)) a 9 = 0 := by
    rw [u.2.2.2 9 (by omega), E0, r_I, if_neg (by omega), r_I, if_pos ⟨rfl, rfl⟩]
  have PA : PasC (uE E a 0 (-1) (-1)) a S t stage (sRun0 T, []) := ⟨PQ, fun _ => ⟨Q9, by simp, fun i hi => by cases hi⟩⟩
  have X0 : XOK S t stage (sRun0 T, []) := ⟨⟨hN, by show ([] : List (Option Nat × Nat × (Nat → Int32))).length ≤ 200; simp⟩, fun _ => rfl, fun q hq => by cases hq⟩
  have KQ7 := KQ.2.2.2.2.2.1
  have kt := st_of KQ.1 hst2
  have m0 := KQ.2.2.2.2.2.2.2.2.1.1
  change Rt ((cP (uE E a 0 (-1) (-1)) a 7).bind _) _
  rw [bd1 KQ7, if_pos kt.1]
  change Rt (if cI (uE E a 0 (-1) (-1)) st 0 = 0 then _ else _) _
  rw [m0]
  -- behind the reading
  have finish : ∀ C1, Fr (PY a) B C1 → PK C1 a s st S t → PasC C1 a S t stage (sReads S t stage path T) → XOK S t stage (sReads S t stage path T) → Rt ((f_54 n a C1).bind (fun z => match z with
      | (_, C35) => (f_59 n a C35).bind (fun z => match z with
        | (_, C38) => some ((), C38)))) (fun _ C' => PEnd C' a S t stage path T ∧ FrP a C C' ∧ PK C' a s st S t ∧ XOK S t stage (sReads S t stage path T)) := by
    intro C1 F1 K1 A1 X1
    refine rt_bind (rt_mono (c54 (n := n) hst K1 A1 X1 (by omega)) (fun _ C2 H2 => ?_))
    obtain ⟨H21, H22, H23⟩ := H2
    have K2 := K1.fr H22 (fun b hb => by have := PY_ge ha b (Or.inl hb); omega)
    dsimp only
    refine rt_bind (rt_mono (c59 (n := n) K2 H21 (by omega)) (fun _ C3 H3 => ?_))
    obtain ⟨H31, H32⟩ := H3
    have FA : Fr (PY a) B C3 := (F1.trans (H22.mono (fun b hb => Or.inl hb))).trans (H32.mono (fun b hb => Or.inl (Or.inl hb)))
    refine rt_ret ⟨⟨H31, fun s3 e0 => ?_⟩, ⟨P2.of FA.1, fun b hb => by rw [FA.1]; exact Bp b hb, fun b hb => by rw [FA.2.1 b hb, Bi], fun b hb => by rw [FA.2.2 b hb, Bj]⟩, K2.fr H32 (fun b hb => by omega), X1⟩
    have I1 := A1.2 e0
    refine ⟨I1.2.1, fun j hj => ?_⟩
    obtain ⟨y1, y2⟩ := (I1.2.2 j hj).2.2 s3
    obtain ⟨w4, w6⟩ := H23 s3
    have v4 : cI C3 (a + 4) = cI C1 (a + 4) := by rw [H32.2.1 _ (by omega), w4]
    have v6 : cI C3 (a + 6) = cI C1 (a + 6) := by rw [H32.2.1 _ (by omega), w6]
    exact ⟨by rw [v4]; exact y1, fun d hd hv => by rw [v6]; exact y2 d hd hv⟩
  by_cases h3 : tKd t = 3
  · have ne1 : ¬ (1 : Int32) = 0 := by decide
    simp only [↓reduceIte, h3, if_true, ne1, if_false]
    have w49 := c49 (n := n) h3 KQ TQ u.1 (by omega)
    change Rt ((f_49 n a (uE E a 0 (-1) (-1))).bind _) _
    rw [bd1 w49]
    dsimp only
    cases hd : sDblP S t T with
    | some p =>
      dsimp only
      have F1 : Fr (PY a) B (uE (uE E a 0 (-1) (-1)) a 1 (nI p) (dblI (sDbl S t T p))) := FQ.trans ((uE_fr _ a _ _ _).mono (fun b hb => Or.inl (Or.inl hb)))
      have K1 := KB.fr F1 (fun b hb => by have := PY_ge ha b hb; omega)
      have er : sReads S t stage path T = (rEnd (sRun0 T) 1 (nI p) (dblI (sDbl S t T p)), []) := by unfold sReads; rw [hd]
      have A1 : PasC (uE (uE E a 0 (-1) (-1)) a 1 (nI p) (dblI (sDbl S t T p))) a S t stage (sReads S t stage path T) := by
        rw [er]
        refine ⟨PQ.uE 1 (nI p) (dblI (sDbl S t T p)), fun z => ?_⟩
        exact absurd z (by show ¬ (1 : Int32) = 0; decide)
      have X1 : XOK S t stage (sReads S t stage path T) := by
        rw [er]
        exact ⟨X0.1, fun _ => rfl, fun q hq => by cases hq⟩
      have hc52 : Rt (f_52 n a (nI path) (uE (uE E a 0 (-1) (-1)) a 1 (nI p) (dblI (sDbl S t T p)))) (fun _ C' => C' = uE (uE E a 0 (-1) (-1)) a 1 (nI p) (dblI (sDbl S t T p))) := by
        unfold f_52
        obtain ⟨n, rfl⟩ : ∃ m, n = m + 1 := ⟨n - 1, by omega⟩
        have kp := pa_of K1.1 ha
        have ks := sc_of K1.1 hs
        have e1 := (uE_11 (uE E a 0 (-1) (-1)) a 1 (nI p) (dblI (sDbl S t T p))).1
        have hl := hO.2.2.2.2.2.1
        by_cases y : (sOth S).length = 0
        · have y0 : (nI (sOth S).length ≤ (0 : Int32)) := by rw [y]; decide
          simp only [↓reduceIte, lp_52_2, kp.k, if_true, ↓bd1 K1.2.2.2.2.1, ks.k, K1.2.2.2.2.2.2.1.2.2.2.2.1, y0, Option.bind_some]
          exact rt_ret rfl
        · have y0 : ¬ (nI (sOth S).length ≤ (0 : Int32)) := by rw [x_le0 (by omega)]; exact y
          simp only [↓reduceIte, lp_52_2, kp.k, if_true, if_false, ↓bd1 K1.2.2.2.2.1, ks.k, K1.2.2.2.2.2.2.1.2.2.2.2.1, y0, e1, ne1, not_false_iff, Option.bind_some]
          exact rt_ret rfl
      refine rt_bind (rt_mono hc52 (fun _ C1 H1 => ?_))
      subst H1
      exact finish _ F1 K1 A1 X1
    | none =>
      dsimp only
      have er : sReads S t stage path T = sFors S t stage path (sOth S).length 0 (sRun0 T, []) := by unfold sReads; rw [hd]; dsimp only; rw [if_pos h3]
      have hdd : ¬ tCh t = 2 → noD S t T := fun z => dbl_no h3 (fun w => z (by unfold tCh; simp [h3, w])) hd
      have hl := hO.2.2.2.2.2.1
      have L := c52_lp (a := a) (s := s) (st := st) (T0 := T) hst hpa h3 hdd (sOth S).length 0 n _ (sRun0 T, []) (by omega) (by omega) KQ PA X0 (fun _ => ⟨rfl, by split <;> simp⟩)
      rw [x_0] at L
      have hc52 : Rt (f_52 n a (nI path) (uE E a 0 (-1) (-1))) (fun _ C' => PasC C' a S t stage (sReads S t stage path T) ∧ Fr (PY a) (uE E a 0 (-1) (-1)) C' ∧ XOK S t stage (sReads S t stage path T)) := by
        unfold f_52
        refine rt_bind (rt_mono L (fun _ C1 H1 => rt_ret ?_))
        rw [er]
        exact ⟨H1.1, H1.2.1, H1.2.2.1⟩
      refine rt_bind (rt_mono hc52 (fun _ C1 H1 => ?_))
      exact finish C1 (FQ.trans H1.2.1) (KQ.fr H1.2.1 (fun b hb => by have := PY_ge ha b hb; omega)) H1.1 H1.2.2
  · simp only [↓reduceIte, h3, if_false, if_true]
    have er : sReads S t stage path T = sRead S t stage path 7000 none (sRun0 T, []) := by
      have hd : sDblP S t T = none := by unfold sDblP; rw [if_neg (fun z => h3 z.1)]
      unfold sReads
      rw [hd]
      dsimp only
      rw [if_neg h3]
    change Rt ((f_51 n a (nI path) (uE E a 0 (-1) (-1))).bind _) _
    refine rt_bind (rt_mono (c51 (n := n) hst hpa h3 KQ PA X0 rfl (by omega)) (fun _ C1 H1 => ?_))
    exact finish C1 (FQ.trans H1.2.1) (KQ.fr H1.2.1 (fun b hb => by have := PY_ge ha b hb; omega)) (by rw [er]; exact H1.1) (by rw [er]; exact H1.2.2)
