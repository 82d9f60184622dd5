/-! The reference's run: reading for others. -/
theorem m222_in {h i stage path o B : Nat} {S : Scr} {t : Stm} (hst : stage ≤ 3) (hpa : PathOK S path) (h3 : tKd t = 3) (ho : o < (sOth S).length) (hB : B ≤ 309) : ∀ m n C last b x N, mu S t stage path (some o) last x.1 ≤ m → (stage = 0 → N = 0) → (¬ stage = 0 → N + ahead (sOk S t path (some o) (rT x.1)) (sRk S path (rT x.1)) last ≤ B) → m + 1600 < n → MK C h S i t → MasC C S t stage N x → XOK S t stage x → cI C 145 60 = nI path → LastM C S path (nxL (sRk S path (rT x.1)) last (sNext (sOk S t path (some o) (rT x.1)) (sRk S path (rT x.1)) last)) → Rt (lp_222_24 n 145 (nI o) (nI stage) (nI (tOwn t)) (othN S o (tOth t)) (if b = true then 1 else 0) (oI (sNext (sOk S t path (some o) (rT x.1)) (sRk S path (rT x.1)) last)) C) (fun z C' => z = (145, nI o, nI stage, if (sReadO S t stage path o (m + 1) last b x).2 = true then 1 else 0) ∧ MasC C' S t stage (B * min stage 1) (sReadO S t stage path o (m + 1) last b x).1 ∧ FrM 61 C C' ∧ XOK S t stage (sReadO S t stage path o (m + 1) last b x).1) := by
  intro m
  induction m with
  | zero =>
    intro n C last b x N hm hN0 hN hn hK hF hX hon hL
    obtain ⟨n, rfl⟩ : ∃ m, n = m + 1 := ⟨n - 1, by omega⟩
    have hNl : N ≤ B * min stage 1 := by
      by_cases e : stage = 0
      · have := hN0 e; omega
      · have := hN e
        rw [show min stage 1 = 1 by omega]
        omega
    by_cases e : rE x.1 = 0
    · cases hs : sNext (sOk S t path (some o) (rT x.1)) (sRk S path (rT x.1)) last with
      | some p =>
        exfalso
        have := ahead_lt hs
        unfold mu at hm
        omega
      | none =>
        simp only [↓reduceIte, lp_222_24, oI_n, if_true]
        have er : sReadO S t stage path o 1 last b x = (x, b) := by
          unfold sReadO
          rw [if_pos e, hs]
        rw [er]
        exact rt_ret ⟨rfl, hF.mono hNl, FrM.refl _ _, hX⟩
    · have e66 : ¬ cI C 145 66 = 0 := by rw [hF.1.2.2.2.1]; exact e
      have er : sReadO S t stage path o 1 last b x = (x, b) := by
        unfold sReadO
        rw [if_neg e]
      rw [er]
      unfold lp_222_24
      by_cases c : oI (sNext (sOk S t path (some o) (rT x.1)) (sRk S path (rT x.1)) last) = -1
      · rw [if_pos c]; exact rt_ret ⟨rfl, hF.mono hNl, FrM.refl _ _, hX⟩
      · rw [if_neg c, if_pos k_145, if_pos e66]; exact rt_ret ⟨rfl, hF.mono hNl, FrM.refl _ _, hX⟩
  | succ m ih =>
    intro n C last b x N hm hN0 hN hn hK hF hX hon hL
    obtain ⟨n, rfl⟩ : ∃ m, n = m + 1 := ⟨n - 1, by omega⟩
    have hNl : N ≤ B * min stage 1 := by
      by_cases e : stage = 0
      · have := hN0 e; omega
      · have := hN e
        rw [show min stage 1 = 1 by omega]
        omega
    by_cases e : rE x.1 = 0
    · cases hs : sNext (sOk S t path (some o) (rT x.1)) (sRk S path (rT x.1)) last with
      | none =>
        simp only [↓reduceIte, lp_222_24, oI_n, if_true]
        have er : sReadO S t stage path o (m + 1 + 1) last b x = (x, b) := by
          unfold sReadO
          rw [if_pos e, hs]
        rw [er]
        exact rt_ret ⟨rfl, hF.mono hNl, FrM.refl _ _, hX⟩
      | some p =>
        rw [hs] at hL
        obtain ⟨hp30, hok⟩ := sNext_ok hs
        have tp := sOk_has p hok
        have em : ¬ nI p = (-1 : Int32) := by rw [x_eqm (by omega)]; exact id
        have e66 : cI C 145 66 = 0 := by rw [hF.1.2.2.2.1]; exact e
        have hal := ahead_lt hs
        have hO := hK.1.2.2.2
        have d : ∀ f, ¬ f = 69 → cI (uI C 145 69 (cI C 145 69 + 1)) 145 f = cI C 145 f := fun f hf => by rw [r_I, if_neg (by omega)]
        have F1 : FrM 61 C (uI C 145 69 (cI C 145 69 + 1)) := (FrM.refl 61 C).uF (by omega)
        have K1 := hK.fr F1 (by decide)
        have A1 : MasC (uI C 145 69 (cI C 145 69 + 1)) S t stage N x := hF.of (fun f _ z => d f z) (fun b hb => r_In hb)
        have L1 : LastM (uI C 145 69 (cI C 145 69 + 1)) S path (some (sRk S path (rT x.1) p)) := LastM.of hL (fun f z1 z2 => d f (by omega))
        have w193 := m193 (n := n) K1.1.1 A1.1.1 hp30 tp hK.2.2.2.2.2.2.2.1 hO.2.1
        have hNN : N < 320 := by
          by_cases e0 : stage = 0
          · have := hN0 e0; omega
          · have := hN e0; omega
        by_cases c : isMat S t o (rT x.1) p = true
        · have cq : (rT x.1).2 p (tOwn t) = othN S o (tOth t) := by simpa [isMat] using c
          rw [cq] at w193
          simp only [↓reduceIte, lp_222_24, oI_s, em, if_false, if_true, Option.bind_some, k_145, e66, not_true, ↓bd1 w193]
          generalize uI C 145 69 (cI C 145 69 + 1) = C1 at F1 K1 A1 L1
          have hw : WhoOK S (rT x.1) t (some p) (some o) (nI o) := ⟨fun p' z => by cases z; exact ⟨hp30, tp⟩, fun _ => rfl, fun _ => ⟨o, rfl, ho, rfl⟩⟩
          have M := m219 (n := n) hst hw K1 A1 e hX.1.2 hNN (new_some hK.2.2.2.2 p) (by omega)
          rw [show oI (some p) = nI p from rfl] at M
          refine rt_bind (rt_mono M (fun _ C2 H => ?_))
          obtain ⟨H1, H2⟩ := H
          have K2 := K1.fr H2 (by decide)
          have hpp : ∀ p', (some p : Option Nat) = some p' → p' < 30 ∧ (rT x.1).1 p' = true := fun p' z => by cases z; exact ⟨hp30, tp⟩
          have hoo : ∀ q, (some o : Option Nat) = some q → q < (sOth S).length := fun q z => by cases z; exact ho
          have X2 := hX.meet (o := some o) hpp hoo (new_some hK.2.2.2.2 p)
          have L2 : LastM C2 S path (some (sRk S path (rT x.1) p)) := L1.of (fun f z1 z2 => H2.2.2.2 f (by omega))
          have on2 : cI C2 145 60 = nI path := by rw [H2.2.2.2 60 (by omega), F1.2.2.2 60 (by omega)]; exact hon
          obtain ⟨C3, w5, G1, G2, G3, G4, G5⟩ := m205_go (n := n) (o := o) K2 H1 X2 hpa (fun _ => ho) L2 on2 (by omega)
          dsimp only
          rw [bd1 w5]
          dsimp only
          have er : sReadO S t stage path o (m + 1 + 1) last b x = sReadO S t stage path o (m + 1) (some (sRk S path (rT x.1) p)) true (sMeet S t stage (some p) (some o) x) := by
            rw [sReadO, if_pos e, hs]
            dsimp only
            rw [if_pos c]
          rw [er]
          have FF : FrM 61 C C3 := (F1.trans (H2.mono (by decide))).trans G1
          by_cases e2 : rE (sMeet S t stage (some p) (some o) x).1 = 0
          · have hmu := mu_meet (o' := some o) hX hs e2
            have L := ih n C3 _ true _ (N + min stage 1) (by omega) (fun z => by have := hN0 z; omega) (fun z => ?_) (by omega) G2 G3 X2 G4 G5
            · simp only [↓reduceIte, if_true] at L
              exact rt_mono L (fun z C4 H4 => ⟨H4.1, H4.2.1, FF.trans H4.2.2.1, H4.2.2.2⟩)
            · have h9 := hN z
              rw [(sMeet_s (S := S) (t := t) (pl := some p) (o := some o) (x := x) z).1]
              omega
          · obtain ⟨n, rfl⟩ : ∃ m, n = m + 1 := ⟨n - 1, by omega⟩
            have e67 : ¬ cI C3 145 66 = 0 := by rw [G3.1.2.2.2.1]; exact e2
            have er2 : sReadO S t stage path o (m + 1) (some (sRk S path (rT x.1) p)) true (sMeet S t stage (some p) (some o) x) = (sMeet S t stage (some p) (some o) x, true) := by
              rw [sReadO, if_neg e2]
            rw [er2]
            have hNl2 : N + min stage 1 ≤ B * min stage 1 := by
              by_cases e0 : stage = 0
              · have := hN0 e0; omega
              · have := hN e0
                rw [show min stage 1 = 1 by omega]
                omega
            unfold lp_222_24
            by_cases c : oI (sNext (sOk S t path (some o) (rT (sMeet S t stage (some p) (some o) x).1)) (sRk S path (rT (sMeet S t stage (some p) (some o) x).1)) (some (sRk S path (rT x.1) p))) = -1
            · rw [if_pos c]; exact rt_ret ⟨rfl, G3.mono hNl2, FF, X2⟩
            · rw [if_neg c, if_pos k_145, if_pos e67]; exact rt_ret ⟨rfl, G3.mono hNl2, FF, X2⟩
        · have cq : ¬ (rT x.1).2 p (tOwn t) = othN S o (tOth t) := by simpa [isMat] using c
          have on1 : cI (uI C 145 69 (cI C 145 69 + 1)) 145 60 = nI path := by rw [d 60 (by decide)]; exact hon
          obtain ⟨C3, w5, G1, G2, G3, G4, G5⟩ := m205_go (n := n) (o := o) K1 A1 hX hpa (fun _ => ho) L1 on1 (by omega)
          simp only [↓reduceIte, lp_222_24, oI_s, em, if_false, if_true, Option.bind_some, k_145, e66, not_true, ↓bd1 w193, cq, ↓bd1 w5]
          have er : sReadO S t stage path o (m + 1 + 1) last b x = sReadO S t stage path o (m + 1) (some (sRk S path (rT x.1) p)) b x := by
            rw [sReadO, if_pos e, hs]
            dsimp only
            rw [if_neg c]
          rw [er]
          exact rt_mono (ih n C3 _ b x N (by unfold mu at *; omega) hN0 (fun z => by have := hN z; omega) (by omega) G2 G3 hX G4 G5) (fun z C4 H4 => ⟨H4.1, H4.2.1, (F1.trans G1).trans H4.2.2.1, H4.2.2.2⟩)
    · have e66 : ¬ cI C 145 66 = 0 := by rw [hF.1.2.2.2.1]; exact e
      have er : sReadO S t stage path o (m + 1 + 1) last b x = (x, b) := by
        unfold sReadO
        rw [if_neg e]
      rw [er]
      unfold lp_222_24
      by_cases c : oI (sNext (sOk S t path (some o) (rT x.1)) (sRk S path (rT x.1)) last) = -1
      · rw [if_pos c]; exact rt_ret ⟨rfl, hF.mono hNl, FrM.refl _ _, hX⟩
      · rw [if_neg c, if_pos k_145, if_pos e66]; exact rt_ret ⟨rfl, hF.mono hNl, FrM.refl _ _, hX⟩
theorem beg_fr (C : AmC) (path : Nat) : FrM 60 C (uI (uI C 145 61 0) 145 60 (nI path)) := ((FrM.refl 60 C).uF (by omega)).uF (by omega)
theorem m222 {n : Nat} {C : AmC} {h i stage path o : Nat} {S : Scr} {t : Stm} {x : RS × List Itm} (hst : stage ≤ 3) (hpa : PathOK S path) (h3 : tKd t = 3) (ho : o < (sOth S).length) (hK : MK C h S i t) (hF : MasC C S t stage (31 * o * min stage 1) x) (hX : XOK S t stage x) (hn : 9000 ≤ n) : Rt (f_222 n 145 (nI path) (nI o) (nI stage) C) (fun _ C' => MasC C' S t stage (31 * (o + 1) * min stage 1) (sFor S t stage path o x) ∧ FrM 60 C C' ∧ XOK S t stage (sFor S t stage path o x)) := by
  have hK0 := hK
  obtain ⟨⟨hP, hh, hS, hO⟩, k2, k3, k4, k5⟩ := hK
  have hl := hO.2.2.2.2.2.1
  have hc1 := hO.1
  have hcol := hO.2.1
  obtain ⟨k6, k7⟩ := k4.2.2.1 h3
  have w206 := m206 (n := n) hK0.1 ho k5.2.2.2.2.1
  have own4 := k5.2.2.2.1
  have F0 := beg_fr C path
  have w204 : f_204 n 145 (nI path) C = some ((), uI (uI C 145 61 0) 145 60 (nI path)) := by
    unfold f_204
    simp only [↓reduceIte, k_145, if_true]
  have d : ∀ f, ¬ f = 60 → ¬ f = 61 → cI (uI (uI C 145 61 0) 145 60 (nI path)) 145 f = cI C 145 f := fun f z1 z2 => by rw [r_I, if_neg (by omega), r_I, if_neg (by omega)]
  have K0 : MK (uI (uI C 145 61 0) 145 60 (nI path)) h S i t := hK0.fr F0 (by decide)
  have A0 : MasC (uI (uI C 145 61 0) 145 60 (nI path)) S t stage (31 * o * min stage 1) x := hF.of (fun f z _ => d f (by omega) (by omega)) (fun b hb => by rw [r_In hb, r_In hb])
  have L0 : LastM (uI (uI C 145 61 0) 145 60 (nI path)) S path none := by
    show cI _ 145 61 = 0
    rw [r_I, if_neg (by decide), r_I, if_pos ⟨rfl, rfl⟩]
  have on0 : cI (uI (uI C 145 61 0) 145 60 (nI path)) 145 60 = nI path := by rw [r_I, if_pos ⟨rfl, rfl⟩]
  obtain ⟨C3, w5, G1, G2, G3, G4, G5⟩ := m205_go (n := n) (o := o) K0 A0 hX hpa (fun _ => ho) L0 on0 (by omega)
  have ah := cnt_le 30 (fun p => sOk S t path (some o) (rT x.1) p && lOk none (sRk S path (rT x.1) p))
  have L := m222_in (B := 31 * o + 30) hst hpa h3 ho (by omega) 6999 n C3 none false x (31 * o * min stage 1) (by have := mu_le S t stage path (some o) none x.1; omega) (fun z => by rw [z]; simp) (fun z => by rw [show min stage 1 = 1 by omega]; unfold ahead; omega) (by omega) G2 G3 hX G4 G5
  simp only [↓reduceIte, Bool.false_eq_true, if_false] at L
  unfold f_222
  simp (disch := omega) only [↓reduceIte, if_true, if_false, Option.bind_some, k_145, ↓bd1 (w_145_34 hP), k_172, l_172, ↓bd1 (w_145_35 hP), k_173, l_173, k2, x_in, x_cl, k3, k6, k7, ↓bd1 w206, ↓bd1 w204, ↓bd1 w5]
  refine rt_bind (rt_mono L (fun z C4 H => ?_))
  obtain ⟨ez, H1, H2, H3⟩ := H
  subst ez
  dsimp only
  have FF : FrM 60 C C4 := F0.trans ((G1.mono (by decide)).trans (H2.mono (by decide)))
  have K4 := hK0.fr FF (by decide)
  have P4 := K4.1.1
  have e66 : cI C4 145 66 = rE (sReadO S t stage path o 7000 none false x).1.1 := H1.1.2.2.2.1
  have Nl : (31 * o + 30) * min stage 1 ≤ 31 * (o + 1) * min stage 1 := Nat.mul_le_mul_right _ (by omega)
  rw [if_pos k_145, e66]
  by_cases ee : rE (sReadO S t stage path o 7000 none false x).1.1 = 0
  · rw [if_neg (by simpa using ee)]
    rcases bcs (sReadO S t stage path o 7000 none false x).2 with bm | bm
    · have eb : (sReadO S t stage path o (6999 + 1) none false x).2 = false := bm
      simp only [↓reduceIte, eb, Bool.false_eq_true, if_false, not_true]
      have v0 := K4.2.2.2.1.2.2.2.2.1 0 (by decide)
      simp only [Nat.add_zero] at v0
      have i64 : 4 * i < 64 := by omega
      rcases bcs (tAdds t) with ba | ba
      · have ef : sFor S t stage path o x = (sReadO S t stage path o 7000 none false x).1 := by
          unfold sFor
          rw [if_neg (by rw [ba]; simp)]
        have vn : tNew t 0 = none := by
          unfold tAdds at ba
          cases hz : tNew t 0 with
          | none => rfl
          | some v => rw [hz] at ba; cases ba
        rw [vn] at v0
        have v0 : cI C4 177 (4 * i) = -1 := v0
        rw [bd1 (w_145_39 P4)]
        simp (disch := omega) only [k_177, l_177, if_true, K4.2.1, ↓reduceIte, n_2, n_3, n_4, n_5, n_6, n_7, n_8, n_10, n_12, n_20, n_30, n_40, n_100, n_120, n_150, n_200, n_230, n_320, n_450, n_900, x_le, x_lt, x_eq, x_lt0, x_le0, x_0le, x_0lt, x_eq0, x_eq1, x_1lt, x_le1, x_lt1, x_1le, x_eqm, x_add, x_a1, x_1a, x_a0, x_0a, x_mul, x_sub, x_s1, x_1s, x_div, x_cl, x_cl0, x_cl1, x_in, x_in0, x_in1, x_ofNat, i64, v0]
        exact rt_ret ⟨by rw [ef]; exact MasC.mono H1 Nl, FF, by rw [ef]; exact H3⟩
      · have ef : sFor S t stage path o x = sMeet S t stage none (some o) (sReadO S t stage path o 7000 none false x).1 := by
          unfold sFor
          rw [if_pos (by simp [ba, bm, ee])]
        have vs : ∃ v, tNew t 0 = some v := by
          unfold tAdds at ba
          cases hz : tNew t 0 with
          | none => rw [hz] at ba; cases ba
          | some v => exact ⟨v, rfl⟩
        obtain ⟨v, hv⟩ := vs
        rw [hv] at v0
        obtain ⟨kk, z1, z2⟩ := v0
        have z3 := z2.1
        have em : ¬ nI kk = (-1 : Int32) := by rw [x_eqm (by omega)]; exact id
        rw [bd1 (w_145_39 P4)]
        simp (disch := omega) only [k_177, l_177, if_true, if_false, K4.2.1, ↓reduceIte, n_2, n_3, n_4, n_5, n_6, n_7, n_8, n_10, n_12, n_20, n_30, n_40, n_100, n_120, n_150, n_200, n_230, n_320, n_450, n_900, x_le, x_lt, x_eq, x_lt0, x_le0, x_0le, x_0lt, x_eq0, x_eq1, x_1lt, x_le1, x_lt1, x_1le, x_eqm, x_add, x_a1, x_1a, x_a0, x_0a, x_mul, x_sub, x_s1, x_1s, x_div, x_cl, x_cl0, x_cl1, x_in, x_in0, x_in1, x_ofNat, i64, z1, em]
        have hoo : ∀ q, (some o : Option Nat) = some q → q < (sOth S).length := fun q z => by cases z; exact ho
        have hnn : isNewS t none = true → ∀ c, c < sCols S → (tNew t c).isSome = true := fun _ => new_none k5 h3 hc1 ba
        have hw : WhoOK S (rT (sReadO S t stage path o 7000 none false x).1.1) t none (some o) (nI o) := ⟨fun p z => (by cases z), fun z => absurd h3 z, fun _ => ⟨o, rfl, ho, rfl⟩⟩
        have m01 : min stage 1 = 0 ∨ min stage 1 = 1 := by omega
        have M := m219 (n := n) (N := (31 * o + 30) * min stage 1) hst hw K4 H1 ee H3.1.2 (by rcases m01 with z | z <;> rw [z] <;> omega) hnn (by omega)
        rw [show oI none = (-1 : Int32) from rfl] at M
        refine rt_bind (rt_mono M (fun _ C5 H5 => ?_))
        refine rt_ret ⟨?_, FF.trans (H5.2.mono (by decide)), ?_⟩
        · rw [ef]
          exact H5.1.mono (by rcases m01 with z | z <;> rw [z] <;> omega)
        · rw [ef]
          exact H3.meet (fun p z => by cases z) hoo hnn
    · have eb : (sReadO S t stage path o (6999 + 1) none false x).2 = true := bm
      have ne1 : ¬ (1 : Int32) = 0 := by decide
      have ef : sFor S t stage path o x = (sReadO S t stage path o 7000 none false x).1 := by
        unfold sFor
        rw [if_neg (by rw [bm]; simp)]
      simp only [↓reduceIte, eb, if_true, ne1, not_false_iff]
      exact rt_ret ⟨by rw [ef]; exact MasC.mono H1 Nl, FF, by rw [ef]; exact H3⟩
  · rw [if_pos (by simpa using ee)]
    have ef : sFor S t stage path o x = (sReadO S t stage path o 7000 none false x).1 := by
      unfold sFor
      rw [if_neg (by simp [ee])]
    exact rt_ret ⟨by rw [ef]; exact MasC.mono H1 Nl, FF, by rw [ef]; exact H3⟩
theorem m224_ot {h i stage path : Nat} {S : Scr} {t : Stm} (hst : stage ≤ 3) (hpa : PathOK S path) (h3 : tKd t = 3) : ∀ k o n C x, o + k = (sOth S).length → k + 9100 < n → MK C h S i t → MasC C S t stage (31 * o * min stage 1) x → XOK S t stage x → Rt (lp_224_45 n 145 (nI path) (nI stage) (nI o) C) (fun z C' => z = (145, nI stage) ∧ MasC C' S t stage (310 * min stage 1) (sFors S t stage path k o x) ∧ FrM 60 C C' ∧ XOK S t stage (sFors S t stage path k o x)) := by
  intro k
  induction k with
  | zero =>
    intro o n C x h1 h2 hK hF hX
    obtain ⟨n, rfl⟩ : ∃ m, n = m + 1 := ⟨n - 1, by omega⟩
    obtain ⟨⟨hP, hh, hS, hO⟩, k2, k3, k4, k5⟩ := hK
    have hl := hO.2.2.2.2.2.1
    have hb := hS.1
    have b1 : (sOth S).length ≤ o := by omega
    simp (disch := omega) only [↓reduceIte, lp_224_45, if_true, if_false, Option.bind_some, k_145, ↓bd1 (w_145_24 hP), k_162, l_162, hh, x_in, x_cl, hb, hS.2.2.2.2.2.1, x_le, b1]
    exact rt_ret ⟨rfl, hF.mono (Nat.mul_le_mul_right _ (by omega)), FrM.refl _ _, hX⟩
  | succ k ih =>
    intro o n C x h1 h2 hK hF hX
    obtain ⟨n, rfl⟩ : ∃ m, n = m + 1 := ⟨n - 1, by omega⟩
    have hK0 := hK
    obtain ⟨⟨hP, hh, hS, hO⟩, k2, k3, k4, k5⟩ := hK
    have hl := hO.2.2.2.2.2.1
    have hb := hS.1
    have b1 : ¬ (sOth S).length ≤ o := by omega
    by_cases e : rE x.1 = 0
    · have e66 : cI C 145 66 = 0 := by rw [hF.1.2.2.2.1]; exact e
      simp (disch := omega) only [↓reduceIte, lp_224_45, if_true, if_false, Option.bind_some, k_145, ↓bd1 (w_145_24 hP), k_162, l_162, hh, x_in, x_cl, hb, hS.2.2.2.2.2.1, x_le, b1, e66, not_true]
      refine rt_bind (rt_mono (m222 (n := n) hst hpa h3 (by omega) hK0 hF hX (by omega)) (fun _ C1 H => ?_))
      dsimp only
      rw [x_a1]
      have er : sFors S t stage path (k + 1) o x = sFors S t stage path k (o + 1) (sFor S t stage path o x) := by
        rw [sFors, if_pos e]
      rw [er]
      exact rt_mono (ih (o + 1) n C1 _ (by omega) (by omega) (hK0.fr H.2.1 (by decide)) H.1 H.2.2) (fun z C2 H2 => ⟨H2.1, H2.2.1, H.2.1.trans H2.2.2.1, H2.2.2.2⟩)
    · have e66 : ¬ cI C 145 66 = 0 := by rw [hF.1.2.2.2.1]; exact e
      simp (disch := omega) only [↓reduceIte, lp_224_45, if_true, if_false, Option.bind_some, k_145, ↓bd1 (w_145_24 hP), k_162, l_162, hh, x_in, x_cl, hb, hS.2.2.2.2.2.1, x_le, b1, e66, not_false_iff]
      have er : sFors S t stage path (k + 1) o x = x := by
        rw [sFors, if_neg e]
      rw [er]
      exact rt_ret ⟨rfl, hF.mono (Nat.mul_le_mul_right _ (by omega)), FrM.refl _ _, hX⟩
