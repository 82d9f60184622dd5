/-! The reference's run: reading. -/
theorem MasC.mono {C : AmC} {S : Scr} {t : Stm} {stage N N' : Nat} {x : RS × List Itm} (h : MasC C S t stage N x) (e : N ≤ N') : MasC C S t stage N' x := ⟨h.1, fun z => by
  obtain ⟨h1, h2, L, h3, h4, h5, h6⟩ := h.2 z
  exact ⟨h1, h2, L, h3, h4, by omega, h6⟩⟩
theorem MasC.of {C C1 : AmC} {S : Scr} {t : Stm} {stage N : Nat} {x : RS × List Itm} (h : MasC C S t stage N x) (e0 : ∀ f, 65 ≤ f → ¬ f = 69 → cI C1 145 f = cI C 145 f) (e : ∀ b, ¬ b = 145 → cI C1 b = cI C b) : MasC C1 S t stage N x := ⟨h.1.of (fun f h1 h2 => e0 f h1 (by omega)) (fun b hb => e b (by omega)), fun z => by
  obtain ⟨h1, h2, L, h3, h4, h5, h6⟩ := h.2 z
  exact ⟨h1, h2, L, h3.of (e0 80 (by decide) (by decide)) (fun b z1 z2 => e b (by omega)), h4, h5, h6⟩⟩
theorem rdM_fr (C : AmC) (S : Scr) (path : Nat) (T : Tab) (b : Option Nat) : FrM 61 C (rdM C S path T b) ∧ (∀ c, ¬ c = 145 → cI (rdM C S path T b) c = cI C c) ∧ ∀ f, 65 ≤ f ∨ f = 59 ∨ f = 60 → cI (rdM C S path T b) 145 f = cI C 145 f := by
  cases b with
  | none => exact ⟨FrM.refl _ _, fun _ _ => rfl, fun _ _ => rfl⟩
  | some p =>
    refine ⟨((((FrM.refl 61 C).uF (by omega)).uF (by omega)).uF (by omega)).uF (by omega), fun c hc => ?_, fun f hf => ?_⟩
    · show cI (uI (uI (uI (uI C 145 61 1) 145 62 _) 145 63 _) 145 64 _) c = _
      rw [r_In hc, r_In hc, r_In hc, r_In hc]
    · show cI (uI (uI (uI (uI C 145 61 1) 145 62 _) 145 63 _) 145 64 _) 145 f = _
      rw [r_I, if_neg (by omega), r_I, if_neg (by omega), r_I, if_neg (by omega), r_I, if_neg (by omega)]
theorem rdM_last {C : AmC} {S : Scr} {path p : Nat} {T : Tab} (hO : ScrOK S) (hN : TabN (sCols S) T) (hpa : PathOK S path) (hp : p < 30) (tp : T.1 p = true) : LastM (rdM C S path T (some p)) S path (some (sRk S path T p)) := by
  have a62 : cI (rdM C S path T (some p)) 145 62 = pX S path T p := by
    show cI (uI (uI (uI (uI C 145 61 1) 145 62 _) 145 63 _) 145 64 _) 145 62 = _
    rw [r_I, if_neg (by decide), r_I, if_neg (by decide), r_I, if_pos ⟨rfl, rfl⟩]
  have a63 : cI (rdM C S path T (some p)) 145 63 = pY S path T p := by
    show cI (uI (uI (uI (uI C 145 61 1) 145 62 _) 145 63 _) 145 64 _) 145 63 = _
    rw [r_I, if_neg (by decide), r_I, if_pos ⟨rfl, rfl⟩]
  have a64 : cI (rdM C S path T (some p)) 145 64 = nI p := by
    show cI (uI (uI (uI (uI C 145 61 1) 145 62 _) 145 63 _) 145 64 _) 145 64 = _
    rw [r_I, if_pos ⟨rfl, rfl⟩]
  have a61 : cI (rdM C S path T (some p)) 145 61 = 1 := by
    show cI (uI (uI (uI (uI C 145 61 1) 145 62 _) 145 63 _) 145 64 _) 145 61 = _
    rw [r_I, if_neg (by decide), r_I, if_neg (by decide), r_I, if_neg (by decide), r_I, if_pos ⟨rfl, rfl⟩]
  refine ⟨a61, p, hp, a64, by rw [a62]; exact okX hO hN hpa hp tp, by rw [a63]; exact okY hO hN hpa hp tp, fun z => ⟨by rw [a62]; simp [pX, z], by rw [a63]; simp [pY, z]⟩, fun z => by rw [a63]; exact secY z, ?_⟩
  rw [a62, a63]
  rfl
theorem LastM.of {C C1 : AmC} {S : Scr} {path : Nat} {last : Option Int} (h : LastM C S path last) (e : ∀ f, 61 ≤ f → f ≤ 64 → cI C1 145 f = cI C 145 f) : LastM C1 S path last := by
  cases last with
  | none => exact (e 61 (by omega) (by omega)).trans h
  | some y =>
    unfold LastM at *
    rw [e 61 (by omega) (by omega), e 62 (by omega) (by omega), e 63 (by omega) (by omega), e 64 (by omega) (by omega)]
    exact h
theorem rdM_last2 {C : AmC} {S : Scr} {path : Nat} {T : Tab} {last : Option Int} {ok : Nat → Bool} (hO : ScrOK S) (hN : TabN (sCols S) T) (hpa : PathOK S path) (hok : ∀ p, ok p = true → T.1 p = true) (hL : LastM C S path last) : LastM (rdM C S path T (sNext ok (sRk S path T) last)) S path (nxL (sRk S path T) last (sNext ok (sRk S path T) last)) := by
  cases hs : sNext ok (sRk S path T) last with
  | none => exact hL
  | some p =>
    obtain ⟨h1, h2⟩ := sNext_ok hs
    exact rdM_last hO hN hpa h1 (hok p h2)
theorem MK.run {C : AmC} {h i : Nat} {S : Scr} {t : Stm} (k : MK C h S i t) : RunM C S (some t) := ⟨i, k.2.2.1, k.2.1, k.2.2.2.1, k.2.2.2.2⟩
theorem sOk_has {S : Scr} {t : Stm} {path : Nat} {o : Option Nat} {T : Tab} : ∀ p, sOk S t path o T p = true → T.1 p = true := fun p h => by
  unfold sOk at h
  simp only [Bool.and_eq_true] at h
  exact h.1
/-- a read of the reference that goes on -/
theorem m205_go {n : Nat} {C : AmC} {h i path o stage N : Nat} {S : Scr} {t : Stm} {x : RS × List Itm} {last : Option Int} (hK : MK C h S i t) (hF : MasC C S t stage N x) (hX : XOK S t stage x) (hpa : PathOK S path) (ho : tKd t = 3 → o < (sOth S).length) (hL : LastM C S path last) (hon : cI C 145 60 = nI path) (hn : 600 ≤ n) : ∃ C1, f_205 n 145 (nI o) C = some (oI (sNext (sOk S t path (some o) (rT x.1)) (sRk S path (rT x.1)) last), C1) ∧ FrM 61 C C1 ∧ MK C1 h S i t ∧ MasC C1 S t stage N x ∧ cI C1 145 60 = nI path ∧ LastM C1 S path (nxL (sRk S path (rT x.1)) last (sNext (sOk S t path (some o) (rT x.1)) (sRk S path (rT x.1)) last)) := by
  have w := m205 (n := n) (o := o) hK.1 hF.1.1 hX.1.1 hpa hK.run (fun z => by obtain ⟨t', e, h3⟩ := z; cases e; exact ho h3) hL hon (by omega)
  obtain ⟨R1, R2, R3⟩ := rdM_fr C S path (rT x.1) (sNext (sOk S t path (some o) (rT x.1)) (sRk S path (rT x.1)) last)
  refine ⟨_, w, R1, ?_, hF.of (fun f h1 _ => R3 f (Or.inl h1)) R2, (R3 60 (by omega)).trans hon, rdM_last2 hK.1.2.2.2 hX.1.1 hpa sOk_has hL⟩
  exact hK.fr R1 (by decide)
theorem m224_rd {h i stage path : Nat} {S : Scr} {t : Stm} (hst : stage ≤ 3) (hpa : PathOK S path) (h3 : ¬ tKd t = 3) : ∀ m n C last x N, mu S t stage path (some 0) last x.1 ≤ m → (stage = 0 → N = 0) → (¬ stage = 0 → N + ahead (sOk S t path (some 0) (rT x.1)) (sRk S path (rT x.1)) last ≤ 300) → m + 1600 < n → MK C h S i t → MasC C S t stage N x → XOK S t stage x → cI C 145 60 = nI path → LastM C S path (nxL (sRk S path (rT x.1)) last (sNext (sOk S t path (some 0) (rT x.1)) (sRk S path (rT x.1)) last)) → Rt (lp_224_70 n 145 (nI stage) (oI (sNext (sOk S t path (some 0) (rT x.1)) (sRk S path (rT x.1)) last)) C) (fun z C' => z = (145, nI stage) ∧ MasC C' S t stage (310 * min stage 1) (sRead S t stage path (m + 1) last x) ∧ FrM 61 C C' ∧ XOK S t stage (sRead S t stage path (m + 1) last x)) := by
  intro m
  induction m with
  | zero =>
    intro n C last x N hm hN0 hN hn hK hF hX hon hL
    obtain ⟨n, rfl⟩ : ∃ m, n = m + 1 := ⟨n - 1, by omega⟩
    have hNl : N ≤ 310 * min stage 1 := by
      by_cases e : stage = 0
      · have := hN0 e; omega
      · have := hN e; omega
    by_cases e : rE x.1 = 0
    · cases hs : sNext (sOk S t path (some 0) (rT x.1)) (sRk S path (rT x.1)) last with
      | some p =>
        exfalso
        have := ahead_lt hs
        unfold mu at hm
        omega
      | none =>
        simp only [↓reduceIte, lp_224_70, oI_n, if_true]
        have er : sRead S t stage path 1 last x = x := by
          unfold sRead
          rw [if_pos e, hs]
        rw [er]
        exact rt_ret ⟨rfl, hF.mono hNl, FrM.refl _ _, hX⟩
    · have e66 : ¬ cI C 145 66 = 0 := by rw [hF.1.2.2.2.1]; exact e
      have er : sRead S t stage path 1 last x = x := by
        unfold sRead
        rw [if_neg e]
      rw [er]
      unfold lp_224_70
      by_cases c : oI (sNext (sOk S t path (some 0) (rT x.1)) (sRk S path (rT x.1)) last) = -1
      · rw [if_pos c]; exact rt_ret ⟨rfl, hF.mono hNl, FrM.refl _ _, hX⟩
      · rw [if_neg c, if_pos k_145, if_pos e66]; exact rt_ret ⟨rfl, hF.mono hNl, FrM.refl _ _, hX⟩
  | succ m ih =>
    intro n C last x N hm hN0 hN hn hK hF hX hon hL
    obtain ⟨n, rfl⟩ : ∃ m, n = m + 1 := ⟨n - 1, by omega⟩
    have hNl : N ≤ 310 * min stage 1 := by
      by_cases e : stage = 0
      · have := hN0 e; omega
      · have := hN e; omega
    by_cases e : rE x.1 = 0
    · cases hs : sNext (sOk S t path (some 0) (rT x.1)) (sRk S path (rT x.1)) last with
      | none =>
        simp only [↓reduceIte, lp_224_70, oI_n, if_true]
        have er : sRead S t stage path (m + 1 + 1) last x = x := by
          unfold sRead
          rw [if_pos e, hs]
        rw [er]
        exact rt_ret ⟨rfl, hF.mono hNl, FrM.refl _ _, hX⟩
      | some p =>
        rw [hs] at hL
        obtain ⟨hp30, hok⟩ := sNext_ok hs
        have tp := sOk_has p hok
        have em : ¬ nI p = (-1 : Int32) := by rw [x_eqm (by omega)]; exact id
        have e66 : cI C 145 66 = 0 := by rw [hF.1.2.2.2.1]; exact e
        have hal := ahead_lt hs
        simp only [↓reduceIte, lp_224_70, oI_s, em, if_false, if_true, Option.bind_some, k_145, e66, not_true]
        have d : ∀ f, ¬ f = 69 → cI (uI C 145 69 (cI C 145 69 + 1)) 145 f = cI C 145 f := fun f hf => by rw [r_I, if_neg (by omega)]
        have F1 : FrM 61 C (uI C 145 69 (cI C 145 69 + 1)) := (FrM.refl 61 C).uF (by omega)
        have K1 := hK.fr F1 (by decide)
        have A1 : MasC (uI C 145 69 (cI C 145 69 + 1)) S t stage N x := hF.of (fun f _ z => d f z) (fun b hb => r_In hb)
        have L1 : LastM (uI C 145 69 (cI C 145 69 + 1)) S path (some (sRk S path (rT x.1) p)) := LastM.of hL (fun f z1 z2 => d f (by omega))
        generalize uI C 145 69 (cI C 145 69 + 1) = C1 at F1 K1 A1 L1
        have hw : WhoOK S (rT x.1) t (some p) none 0 := ⟨fun p' z => by cases z; exact ⟨hp30, tp⟩, fun _ => rfl, fun z => absurd z h3⟩
        have hNN : N < 320 := by
          by_cases e0 : stage = 0
          · have := hN0 e0; omega
          · have := hN e0; omega
        have M := m219 (n := n) hst hw K1 A1 e hX.1.2 hNN (new_some hK.2.2.2.2 p) (by omega)
        rw [show oI (some p) = nI p from rfl] at M
        refine rt_bind (rt_mono M (fun _ C2 H => ?_))
        obtain ⟨H1, H2⟩ := H
        have K2 := K1.fr H2 (by decide)
        have hpp : ∀ p', (some p : Option Nat) = some p' → p' < 30 ∧ (rT x.1).1 p' = true := fun p' z => by cases z; exact ⟨hp30, tp⟩
        have X2 := hX.meet (o := none) hpp (fun _ z => by cases z) (new_some hK.2.2.2.2 p)
        have L2 : LastM C2 S path (some (sRk S path (rT x.1) p)) := L1.of (fun f z1 z2 => H2.2.2.2 f (by omega))
        have on2 : cI C2 145 60 = nI path := by rw [H2.2.2.2 60 (by omega), F1.2.2.2 60 (by omega)]; exact hon
        obtain ⟨C3, w5, G1, G2, G3, G4, G5⟩ := m205_go (n := n) (o := 0) K2 H1 X2 hpa (fun z => absurd z h3) L2 on2 (by omega)
        rw [x_0] at w5
        dsimp only
        rw [bd1 w5]
        dsimp only
        have er : sRead S t stage path (m + 1 + 1) last x = sRead S t stage path (m + 1) (some (sRk S path (rT x.1) p)) (sMeet S t stage (some p) none x) := by
          rw [sRead, if_pos e, hs]
        rw [er]
        have FF : FrM 61 C C3 := (F1.trans (H2.mono (by decide))).trans G1
        by_cases e2 : rE (sMeet S t stage (some p) none x).1 = 0
        · have hmu := mu_meet (o' := none) hX hs e2
          refine rt_mono (ih n C3 _ _ (N + min stage 1) (by omega) (fun z => by have := hN0 z; omega) (fun z => ?_) (by omega) G2 G3 X2 G4 G5) (fun z C4 H4 => ⟨H4.1, H4.2.1, FF.trans H4.2.2.1, H4.2.2.2⟩)
          have h9 := hN z
          rw [(sMeet_s (S := S) (t := t) (pl := some p) (o := none) (x := x) z).1]
          omega
        · obtain ⟨n, rfl⟩ : ∃ m, n = m + 1 := ⟨n - 1, by omega⟩
          have e67 : ¬ cI C3 145 66 = 0 := by rw [G3.1.2.2.2.1]; exact e2
          have er2 : sRead S t stage path (m + 1) (some (sRk S path (rT x.1) p)) (sMeet S t stage (some p) none x) = sMeet S t stage (some p) none x := by
            rw [sRead, if_neg e2]
          rw [er2]
          have hNl2 : N + min stage 1 ≤ 310 * min stage 1 := by
            by_cases e0 : stage = 0
            · have := hN0 e0; omega
            · have := hN e0; omega
          unfold lp_224_70
          by_cases c : oI (sNext (sOk S t path (some 0) (rT (sMeet S t stage (some p) none x).1)) (sRk S path (rT (sMeet S t stage (some p) none x).1)) (some (sRk S path (rT x.1) p))) = -1
          · rw [if_pos c]; exact rt_ret ⟨rfl, G3.mono hNl2, FF, X2⟩
          · rw [if_neg c, if_pos k_145, if_pos e67]; exact rt_ret ⟨rfl, G3.mono hNl2, FF, X2⟩
    · have e66 : ¬ cI C 145 66 = 0 := by rw [hF.1.2.2.2.1]; exact e
      have er : sRead S t stage path (m + 1 + 1) last x = x := by
        unfold sRead
        rw [if_neg e]
      rw [er]
      unfold lp_224_70
      by_cases c : oI (sNext (sOk S t path (some 0) (rT x.1)) (sRk S path (rT x.1)) last) = -1
      · rw [if_pos c]; exact rt_ret ⟨rfl, hF.mono hNl, FrM.refl _ _, hX⟩
      · rw [if_neg c, if_pos k_145, if_pos e66]; exact rt_ret ⟨rfl, hF.mono hNl, FrM.refl _ _, hX⟩
