/-! The class's pass reads for others. -/
def rem (S : Scr) (t : Stm) (path o : Nat) (T : Tab) (last : Option Int) : Nat := cnt 30 (fun q => sOk S t path (some o) T q && lOk last (sRk S path T q) && isMat S t o T q)
theorem sReadO_s {S : Scr} {t : Stm} {stage path o : Nat} (hs : ¬ stage = 0) : ∀ m last b x, rT (sReadO S t stage path o m last b x).1.1 = rT x.1 ∧ (tCh t = 2 → (sReadO S t stage path o m last b x).1.2 = x.2) ∧ (sReadO S t stage path o m last b x).1.2.length ≤ x.2.length + rem S t path o (rT x.1) last := by
  intro m
  induction m with
  | zero => intro last b x; exact ⟨rfl, fun _ => rfl, Nat.le_add_right _ _⟩
  | succ m ih =>
    intro last b x
    unfold sReadO
    by_cases e : rE x.1 = 0
    · rw [if_pos e]
      cases hn : sNext (sOk S t path (some o) (rT x.1)) (sRk S path (rT x.1)) last with
      | none => exact ⟨rfl, fun _ => rfl, Nat.le_add_right _ _⟩
      | some p =>
        dsimp only
        by_cases c : isMat S t o (rT x.1) p = true
        · rw [if_pos c]
          obtain ⟨y1, y2, y3, y4⟩ := sMeet_s (S := S) (t := t) (pl := some p) (o := some o) (x := x) hs
          obtain ⟨h1, h2, h3⟩ := ih (some (sRk S path (rT x.1) p)) true (sMeet S t stage (some p) (some o) x)
          have hl := ahead_lt2 (g := isMat S t o (rT x.1)) hn c
          rw [y1] at h1 h3
          refine ⟨h1, fun z => ?_, ?_⟩
          · rw [h2 z]
            have k : isKpt t (some p) = true := by simp [isKpt, z]
            unfold sMeet
            rw [if_pos k]
          · unfold rem at *
            rcases y4 with y4 | ⟨mk, y4, _⟩
            · rw [y4] at h3; omega
            · rw [y4] at h3
              simp only [List.length_append, List.length_cons, List.length_nil] at h3
              omega
        · rw [if_neg c]
          obtain ⟨h1, h2, h3⟩ := ih (some (sRk S path (rT x.1) p)) b x
          have hl := ahead_le2 (g := isMat S t o (rT x.1)) hn
          exact ⟨h1, h2, by unfold rem at *; omega⟩
    · rw [if_neg e]
      exact ⟨rfl, fun _ => rfl, Nat.le_add_right _ _⟩
/-- how long the spool may be while others are read -/
def lenO (S : Scr) (t : Stm) (path o : Nat) (last : Option Int) (x : RS × List Itm) : Prop := if tCh t = 2 then x.2.length < 40 else x.2.length + rem S t path o (rT x.1) last ≤ 40
def nxL (rk : Nat → Int) (last : Option Int) (b : Option Nat) : Option Int := match b with
  | none => last
  | some p => some (rk p)
theorem rdC_cur2 {C : AmC} {a : Nat} {S : Scr} {path : Nat} {T : Tab} {R : Int32 → Bool} {last : Option Int} (b : Option Nat) (h : CurC C a S path R last) : CurC (rdC C a S path T b) a S path R (nxL (sRk S path T) last b) := by
  cases b with
  | none => exact h
  | some p => exact rdC_cur h
theorem okC_eqO {S : Scr} {t : Stm} {path o : Nat} {T : Tab} (p : Nat) : okC S path (rgX S (some t) path (some o)) T p = sOk S t path (some o) T p := rfl
theorem c52_in {a s st stage path o : Nat} {S : Scr} {t : Stm} (hst : stage ≤ 3) (hpa : PathOK S path) (h3 : tKd t = 3) (ho : o < (sOth S).length) : ∀ m q n C last b x, mu S t stage path (some o) last x.1 ≤ m → (¬ stage = 0 → lenO S t path o last x) → q + m ≤ 90000 → m + 1400 < n → PK C a s st S t → PasC C a S t stage x → XOK S t stage x → CurC C (a + 3) S path (rgX S (some t) path (some o)) (nxL (sRk S path (rT x.1)) last (sNext (sOk S t path (some o) (rT x.1)) (sRk S path (rT x.1)) last)) → Rt (lp_52_37 n a (nI path) (nI o) (othN S o (tOth t)) (if b = true then 1 else 0) (oI (sNext (sOk S t path (some o) (rT x.1)) (sRk S path (rT x.1)) last)) (nI q) C) (fun z C' => z = (a, nI path, nI o, if (sReadO S t stage path o (m + 1) last b x).2 = true then 1 else 0) ∧ PasC C' a S t stage (sReadO S t stage path o (m + 1) last b x).1 ∧ Fr (PY a) C C' ∧ XOK S t stage (sReadO S t stage path o (m + 1) last b x).1) := by
  intro m
  induction m with
  | zero =>
    intro q n C last b x hm hlen hq hn hK hF hX hC
    obtain ⟨n, rfl⟩ : ∃ m, n = m + 1 := ⟨n - 1, by omega⟩
    have k3 := pa_of hK.1 hK.2.1
    have b1 : ¬ 100000 ≤ q := by omega
    by_cases e : rE x.1 = 0
    · have e11 : cI C a 11 = 0 := by rw [hF.1.2.2.2.1]; exact e
      cases hs : sNext (sOk S t path (some o) (rT x.1)) (sRk S path (rT x.1)) last with
      | some p =>
        exfalso
        have := ahead_lt hs
        unfold mu at hm
        omega
      | none =>
        simp (disch := omega) only [↓reduceIte, lp_52_37, n_100000, x_le, b1, k3.k, if_true, if_false, e11, not_true, oI_n]
        have er : sReadO S t stage path o 1 last b x = (x, b) := by
          unfold sReadO
          rw [if_pos e, hs]
        rw [er]
        exact rt_ret ⟨rfl, hF, Fr.refl _ _, hX⟩
    · have e11 : ¬ cI C a 11 = 0 := by rw [hF.1.2.2.2.1]; exact e
      simp (disch := omega) only [↓reduceIte, lp_52_37, n_100000, x_le, b1, k3.k, if_true, if_false, e11, not_false_iff]
      have er : sReadO S t stage path o 1 last b x = (x, b) := by
        unfold sReadO
        rw [if_neg e]
      rw [er]
      exact rt_ret ⟨rfl, hF, Fr.refl _ _, hX⟩
  | succ m ih =>
    intro q n C last b x hm hlen hq hn hK hF hX hC
    obtain ⟨n, rfl⟩ : ∃ m, n = m + 1 := ⟨n - 1, by omega⟩
    have hK0 := hK
    obtain ⟨hP, g2, g3, g4, g5, g6, g7, g8, g9, g10⟩ := hK
    have k3 := pa_of hP g2
    have kt := st_of hP g4
    obtain ⟨a1, a2⟩ := pas_ge g2
    have b1 : ¬ 100000 ≤ q := by omega
    have hcol := g8.2.1
    have hown := g10.2.2.2.1
    by_cases e : rE x.1 = 0
    · have e11 : cI C a 11 = 0 := by rw [hF.1.2.2.2.1]; exact e
      cases hs : sNext (sOk S t path (some o) (rT x.1)) (sRk S path (rT x.1)) last with
      | none =>
        simp (disch := omega) only [↓reduceIte, lp_52_37, n_100000, x_le, b1, k3.k, if_true, if_false, e11, not_true, oI_n]
        have er : sReadO S t stage path o (m + 1 + 1) last b x = (x, b) := by
          unfold sReadO
          rw [if_pos e, hs]
        rw [er]
        exact rt_ret ⟨rfl, hF, Fr.refl _ _, hX⟩
      | some p =>
        rw [hs] at hC
        obtain ⟨hp30, hok⟩ := sNext_ok hs
        have tp : (rT x.1).1 p = true := by
          unfold sOk at hok
          simp only [Bool.and_eq_true] at hok
          exact hok.1
        have em : ¬ nI p = (-1 : Int32) := by rw [x_eqm (by omega)]; exact id
        have bd := sRk_bd g8 hX.1.1 hpa hp30 tp
        have hal := ahead_lt hs
        have w76 : f_76 n (a + 1) (nI p) (nI (tOwn t)) C = some ((rT x.1).2 p (tOwn t), C) := by
          rw [rg_eq (rw_of hP k3.rw) hF.1.1 hp30 hown hcol]
          simp [tg, tp]
        have hC1 : CurC C (a + 3) S path (rgX S (some t) path (some o)) (some (sRk S path (rT x.1) p)) := hC
        by_cases c : isMat S t o (rT x.1) p = true
        · have cq : (rT x.1).2 p (tOwn t) = othN S o (tOth t) := by simpa [isMat] using c
          rw [cq] at w76
          simp (disch := omega) only [↓reduceIte, lp_52_37, n_100000, x_le, b1, k3.k, if_true, if_false, e11, not_true, oI_s, em, ↓bd1 k3.p0, ↓bd1 g6, kt.1, g9.2.2.2.1, (rw_of hP k3.rw).1, w76, Option.bind_some]
          have hpp : ∀ p', (some p : Option Nat) = some p' → p' < 30 ∧ (rT x.1).1 p' = true := fun p' z => by cases z; exact ⟨hp30, tp⟩
          have hoo : ∀ q, (some o : Option Nat) = some q → q < (sOth S).length := fun q z => by cases z; exact ho
          have rl := ahead_lt2 (g := isMat S t o (rT x.1)) hs c
          have hlen40 : stage ≠ 0 → x.2.length < 40 := fun z => by
            have := hlen z
            unfold lenO at this
            split at this
            · exact this
            · unfold rem at this; omega
          have M := c53 (n := n) (pl := some p) (o := some o) hst hpp hoo hK0 hF e hX.1.2 hlen40 hX.2.1 (new_some g10 p) (by omega)
          simp only [oI_s] at M
          refine rt_bind (rt_mono M (fun _ C2 H => ?_))
          obtain ⟨H1, H2⟩ := H
          have hX2 := hX.meet (o := some o) hpp hoo (new_some g10 p)
          have er : sReadO S t stage path o (m + 1 + 1) last b x = sReadO S t stage path o (m + 1) (some (sRk S path (rT x.1) p)) true (sMeet S t stage (some p) (some o) x) := by
            rw [sReadO, if_pos e, hs]
            dsimp only
            rw [if_pos c]
          rw [er]
          have hC2 : CurC C2 (a + 3) S path (rgX S (some t) path (some o)) (some (sRk S path (rT x.1) p)) := hC1.of (H2.2.1 _ (by unfold PX; omega)) (H2.2.2 _ (by unfold PX; omega))
          have hK2 := hK0.fr H2 (fun b hb => by have := PY_ge g2 b (Or.inl hb); omega)
          have k4 := pa_of hK2.1 g2
          have w5 := c5 (n := n) k4.kc (rw_of hK2.1 k4.rw) H1.1.1 g8 hX2.1.1 hpa hC2 (fun y hy => by cases hy; exact bd) (by omega)
          have eo : okC S path (rgX S (some t) path (some o)) (rT (sMeet S t stage (some p) (some o) x).1) = sOk S t path (some o) (rT (sMeet S t stage (some p) (some o) x).1) := rfl
          rw [eo] at w5
          dsimp only
          rw [bd1 k4.p1, bd1 k4.p0, if_pos k4.kc, bd1 w5]
          dsimp only
          have F3 := rdC_fr C2 (a + 3) S path (rT (sMeet S t stage (some p) (some o) x).1) (sNext (sOk S t path (some o) (rT (sMeet S t stage (some p) (some o) x).1)) (sRk S path (rT (sMeet S t stage (some p) (some o) x).1)) (some (sRk S path (rT x.1) p)))
          have hK3 := hK2.fr F3 (fun b hb => by omega)
          have H13 : PasC (rdC C2 (a + 3) S path (rT (sMeet S t stage (some p) (some o) x).1) (sNext (sOk S t path (some o) (rT (sMeet S t stage (some p) (some o) x).1)) (sRk S path (rT (sMeet S t stage (some p) (some o) x).1)) (some (sRk S path (rT x.1) p)))) a S t stage (sMeet S t stage (some p) (some o) x) := H1.of (rdC_cI _ _ _ _ _ _)
          have FF : Fr (PY a) C _ := (H2.mono (fun b hb => Or.inl hb)).trans (F3.mono (fun b hb => Or.inr hb))
          by_cases e2 : rE (sMeet S t stage (some p) (some o) x).1 = 0
          · have hmu := mu_meet (o' := some o) hX hs e2
            have L := ih (q + 1) n _ (some (sRk S path (rT x.1) p)) true (sMeet S t stage (some p) (some o) x) (by omega) (fun z => ?_) (by omega) (by omega) hK3 H13 hX2 (rdC_cur2 _ hC2)
            · simp only [↓reduceIte, if_true] at L
              rw [x_a1]
              exact rt_mono L (fun z C3 H3 => ⟨H3.1, H3.2.1, FF.trans H3.2.2.1, H3.2.2.2⟩)
            · have h9 := hlen z
              obtain ⟨y1, y2, y3, y4⟩ := sMeet_s (S := S) (t := t) (pl := some p) (o := some o) (x := x) z
              unfold lenO at *
              rw [y1]
              by_cases kp : tCh t = 2
              · rw [if_pos kp] at h9 ⊢
                rcases y4 with y4 | ⟨mk, _, y5, _⟩
                · rw [y4]; exact h9
                · simp [isKpt, kp] at y5
              · rw [if_neg kp] at h9 ⊢
                unfold rem at *
                rcases y4 with y4 | ⟨mk, y4, _⟩
                · rw [y4]; omega
                · rw [y4]
                  simp only [List.length_append, List.length_cons, List.length_nil]
                  omega
          · obtain ⟨n, rfl⟩ : ∃ m, n = m + 1 := ⟨n - 1, by omega⟩
            have e12 : ¬ cI (rdC C2 (a + 3) S path (rT (sMeet S t stage (some p) (some o) x).1) (sNext (sOk S t path (some o) (rT (sMeet S t stage (some p) (some o) x).1)) (sRk S path (rT (sMeet S t stage (some p) (some o) x).1)) (some (sRk S path (rT x.1) p)))) a 11 = 0 := by rw [H13.1.2.2.2.1]; exact e2
            have b2 : ¬ 100000 ≤ q + 1 := by omega
            rw [x_a1]
            simp (disch := omega) only [↓reduceIte, lp_52_37, n_100000, x_le, b2, k3.k, if_true, if_false, e12, not_false_iff]
            have er2 : sReadO S t stage path o (m + 1) (some (sRk S path (rT x.1) p)) true (sMeet S t stage (some p) (some o) x) = (sMeet S t stage (some p) (some o) x, true) := by
              rw [sReadO, if_neg e2]
            rw [er2]
            exact rt_ret ⟨rfl, H13, FF, hX2⟩
        · have cq : ¬ (rT x.1).2 p (tOwn t) = othN S o (tOth t) := by simpa [isMat] using c
          have w5 := c5 (n := n) k3.kc (rw_of hP k3.rw) hF.1.1 g8 hX.1.1 hpa hC1 (fun y hy => by cases hy; exact bd) (by omega)
          have eo : okC S path (rgX S (some t) path (some o)) (rT x.1) = sOk S t path (some o) (rT x.1) := rfl
          rw [eo] at w5
          simp (disch := omega) only [↓reduceIte, lp_52_37, n_100000, x_le, b1, k3.k, if_true, if_false, e11, not_true, not_false_iff, oI_s, em, ↓bd1 k3.p0, ↓bd1 g6, kt.1, g9.2.2.2.1, (rw_of hP k3.rw).1, w76, Option.bind_some, cq, ↓bd1 k3.p1, k3.kc, ↓bd1 w5, x_a1]
          have er : sReadO S t stage path o (m + 1 + 1) last b x = sReadO S t stage path o (m + 1) (some (sRk S path (rT x.1) p)) b x := by
            rw [sReadO, if_pos e, hs]
            dsimp only
            rw [if_neg c]
          rw [er]
          have F3 := rdC_fr C (a + 3) S path (rT x.1) (sNext (sOk S t path (some o) (rT x.1)) (sRk S path (rT x.1)) (some (sRk S path (rT x.1) p)))
          have hK3 := hK0.fr F3 (fun b hb => by omega)
          have hF3 : PasC (rdC C (a + 3) S path (rT x.1) (sNext (sOk S t path (some o) (rT x.1)) (sRk S path (rT x.1)) (some (sRk S path (rT x.1) p)))) a S t stage x := hF.of (rdC_cI _ _ _ _ _ _)
          have rl := ahead_le2 (g := isMat S t o (rT x.1)) hs
          refine rt_mono (ih (q + 1) n _ (some (sRk S path (rT x.1) p)) b x (by unfold mu at *; omega) (fun z => ?_) (by omega) (by omega) hK3 hF3 hX (rdC_cur2 _ hC1)) (fun z C3 H3 => ⟨H3.1, H3.2.1, (F3.mono (fun b hb => Or.inr hb)).trans H3.2.2.1, H3.2.2.2⟩)
          have h9 := hlen z
          unfold lenO rem at *
          split at h9
          · rename_i kp; rw [if_pos kp]; exact h9
          · rename_i kp; rw [if_neg kp]; omega
    · have e11 : ¬ cI C a 11 = 0 := by rw [hF.1.2.2.2.1]; exact e
      simp (disch := omega) only [↓reduceIte, lp_52_37, n_100000, x_le, b1, k3.k, if_true, if_false, e11, not_false_iff]
      have er : sReadO S t stage path o (m + 1 + 1) last b x = (x, b) := by
        unfold sReadO
        rw [if_neg e]
      rw [er]
      exact rt_ret ⟨rfl, hF, Fr.refl _ _, hX⟩
