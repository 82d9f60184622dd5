/-! clashes (reference). -/
section
variable {n : Nat} {C C' : AmC} {s h : Nat} {B : Big} {S : Scr}
theorem m262 {t : Stm} {e : Ent} {i : Nat} {W : Tab} (hP : PInv C) (h4 : sCols S ≤ 4) (hi : i < 200) (hL : LgM C S t i e) (hx : wp t e i < 230) (hg : goneS t e.1 = (!isNewS t e.1 && decide (tCh t = 1))) (hW : TabM 230 (sCols S) C 193 0 W) (hp : isNewS t e.1 = false → W.1 (wp t e i) = true) (hnew : isNewS t e.1 = true → ∀ c, c < sCols S → (tNew t c).isSome = true) (hn : 20 ≤ n) : Rt (f_262 n 145 (nI i) C) (fun _ C' => TabM 230 (sCols S) C' 193 0 (sPut W t e.1 (wp t e i) e.2.2) ∧ FrV C C' ∧ (∀ k, ¬ (k = wp t e i ∨ (230 + 4 * wp t e i ≤ k ∧ k < 230 + 4 * wp t e i + 4)) → cI C' 193 k = cI C 193 k) ∧ cI C' 194 0 = cI C 193 (wp t e i) ∧ (∀ d, d < 4 → cI C' 194 (1 + d) = cI C 193 (230 + 4 * wp t e i + d)) ∧ ∀ b, 195 ≤ b → cI C' b = cI C b) := by
  have w1 := m261 (n := n) hP hL hi hg
  have l2 := hL.2.1
  generalize hX : wp t e i = x at w1 hx hp ⊢
  have x1 : x < 1150 := by omega
  have a0 : amIn (0 : Int32) (aLen 194) = true := by decide
  have t0 : Int32.toNatClampNeg (0 : Int32) = 0 := by decide
  have P1 : PInv (uI C 194 0 (cI C 193 x)) := hP.of rfl
  have L1 : LgM (uI C 194 0 (cI C 193 x)) S t i e := by
    unfold LgM
    rw [r_In (by decide), r_In (by decide), r_In (by decide), r_In (by decide)]
    exact hL
  have LP := m262_lp (S := S) (t := t) (e := e) (i := i) (x := x) hi hx hg 4 0 n (uI C 194 0 (cI C 193 x)) rfl (by omega) P1 L1
  rw [x_0] at LP
  unfold f_262
  rw [if_pos k_145, bd1 w1]
  dsimp only
  rw [bd1 (w_145_85 hP), bd1 (w_145_84 hP), if_pos k_193, l_193, if_pos ((x_in (by omega)).mpr x1), if_pos k_194, if_pos a0, t0, x_cl (by omega)]
  refine rt_bind (rt_mono LP (fun _ C1 H => ?_))
  obtain ⟨rfl, p1, o1, s1, s0, v1⟩ := H
  have P2 : PInv C1 := hP.of p1
  have e183 : cI C1 183 i = cI C 183 i := by rw [o1 183 (by omega) (by omega), r_In (by decide)]
  have s00 : cI C1 194 0 = cI C 193 x := by rw [s0 0 (by omega), r_I, if_pos ⟨rfl, rfl⟩]
  have s1' : ∀ d, d < 4 → cI C1 194 (1 + d) = cI C 193 (230 + 4 * x + d) := fun d hd => by rw [s1 d (by omega) hd, r_In (by decide)]
  have v1' : ∀ k, cI C1 193 k = if (decide (230 + 4 * x + 0 ≤ k) && decide (k < 230 + 4 * x + 4) && wcB S t e (k - (230 + 4 * x))) = true then wcV S t e (k - (230 + 4 * x)) else cI C 193 k := fun k => by rw [v1 k, r_In (by decide)]
  have ou : ∀ k, ¬ (230 + 4 * x ≤ k ∧ k < 230 + 4 * x + 4) → cI C1 193 k = cI C 193 k := fun k hk => by
    rw [v1' k, if_neg ?_]
    simp only [Bool.and_eq_true, decide_eq_true_eq]
    omega
  -- behind the last cell
  have fin : ∀ (v : Int32), v = (if isNewS t e.1 = false ∧ tCh t = 1 then 0 else 1) → Rt (some ((), uI C1 193 x v)) (fun _ C' => TabM 230 (sCols S) C' 193 0 (sPut W t e.1 x e.2.2) ∧ FrV C C' ∧ (∀ k, ¬ (k = x ∨ (230 + 4 * x ≤ k ∧ k < 230 + 4 * x + 4)) → cI C' 193 k = cI C 193 k) ∧ cI C' 194 0 = cI C 193 x ∧ (∀ d, d < 4 → cI C' 194 (1 + d) = cI C 193 (230 + 4 * x + d)) ∧ ∀ b, 195 ≤ b → cI C' b = cI C b) := by
    intro v hv
    have num : ∀ c, c < sCols S → cI (uI C1 193 x v) 193 (0 + 230 + 4 * x + c) = if wcB S t e c = true then wcV S t e c else cI C 193 (230 + 4 * x + c) := fun c hc => by
      rw [r_I, if_neg (by omega), Nat.zero_add, v1']
      have n1 : decide (230 + 4 * x + 0 ≤ 230 + 4 * x + c) = true := decide_eq_true (by omega)
      have n2 : decide (230 + 4 * x + c < 230 + 4 * x + 4) = true := decide_eq_true (by omega)
      rw [n1, n2, show 230 + 4 * x + c - (230 + 4 * x) = c by omega, Bool.true_and, Bool.true_and]
    have oth : ∀ p c, p < 230 → ¬ p = x → c < sCols S → cI (uI C1 193 x v) 193 (0 + 230 + 4 * p + c) = cI C 193 (0 + 230 + 4 * p + c) := fun p c hp' pn hc => by
      rw [r_I, if_neg (by omega), ou _ (by omega)]
    have pre : ∀ p, p < 230 → cI (uI C1 193 x v) 193 (0 + p) = if p = x then v else if W.1 p = true then 1 else 0 := fun p hp' => by
      rw [r_I]
      by_cases q : p = x
      · rw [if_pos ⟨rfl, by omega⟩, if_pos q]
      · rw [if_neg (by omega), if_neg q, ou _ (by omega)]
        exact hW.1 p hp'
    refine rt_ret ⟨?_, ⟨(p_I C1 193 x v).trans p1, fun b hb => by rw [r_In (by omega), o1 b (by omega) (by omega), r_In (by omega)], fun f _ _ => by rw [r_In (by decide), o1 145 (by omega) (by omega), r_In (by decide)]⟩, fun k hk => by rw [r_I, if_neg (by omega), ou k (by omega)], by rw [r_In (by decide)]; exact s00, fun d hd => by rw [r_In (by decide)]; exact s1' d hd, fun b hb => by rw [r_In (by omega), o1 b (by omega) (by omega), r_In (by omega)]⟩
    rcases bcs (isNewS t e.1) with nw | nw
    · have Wx := hp nw
      by_cases g : tCh t = 1
      · rw [put_gone nw g]
        have v0 : v = 0 := by rw [hv, if_pos ⟨nw, g⟩]
        refine ⟨fun p hp' => ?_, fun p hp' tp c hc => ?_⟩
        · rw [pre p hp']
          show _ = if va_up W.1 x false p = true then 1 else 0
          by_cases q : p = x
          · rw [if_pos q, up_t q, v0]; rfl
          · rw [if_neg q, up_n q]
        · have tp : va_up W.1 x false p = true := tp
          have q : ¬ p = x := fun q => by rw [up_t q] at tp; cases tp
          rw [up_n q] at tp
          rw [oth p c hp' q hc]
          exact hW.2 p hp' tp c hc
      · rw [put_set nw g]
        have v0 : v = 1 := by rw [hv, if_neg (fun z => g z.2)]
        refine ⟨fun p hp' => ?_, fun p hp' tp c hc => ?_⟩
        · rw [pre p hp']
          show _ = if va_up W.1 x true p = true then 1 else 0
          by_cases q : p = x
          · rw [if_pos q, up_t q, v0]; rfl
          · rw [if_neg q, up_n q]
        · have tp : va_up W.1 x true p = true := tp
          show _ = va_up W.2 x _ p c
          by_cases q : p = x
          · subst q
            have vs : valsS t e.1 c = tSet t c := by unfold valsS; rw [nw]; rfl
            have old := hW.2 p hp' Wx c hc
            rw [Nat.zero_add] at old
            rw [num c hc, up_t rfl]
            unfold wcB wcV
            rw [nw, Bool.false_or, decide_eq_true hc, Bool.true_and, vs]
            rcases bcs (tSet t c).isSome with b | b
            · simp only [↓reduceIte, b, Bool.false_eq_true, if_false]; exact old
            · simp only [↓reduceIte, b, if_true]
          · rw [up_n q] at tp ⊢
            rw [oth p c hp' q hc]
            exact hW.2 p hp' tp c hc
    · rw [put_new nw]
      have v0 : v = 1 := by rw [hv, if_neg (fun z => by rw [nw] at z; cases z.1)]
      refine ⟨fun p hp' => ?_, fun p hp' tp c hc => ?_⟩
      · rw [pre p hp']
        show _ = if va_up W.1 x true p = true then 1 else 0
        by_cases q : p = x
        · rw [if_pos q, up_t q, v0]; rfl
        · rw [if_neg q, up_n q]
      · have tp : va_up W.1 x true p = true := tp
        show _ = va_up W.2 x e.2.2 p c
        by_cases q : p = x
        · subst q
          have vs : valsS t e.1 c = tNew t c := by unfold valsS; rw [nw]; rfl
          rw [num c hc, up_t rfl]
          unfold wcB wcV
          rw [nw, Bool.true_or, if_pos rfl, decide_eq_true hc, Bool.true_and, vs, hnew nw c hc, if_pos rfl]
        · rw [up_n q] at tp ⊢
          rw [oth p c hp' q hc]
          exact hW.2 p hp' tp c hc
  dsimp only
  rw [if_pos k_145, bd1 (w_145_84 P2), bd1 (w_145_71 P2), if_pos k_183, l_183, if_pos ((x_in (by omega)).mpr hi), x_cl (by omega), e183, l2, hg]
  rcases bcs (isNewS t e.1) with nw | nw
  · by_cases g : tCh t = 1
    · have c1 : (if (!isNewS t e.1 && decide (tCh t = 1)) = true then (1 : Int32) else if isNewS t e.1 = true then 2 else 0) = 1 := by rw [nw, decide_eq_true g]; rfl
      rw [if_neg (fun z => z c1), if_pos k_193, l_193, if_pos ((x_in (by omega)).mpr x1), x_cl (by omega)]
      exact fin 0 (by rw [if_pos ⟨nw, g⟩])
    · have c1 : ¬ (if (!isNewS t e.1 && decide (tCh t = 1)) = true then (1 : Int32) else if isNewS t e.1 = true then 2 else 0) = 1 := by rw [nw, decide_eq_false g]; decide
      rw [if_pos c1, if_pos k_193, l_193, if_pos ((x_in (by omega)).mpr x1), x_cl (by omega)]
      exact fin 1 (by rw [if_neg (fun z => g z.2)])
  · have c1 : ¬ (if (!isNewS t e.1 && decide (tCh t = 1)) = true then (1 : Int32) else if isNewS t e.1 = true then 2 else 0) = 1 := by rw [nw, Bool.not_true, Bool.false_and]; decide
    rw [if_pos c1, if_pos k_193, l_193, if_pos ((x_in (by omega)).mpr x1), x_cl (by omega)]
    exact fin 1 (by rw [if_neg (fun z => by rw [nw] at z; cases z.1)])
theorem m264 {W : Tab} (hM : MC C h S) (hW : TabM 230 (sCols S) C 193 0 W) (hn : 2200 ≤ n) : Rt (f_264 n 145 C) (fun z C' => z = (if (sClash 230 S W).isNone = true then 1 else 0) ∧ FrV C C' ∧ (∀ b, ¬ b = 145 → cI C' b = cI C b)) := by
  have hP := hM.1
  have w := m192 (n := n) (N := 230) (f := 0) (a := 193) hP hM.2.2.1 hM.2.2.2 k_193 (by rw [l_193]; omega) (by omega) (by omega) hW (by omega)
  rw [x_0] at w
  unfold f_264
  rw [if_pos k_145, bd1 (w_145_84 hP), hM.2.1, n_230', bd1 w]
  dsimp only
  cases hs : sClash 230 S W with
  | none =>
    rw [if_neg (fun z => z oI_n)]
    exact rt_ret ⟨rfl, FrV.refl _, fun _ _ => rfl⟩
  | some i =>
    have i3 : i < (sIdx S).length := by have := (qf_some hs).2.1; omega
    have l3 := hM.2.2.2.2.2.1
    rw [if_pos (by rw [oI_s, x_eqm (by omega)]; exact id)]
    have cl : ∀ o, FrV C (clM C o) ∧ ∀ b, ¬ b = 145 → cI (clM C o) b = cI C b := by
      intro o
      cases o with
      | none => exact ⟨FrV.refl _, fun _ _ => rfl⟩
      | some y =>
        have ob : ∀ b, ¬ b = 145 → cI (clM C (some y)) b = cI C b := fun b hb => by unfold clM; rw [r_In hb, r_In hb]
        exact ⟨⟨rfl, fun b hb => ob b (by omega), fun f z1 z2 => by unfold clM; rw [r_I, if_neg (by omega), r_I, if_neg (by omega)]⟩, ob⟩
    exact rt_ret ⟨rfl, (cl _).1, (cl _).2⟩
/-- what the reference's log stands on -/
def LGI (C : AmC) (S : Scr) (t : Stm) (I : List Itm) (l : List Ent) (w : Nat) : Prop := (∀ i, i < w → LgM C S t i (ent l i)) ∧ cI C 145 65 = nI w ∧ ∀ i, i < w → goneS t (itm I i).1 = (!isNewS t (itm I i).1 && decide (tCh t = 1)) ∧ (isNewS t (itm I i).1 = true → ∀ c, c < sCols S → (tNew t c).isSome = true)
theorem LGI.fr {C C1 : AmC} {t : Stm} {I : List Itm} {l : List Ent} {w : Nat} (hG : LGI C S t I l w) (F : FrV C C1) : LGI C1 S t I l w := by
  refine ⟨fun i hi => ?_, by rw [F.2.2 65 (by omega) (by omega)]; exact hG.2.1, hG.2.2⟩
  unfold LgM
  rw [F.2.1 182 (by omega), F.2.1 183 (by omega), F.2.1 184 (by omega), F.2.1 185 (by omega)]
  exact hG.1 i hi
theorem lgi_of {i : Nat} (hB : BigOK B) (hi : i < (sStm (bS B)).length) (hF : MrF C (bS B) (stmO (bS B) i) (sRight (bS B) (stmO (bS B) i) (zT (bZ B)))) (hx : XOK (bS B) (stmO (bS B) i) 3 (sReads (bS B) (stmO (bS B) i) 3 0 (zT (bZ B)))) : LGI C (bS B) (stmO (bS B) i) (sReads (bS B) (stmO (bS B) i) 3 0 (zT (bZ B))).2 (rL (sRun (bS B) (stmO (bS B) i) 3 0 (zT (bZ B)))) (rL (sRun (bS B) (stmO (bS B) i) 3 0 (zT (bZ B)))).length := by
  have eL : rL (sRight (bS B) (stmO (bS B) i) (zT (bZ B))) = rL (sRun (bS B) (stmO (bS B) i) 3 0 (zT (bZ B))) := (sEnd_T (S := bS B) (r := sRun (bS B) (stmO (bS B) i) 3 0 (zT (bZ B)))).2.2
  have hR := rw_run (S := bS B) (t := stmO (bS B) i) (path := 0) (T := zT (bZ B)) hx
  refine ⟨fun k hk => ?_, by rw [← eL]; exact hF.2.2.1, fun k hk => ?_⟩
  · have := hF.2.2.2.2.2.2.2 k (by rw [eL]; exact hk)
    rw [ent_eq (by rw [eL]; exact hk), eL] at this
    exact this
  · have kI : k < (sReads (bS B) (stmO (bS B) i) 3 0 (zT (bZ B))).2.length := by have := hR.2.1; omega
    have mem : itm (sReads (bS B) (stmO (bS B) i) 3 0 (zT (bZ B))).2 k ∈ (sReads (bS B) (stmO (bS B) i) 3 0 (zT (bZ B))).2 := by rw [← itm_eq kI]; exact List.getElem_mem kI
    exact ⟨gone_eq (stmO_ok hB.1 hi) (fun h3 => items_some h3 _ mem), (hx.2.2 _ mem).2.2.1⟩
theorem wp_eq {t : Stm} {I : List Itm} {l : List Ent} {w k : Nat} {T : Tab} (hR : RW S t T I l w) (hk : k < w) : wp t (ent l k) k = wpl t (itm I k).1 k ∧ wpl t (itm I k).1 k < 230 := by
  obtain ⟨s1, s2, _⟩ := hR.2.2.2.2.2 k hk
  have w2 := hR.2.2.1
  have kI : k < I.length := by have := hR.2.1; omega
  unfold wp wpl
  rw [s2]
  rcases bcs (isNewS t (itm I k).1) with nw | nw
  · rw [nw, if_neg (by decide), if_neg (by decide)]
    unfold sAt at s1
    rw [nw, if_neg (by decide)] at s1
    rw [s1]
    refine ⟨rfl, ?_⟩
    have := (hR.2.2.2.2.1 (itm I k) (by rw [← itm_eq kI]; exact List.getElem_mem kI) _ s1).1
    show (ent l k).2.1 < 230
    omega
  · rw [if_pos nw, if_pos nw]
    exact ⟨rfl, by omega⟩
theorem m262_i {t : Stm} {I : List Itm} {l : List Ent} {w k : Nat} {T R W : Tab} {U : Nat → Bool} {φ : Nat → Nat} (hO : ScrOK S) (hP : PInv C) (hR : RW S t T I l w) (hG : LGI C S t I l w) (hk : k < w) (hU : U k = false) (hq : QR S t I w U R W φ) (hW : TabM 230 (sCols S) C 193 0 W) (hn : 20 ≤ n) : Rt (f_262 n 145 (nI k) C) (fun _ C' => TabM 230 (sCols S) C' 193 0 (sPut W t (itm I k).1 (wpl t (itm I k).1 k) (itm I k).2.2) ∧ FrV C C' ∧ (∀ j, ¬ (j = wpl t (itm I k).1 k ∨ (230 + 4 * wpl t (itm I k).1 k ≤ j ∧ j < 230 + 4 * wpl t (itm I k).1 k + 4)) → cI C' 193 j = cI C 193 j) ∧ cI C' 194 0 = cI C 193 (wpl t (itm I k).1 k) ∧ (∀ d, d < 4 → cI C' 194 (1 + d) = cI C 193 (230 + 4 * wpl t (itm I k).1 k + d)) ∧ ∀ b, 195 ≤ b → cI C' b = cI C b) := by
  obtain ⟨we, wl⟩ := wp_eq hR hk
  obtain ⟨_, s2, s3⟩ := hR.2.2.2.2.2 k hk
  obtain ⟨g1, g2⟩ := hG.2.2 k hk
  have w2 := hR.2.2.1
  have M := m262 (n := n) (S := S) (t := t) (e := ent l k) (i := k) (W := W) hP hO.2.1 (by omega) (hG.1 k hk) (by rw [we]; exact wl) (by rw [s2]; exact g1) hW (by
    rw [s2, we]
    intro nw
    obtain ⟨p, hp, p30, Rp, φp⟩ := hq.2.2.2.1 k hk hU nw
    have := (hq.1 p p30 Rp).2.1
    rw [φp] at this
    unfold wpl
    rw [nw, if_neg (by decide), hp]
    exact this) (by rw [s2]; exact g2) hn
  rw [we, s2, s3] at M
  exact M
theorem m265_lp {t : Stm} {I : List Itm} {l : List Ent} {w : Nat} {T : Tab} (hB : BigOK B) (hR : RW (bS B) t T I l w) : ∀ m k n C x, k + m = w - 1 → m + 2300 < n → x ≤ k → MI C h B → LGI C (bS B) t I l w → TabM 230 (sCols (bS B)) C 193 0 (wdN t T I k) → Rt (lp_265_24 n 145 (nI x) (nI k) C) (fun z C' => z = nI (qo (clF2 (bS B) t T l) m k x) ∧ FrV C C') := by
  have w200 := hR.2.2.1
  intro m
  induction m with
  | zero =>
    intro k n C x h1 hn hx hM hG hW
    obtain ⟨n, rfl⟩ : ∃ m, n = m + 1 := ⟨n - 1, by omega⟩
    rw [lp_265_24, if_pos k_145, hG.2.1, if_pos ((le_m1 (by omega) (by omega)).mpr (by omega))]
    exact rt_ret ⟨rfl, FrV.refl _⟩
  | succ m ih =>
    intro k n C x h1 hn hx hM hG hW
    obtain ⟨n, rfl⟩ : ∃ m, n = m + 1 := ⟨n - 1, by omega⟩
    have kw : k < w := by omega
    obtain ⟨⟨φ, hq⟩, _⟩ := hR.nat k (by omega)
    obtain ⟨⟨ψ, hq2⟩, _⟩ := hR.nat (k + 1) (by omega)
    have cl := hq2.clash hB.1
    rw [lp_265_24, if_pos k_145, hG.2.1, if_neg (by rw [le_m1 (by omega) (by omega)]; omega)]
    refine rt_bind (rt_mono (m262_i (n := n) hB.1 hM.1.1 hR hG kw (by simp) hq hW (by omega)) (fun _ C1 H => ?_))
    obtain ⟨W1, F1, _, _, _, _⟩ := H
    have W1 : TabM 230 (sCols (bS B)) C1 193 0 (wdN t T I (k + 1)) := W1
    have M1 := hM.frR hB F1.r
    refine rt_bind (rt_mono (m264 (n := n) M1.1 W1 (by omega)) (fun z C2 H => ?_))
    obtain ⟨rfl, F2, o2⟩ := H
    have F12 := F1.trans F2
    have I1 := fun x' hx' => ih (k + 1) n C2 x' (by omega) (by omega) hx' (hM.frR hB F12.r) (hG.fr F12) (W1.of (o2 193 (by omega)))
    dsimp only
    rw [qo]
    cases hs : sClash 30 (bS B) (lgN t T l (k + 1)) with
    | none =>
      have cf : clF2 (bS B) t T l k x = x := by unfold clF2; rw [hs]; rfl
      rw [cl.mp hs, cf, if_neg (by decide), x_a0, x_a1]
      exact rt_mono (I1 x (by omega)) (fun _ _ H => ⟨H.1, F12.trans H.2⟩)
    | some i =>
      have cf : clF2 (bS B) t T l k x = x + 1 := by unfold clF2; rw [hs]; rfl
      have e2 : (sClash 230 (bS B) (wdN t T I (k + 1))).isNone = false := by
        cases h2 : sClash 230 (bS B) (wdN t T I (k + 1)) with
        | none => rw [cl.mpr h2] at hs; cases hs
        | some y => rfl
      rw [e2, cf, if_pos (by decide), x_a1, x_a1]
      exact rt_mono (I1 (x + 1) (by omega)) (fun _ _ H => ⟨H.1, F12.trans H.2⟩)
theorem q265 (hM : MI C h B) (hB : BigOK B) (hn : 9800 ≤ n) (a : Int32) : Rt (f_265 n 145 a C) (fun z C' => An C' z (sCls B a) ∧ FrR C C') := by
  have l8 := hB.1.2.2.2.2.2.2.2.1
  have c4 := hB.1.2.1
  obtain ⟨M0, t0, F0⟩ := hM.t0 hB
  generalize hC0 : uI C 145 5 0 = C0 at M0 t0 F0
  have hh := M0.1.2.2.1.1
  unfold f_265 sCls
  rw [hC0]
  rcases ix_c (N := (sStm (bS B)).length) (by omega) a with ⟨na, ea⟩ | ⟨i, hi, rfl, ea⟩
  · rw [ea]
    simp only [↓reduceIte, k_145, if_true, if_false, not_true, ↓bd1 (m250_f (n := n) M0.1 na t0)]
    exact rt_ret (An_f F0)
  · rw [ea]
    have W := m226 (n := n) (f := 0) (h := h) (i := 8 * h + i) M0.1 (by omega) (M0.stm hi) (stmO_ok hB.1 hi) (by omega) M0.2.2.2.2.1.1.1 M0.2.2.2.2.1.1.2 hB.2.2.2.1.1.1 (by omega)
    rw [x_0] at W
    simp (disch := omega) only [k_145, if_true, if_false, n10f, not_false_iff, ↓bd1 (m250_t (n := n) M0.1 hi t0), M0.1.2.1, ↓reduceIte, n_2, n_3, n_4, n_5, n_6, n_7, n_8, n_10, n_12, n_20, n_30, n_40, n_100, n_120, n_150, n_200, n_230, n_320, n_450, n_900, x_le, x_lt, x_eq, x_lt0, x_le0, x_0le, x_0lt, x_eq0, x_eq1, x_1lt, x_le1, x_lt1, x_1le, x_eqm, x_add, x_a1, x_1a, x_a0, x_0a, x_mul, x_sub, x_s1, x_1s, x_div, x_cl, x_cl0, x_cl1, x_in, x_in0, x_in1, x_ofNat]
    refine rt_bind (rt_mono W (fun _ C1 H => ?_))
    obtain ⟨hF, F, _, xk⟩ := H
    have F1 := F.r (by omega)
    have M1 := M0.frR hB F1
    have t1 : cI C1 145 5 = 0 := (F.2.2.2 5 (by omega)).trans t0
    have hR := rw_run (S := bS B) (t := stmO (bS B) i) (path := 0) (T := zT (bZ B)) xk
    refine rt_bind (rt_mono (m260 (n := n) M1.1.1 c4 M1.2.2.2.2.1.1.1 (by omega)) (fun _ C2 H => ?_))
    obtain ⟨W2, F2⟩ := H
    have L := m265_lp (h := h) hB hR ((rL (sRun (bS B) (stmO (bS B) i) 3 0 (zT (bZ B)))).length - 1) 0 n C2 0 (by omega) (by have := hR.2.2.1; omega) (Nat.le_refl _) (M1.frR hB F2.r) ((lgi_of hB hi hF xk).fr F2) W2
    rw [x_0] at L
    refine rt_bind (rt_mono L (fun z C3 H => ?_))
    exact rt_ret ⟨⟨by rw [H.2.2.2 5 (by omega) (by omega), F2.2.2 5 (by omega) (by omega)]; exact t1, H.1⟩, F0.trans (F1.trans (F2.r.trans H.2.r))⟩
end
