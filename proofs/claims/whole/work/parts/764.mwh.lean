/-! The reference reads tests. -/
section
variable {n h i j N A V B U cols s T : Nat} {C C' : AmC} {x : Nat → Nat} {oth col : Bool}
theorem TstM.keep {f : Nat} {ts : List Tst} (g : TstM C h A V f ts) (K : KpV h A V C C') (e : ∀ b q, 156 ≤ b → b ≤ 158 → q < ts.length → cI C' b (f + q) = cI C b (f + q)) (hA : A ≤ B) (hV : V ≤ U) : TstM C' h B U f ts := by
  intro q hq
  obtain ⟨g1, ⟨k, g2, g3⟩, l, g4, g5⟩ := g q hq
  exact ⟨by rw [e 157 q (by omega) (by omega) hq]; exact g1, ⟨k, by rw [e 156 q (by omega) (by omega) hq]; exact g2, g3.keep K hA hV⟩, l, by rw [e 158 q (by omega) (by omega) hq]; exact g4, g5.keep K hA hV⟩
def RH (h A V T T0 s : Nat) (x : Nat → Nat) (N : Nat) (C : AmC) (r : PE (List Tst)) (C' : AmC) : Prop := FrZ (WX h A V T s) C C' ∧ PRm C' h x N r (fun ts j => ∃ A' V', CntL C' h A V x N j A' V' ∧ cI C' 166 h = nI (T0 + ts.length) ∧ 6 * (T0 + ts.length) ≤ ps x N j ∧ cI C' 175 s = nI ts.length ∧ TstM C' h A' V' (160 * h + T0) ts)
theorem m182_lp {T0 : Nat} (h1c : 1 ≤ cols) (h4 : cols ≤ 4) (hs : 8 * h ≤ s ∧ s < 8 * h + 8) : ∀ f i acc C n A V, 901 ≤ f + ps x N i → f + 2400 < n → Pm C h x N i → tK x N i = 215 ∨ tK x N i = 216 → cI C 159 h = nI cols → AM C h A V → 2 * A ≤ ps x N i + 1 → 3 * V ≤ ps x N i → 6 * (T0 + acc.length) ≤ ps x N i → cI C 166 h = nI (T0 + acc.length) → cI C 175 s = nI acc.length → TstM C h A V (160 * h + T0) acc → Rt (lp_182_7 n 145 (nI s) 1 C) (fun _ C' => RH h A V (T0 + acc.length) T0 s x N C (spH x N cols f i acc) C') := by
  intro f
  induction f with
  | zero =>
    intro i acc C n A V h1 h2 hp
    have := ps_le (x := x) (N := N) i
    have := hp.2.2.2.1.1
    omega
  | succ f ih =>
    intro i acc C n A V h1 h2 hp wd hc hA b1 b2 b3 eT em hts
    obtain ⟨n, rfl⟩ : ∃ m, n = m + 1 := ⟨n - 1, by omega⟩
    have P := hp.1
    have hh := hp.2.1
    have e41 := hp.2.2.1
    have N9 := hp.2.2.2.1.1
    have pi := ps_le (x := x) (N := N) i
    have w3 : ps x N i + 3 ≤ ps x N (i + 1) := by
      rcases wd with w | w
      · have := ps_w (x := x) (N := N) (i := i) (k := 15) (by omega) w
        have l : (wlC.getD 15 []).length = 5 := by decide
        omega
      · have := ps_w (x := x) (N := N) (i := i) (k := 16) (by omega) w
        have l : (wlC.getD 16 []).length = 3 := by decide
        omega
    rw [lp_182_7, if_neg (by decide), if_pos k_145, if_neg (fun z => z hp.2.2.2.2.2.1)]
    refine rt_bind (rt_mono (hp.go (by omega)) (fun _ D H => ?_))
    obtain ⟨pD, FD⟩ := H
    have d41 := pD.2.2.1
    have d66 : cI D 166 h = nI (T0 + acc.length) := by rw [FD.2 166 h (by unfold W0; omega)]; exact eT
    dsimp only
    rw [bd1 (w_145_28 pD.1), if_pos k_166, d41, l_166, if_pos ((x_in (by omega)).mpr hh), x_cl (by omega), d66, n_160, x_mul, x_add, bd1 (w_145_18 pD.1)]
    refine rt_bind (rt_mono (m179 (oth := false) (col := true) (A := A) (V := V) (by omega) h1c h4 pD (by rw [FD.2 159 h (by unfold W0; omega)]; exact hc) rfl rfl (hA.of FD (by unfold W0; omega) (by unfold W0; omega)) (by omega) (by omega)) (fun z D2 H => ?_))
    obtain ⟨F2, H⟩ := H
    have F2' : FrZ (WV h A V) C D2 := (FD.mono (fun _ _ z => Or.inl (Or.inl z))).trans F2
    dsimp only
    rw [if_pos k_156, l_156, if_pos ((x_in (by omega)).mpr (by omega)), x_cl (by omega)]
    have F3 : FrZ (WX h A V (T0 + acc.length) s) C (uI D2 156 (160 * h + (T0 + acc.length)) z) := (F2'.mono (W' := WX h A V (T0 + acc.length) s) (fun _ _ z => Or.inl z)).u (Or.inr (Or.inl (by omega)))
    have o3 : ∀ b, b ≠ 156 → cI (uI D2 156 (160 * h + (T0 + acc.length)) z) b = cI D2 b := fun b hb => r_In hb
    have bad : ∀ k j (D : AmC), spH x N cols (f + 1) i acc = .inl (k, j) → FrZ (WX h A V (T0 + acc.length) s) C D → FltM D x N k j → Rt (lp_182_7 n 145 (nI s) 0 D) (fun _ C' => RH h A V (T0 + acc.length) T0 s x N C (spH x N cols (f + 1) i acc) C') := by
      intro k j D er FD fl
      refine rt_mono (b182 (by omega) (Or.inl rfl)) (fun _ D3 H => ?_)
      subst H
      exact ⟨FD, Or.inl ⟨k, j, er, fl⟩⟩
    rcases H with ⟨k, j, er, fl⟩ | ⟨l, j, er, p5, rfl, vl, am, b4⟩
    · have fl3 : FltM (uI D2 156 (160 * h + (T0 + acc.length)) z) x N k j := fl.of (by rw [o3 145 (by omega)]) (by rw [o3 145 (by omega)])
      rw [bd1 (b172 fl3.bd)]
      dsimp only
      rw [if_neg (fun z => z rfl), bd1 (b172 fl3.bd)]
      dsimp only
      rw [if_neg (fun z => z rfl), bd1 (b172 fl3.bd)]
      dsimp only
      rw [if_pos rfl, bd1 (b170 fl3.bd)]
      dsimp only
      rw [if_neg (fun z => z rfl)]
      exact rt_ret ⟨F3, Or.inl ⟨k, j, by rw [spH, er], fl3⟩⟩
    · obtain ⟨t1, t2, t3, _⟩ := spW_ps h1c N9 er
      have pj := ps_le (x := x) (N := N) j
      have p6 : Pm (uI D2 156 (160 * h + (T0 + acc.length)) (nI (320 * h + V))) h x N j := p5.of rfl (fun _ _ _ => by rw [o3 145 (by omega)]) (o3 178 (by omega))
      have am6 : AM (uI D2 156 (160 * h + (T0 + acc.length)) (nI (320 * h + V))) h (A + l.length) (V + 1) := ⟨by rw [o3 164 (by omega)]; exact am.1, by rw [o3 165 (by omega)]; exact am.2⟩
      have vl6 : VL (uI D2 156 (160 * h + (T0 + acc.length)) (nI (320 * h + V))) h (A + l.length) (V + 1) (320 * h + V) l := vl.keep ⟨fun b j _ _ _ _ => by rw [o3 b (by omega)], fun b j _ _ _ => by rw [o3 b (by omega)]⟩ (Nat.le_refl _) (Nat.le_refl _)
      have c6 : cI (uI D2 156 (160 * h + (T0 + acc.length)) (nI (320 * h + V))) 156 (160 * h + (T0 + acc.length)) = nI (320 * h + V) := by rw [r_I, if_pos ⟨rfl, rfl⟩]
      have c66 : cI (uI D2 156 (160 * h + (T0 + acc.length)) (nI (320 * h + V))) 166 h = nI (T0 + acc.length) := by rw [o3 166 (by omega), F2'.2 166 h (by unfold WV WA W0; omega)]; exact eT
      have c75 : cI (uI D2 156 (160 * h + (T0 + acc.length)) (nI (320 * h + V))) 175 s = nI acc.length := by rw [o3 175 (by omega), F2'.2 175 s (by unfold WV WA W0; omega)]; exact em
      have ts6 : TstM (uI D2 156 (160 * h + (T0 + acc.length)) (nI (320 * h + V))) h (A + l.length) (V + 1) (160 * h + T0) acc := hts.keep (F3.kp (fun b j z => by unfold WX WV WA W0; omega)) (fun b q z1 z2 z3 => by rw [F3.2 b _ (by unfold WX WV WA W0; omega)]) (by omega) (by omega)
      have c59 : cI (uI D2 156 (160 * h + (T0 + acc.length)) (nI (320 * h + V))) 159 h = nI cols := by rw [F3.2 159 h (by unfold WX WV WA W0; omega)]; exact hc
      generalize uI D2 156 (160 * h + (T0 + acc.length)) (nI (320 * h + V)) = D6 at F3 p6 am6 vl6 c6 c66 c75 ts6 c59
      have tail : isCm (tK x N j) = true → isSg (tK x N j) = true → Rt (t182 n h (T0 + acc.length) (nI s) D6) (fun _ C' => RH h A V (T0 + acc.length) T0 s x N C (spH x N cols (f + 1) i acc) C') := by
        intro cm sg
        have u1 : ps x N j + 1 ≤ ps x N (j + 1) := ps_1 (by have := sg_ne sg; omega)
        refine m182_t (A := A + l.length) (V := V + 1) (m := acc.length) (by omega) h1c h4 hs p6 sg c59 am6 b4 (by omega) (by omega) c66 c75 (by omega) ?_ ?_
        · intro C' k j' er2 FC fl
          exact bad k j' C' (by rw [spH, er]; dsimp only; rw [if_pos cm, er2]) (F3.trans (FC.mono (fun _ _ z => WX.le (by omega) (by omega) (Nat.le_refl _) z))) fl
        · intro C' r j' er2 FC p7 am7 b7 vl7 g6 g7 g8 g66 g75
          obtain ⟨y1, y2, y3, _⟩ := spW_ps h1c N9 er2
          have pj' := ps_le (x := x) (N := N) j'
          have es : spH x N cols (f + 1) i acc = if tK x N j' = 216 then spH x N cols f j' (acc ++ [(l, nI (tK x N j), r)]) else .inr (acc ++ [(l, nI (tK x N j), r)], j') := by rw [spH, er]; dsimp only; rw [if_pos cm, er2]
          have FC' : FrZ (WX h A V (T0 + acc.length) s) C C' := F3.trans (FC.mono (fun _ _ z => WX.le (by omega) (by omega) (Nat.le_refl _) z))
          have ts7 : TstM C' h (A + l.length + r.length) (V + 1 + 1) (160 * h + T0) (acc ++ [(l, nI (tK x N j), r)]) := by
            have K7 : KpV h (A + l.length) (V + 1) D6 C' := FC.kp (fun b j z => by unfold WX WV WA W0; omega)
            have old := ts6.keep (B := A + l.length + r.length) (U := V + 1 + 1) K7 (fun b q z1 z2 z3 => by rw [FC.2 b _ (by unfold WX WV WA W0; omega)]) (by omega) (by omega)
            intro q hq
            by_cases e : q < acc.length
            · rw [List.getElem_append_left e]
              exact old q e
            · have : q = acc.length := by simp at hq; omega
              subst this
              rw [cat_last, Nat.add_assoc]
              exact ⟨g7, ⟨320 * h + V, by rw [g6]; exact c6, vl6.keep K7 (by omega) (by omega)⟩, 320 * h + (V + 1), g8, vl7⟩
          have ln : (acc ++ [(l, nI (tK x N j), r)]).length = acc.length + 1 := by simp
          by_cases a6 : tK x N j' = 216
          · rw [if_pos a6] at es ⊢
            rw [es]
            refine rt_mono (ih j' (acc ++ [(l, nI (tK x N j), r)]) C' n (A + l.length + r.length) (V + 1 + 1) (by omega) (by omega) p7 (Or.inr a6) (by rw [FC'.2 159 h (by unfold WX WV WA W0; omega)]; exact hc) am7 b7 (by omega) (by rw [ln]; omega) (by rw [ln]; exact g66) (by rw [ln]; exact g75) ts7) (fun _ D9 H => ?_)
            obtain ⟨F9, H⟩ := H
            refine ⟨FC'.trans (F9.mono (fun _ _ z => WX.le (by omega) (by omega) (by rw [ln]; omega) z)), ?_⟩
            rcases H with H | ⟨ts, j2, H1, H2, A', V', ⟨z1, z2, z3⟩, H3⟩
            · exact Or.inl H
            · exact Or.inr ⟨ts, j2, H1, H2, A', V', ⟨by omega, by omega, z3⟩, H3⟩
          · rw [if_neg a6] at es ⊢
            refine rt_mono (b182 (by omega) (Or.inl rfl)) (fun _ D3 H => ?_)
            subst H
            exact ⟨FC', Or.inr ⟨_, j', es, p7, A + l.length + r.length, V + 1 + 1, ⟨by omega, by omega, am7, b7, by omega⟩, by rw [ln]; exact g66, by rw [ln]; omega, by rw [ln]; exact g75, ts7⟩⟩
      rw [bd1 (mSg (c := 60) (v := 60) p6 (by decide) rfl)]
      dsimp only
      by_cases e0 : tK x N j = 60
      · rw [if_pos e0, if_pos (by decide)]
        exact tail (by rw [e0]; decide) (by rw [e0]; decide)
      · rw [if_neg e0, if_neg (fun z => z rfl), bd1 (mSg (c := 61) (v := 61) p6 (by decide) rfl)]
        dsimp only
        by_cases e1 : tK x N j = 61
        · rw [if_pos e1, if_pos (by decide)]
          exact tail (by rw [e1]; decide) (by rw [e1]; decide)
        · rw [if_neg e1, if_neg (fun z => z rfl), bd1 (mSg (c := 62) (v := 62) p6 (by decide) rfl)]
          dsimp only
          by_cases e2 : tK x N j = 62
          · rw [if_pos e2, if_neg (by decide)]
            exact tail (by rw [e2]; decide) (by rw [e2]; decide)
          · obtain ⟨q1, q2, q3⟩ := m170f (n := n) (k := 1) (v := 1) p6 (by omega) rfl
            rw [if_neg e2, if_pos rfl, bd1 q1]
            dsimp only
            rw [if_neg (fun z => z rfl)]
            refine rt_ret ⟨F3.trans (q3.mono (fun _ _ z => Or.inl (Or.inl (Or.inl z)))), Or.inl ⟨1, j, ?_, q2⟩⟩
            rw [spH, er]
            dsimp only
            rw [if_neg]
            unfold isCm
            rw [decide_eq_false e0, decide_eq_false e1, decide_eq_false e2]
            decide
theorem m182 (hn : 3500 ≤ n) (h1c : 1 ≤ cols) (h4 : cols ≤ 4) (hs : 8 * h ≤ s ∧ s < 8 * h + 8) (hp : Pm C h x N i) (hc : cI C 159 h = nI cols) (hA : AM C h A V) (b1 : 2 * A ≤ ps x N i + 1) (b2 : 3 * V ≤ ps x N i) (b3 : 6 * T ≤ ps x N i) (eT : cI C 166 h = nI T) (em : cI C 175 s = 0) : Rt (f_182 n 145 (nI s) C) (fun _ C' => RH h A V T T s x N C (spX x N cols i) C') := by
  unfold f_182 spX
  rw [if_pos k_145, bd1 (mIs (w := 15) (v := 11) hp (by omega) rfl)]
  dsimp only
  by_cases e : tK x N i = 200 + 15
  · rw [if_pos e, if_pos e, if_pos (by decide)]
    refine rt_bind (rt_mono (m182_lp (T0 := T) h1c h4 hs 901 i [] C n A V (by omega) (by omega) hp (Or.inl e) hc hA b1 b2 b3 eT em (fun q hq => absurd hq (Nat.not_lt_zero q))) (fun z D H => ?_))
    rcases z with z | z
    · exact rt_ret H
    · exact rt_ret H
  · rw [if_neg e, if_neg e, if_neg (fun z => z rfl)]
    exact rt_ret ⟨FrZ.refl C, Or.inr ⟨[], i, rfl, hp, A, V, ⟨Nat.le_refl _, Nat.le_refl _, hA, b1, b2⟩, eT, b3, em, fun q hq => absurd hq (Nat.not_lt_zero q)⟩⟩
end
