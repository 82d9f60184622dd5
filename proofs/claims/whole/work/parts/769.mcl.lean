/-! The reference reads columns, rows, others, statements. -/
section
variable {n h i j N A V T m r c : Nat} {C C' : AmC} {x : Nat → Nat} {t : Tel}
def tCol (n : Nat) (C : AmC) : Option (Unit × AmC) := (if ¬ (cI C 145 54) = 0 then (f_170 n 145 (0 : Int32) (4 : Int32) C).bind (fun z => match z with | (q13, C14) => (if ¬ q13 = 0 then (f_169 n 145 C14).bind (fun z => match z with | (_, C18) => (if ¬ (cI C18 145 48) = (2 : Int32) then (f_170 n 145 (0 : Int32) (1 : Int32) C18).bind (fun z => match z with | (q21, C22) => (if q21 = 0 then some ((), C22) else (f_163 n (cI C22 145 49) (1 : Int32) (4 : Int32) C22).bind (fun z => match z with | (q25, C26) => (f_170 n 145 q25 (2 : Int32) C26).bind (fun z => match z with | (q28, C29) => (if ¬ q28 = 0 then (cP C29 145 21).bind (fun r32 => if isK r32 12 = true then if amIn (cI C29 145 41) (aLen r32) = true then (f_169 n 145 (uI C29 r32 (Int32.toNatClampNeg (cI C29 145 41)) (cI C29 145 49))).bind (fun z => match z with | (_, C37) => some ((), C37)) else none else none) else some ((), C29)))))) else (f_170 n 145 (1 : Int32) (1 : Int32) C18).bind (fun z => match z with | (q39, C40) => (if q39 = 0 then some ((), C40) else (f_163 n (cI C40 145 49) (1 : Int32) (4 : Int32) C40).bind (fun z => match z with | (q43, C44) => (f_170 n 145 q43 (2 : Int32) C44).bind (fun z => match z with | (q46, C47) => (if ¬ q46 = 0 then (cP C47 145 21).bind (fun r50 => if isK r50 12 = true then if amIn (cI C47 145 41) (aLen r50) = true then (f_169 n 145 (uI C47 r50 (Int32.toNatClampNeg (cI C47 145 41)) (cI C47 145 49))).bind (fun z => match z with | (_, C55) => some ((), C55)) else none else none) else some ((), C47)))))))) else some ((), C14))) else (f_170 n 145 (1 : Int32) (4 : Int32) C).bind (fun z => match z with | (q57, C58) => (if ¬ q57 = 0 then (f_169 n 145 C58).bind (fun z => match z with | (_, C62) => (if ¬ (cI C62 145 48) = (2 : Int32) then (f_170 n 145 (0 : Int32) (1 : Int32) C62).bind (fun z => match z with | (q65, C66) => (if q65 = 0 then some ((), C66) else (f_163 n (cI C66 145 49) (1 : Int32) (4 : Int32) C66).bind (fun z => match z with | (q69, C70) => (f_170 n 145 q69 (2 : Int32) C70).bind (fun z => match z with | (q72, C73) => (if ¬ q72 = 0 then (cP C73 145 21).bind (fun r76 => if isK r76 12 = true then if amIn (cI C73 145 41) (aLen r76) = true then (f_169 n 145 (uI C73 r76 (Int32.toNatClampNeg (cI C73 145 41)) (cI C73 145 49))).bind (fun z => match z with | (_, C81) => some ((), C81)) else none else none) else some ((), C73)))))) else (f_170 n 145 (1 : Int32) (1 : Int32) C62).bind (fun z => match z with | (q83, C84) => (if q83 = 0 then some ((), C84) else (f_163 n (cI C84 145 49) (1 : Int32) (4 : Int32) C84).bind (fun z => match z with | (q87, C88) => (f_170 n 145 q87 (2 : Int32) C88).bind (fun z => match z with | (q90, C91) => (if ¬ q90 = 0 then (cP C91 145 21).bind (fun r94 => if isK r94 12 = true then if amIn (cI C91 145 41) (aLen r94) = true then (f_169 n 145 (uI C91 r94 (Int32.toNatClampNeg (cI C91 145 41)) (cI C91 145 49))).bind (fun z => match z with | (_, C99) => some ((), C99)) else none else none) else some ((), C91)))))))) else some ((), C58))))
theorem m_col (hn : 1200 ≤ n) (hP : PSm 0 C h x N i t A V T) (h54 : cI C 145 54 = nI c) (c9 : c ≤ 900) (hf : c = 0 → t = tel0) (hk : tK x N i ≠ 132) : Rt (tCol n C) (fun _ C' => RC h x N C (spCol x N (decide (c = 0)) t i) C') := by
  obtain ⟨hp, hS, hTd, hA, hT, ⟨b1, b2, b3⟩, h53⟩ := hP
  have hh := hp.2.1
  have u0 := ps_1 (x := x) (N := N) (i := i) hk
  have n4 : (4 : Int32) = nI 4 := rfl
  unfold tCol spCol
  rw [h54]
  by_cases c0 : c = 0
  · have t0 := hf c0
    rw [if_neg (fun z => z (by rw [c0]; rfl)), if_pos (decide_eq_true c0), bd1 (m170t hp (by decide))]
    dsimp only
    rw [if_pos (by decide)]
    refine rt_bind (rt_mono (hp.go (by omega)) (fun _ D H => ?_))
    obtain ⟨pD, FD⟩ := H
    have FD' : FrZ (WP h) C D := FD.mono (fun _ _ z => W0.p z)
    obtain ⟨a1, a2, a3⟩ := at_2 pD.at
    dsimp only
    by_cases e9 : tK x N (i + 1) = 129
    · obtain ⟨q1, q2, q3⟩ := m170f (n := n) (k := 2) (v := 2) pD (by omega) rfl
      rw [if_neg (fun z => z (a1.mpr (Or.inr e9))), if_pos e9, bd1 (m170t pD (by decide))]
      dsimp only
      have w : f_163 n (cI D 145 49) 1 4 D = some (0, D) := by
        unfold f_163
        rw [a3 e9, n4, if_neg (by rw [x_lt1 (by omega)]; omega), if_pos ((x_lt (by omega) (by omega)).mpr (by omega))]
      rw [if_neg (by decide), bd1 w]
      dsimp only
      rw [bd1 q1]
      dsimp only
      rw [if_neg (fun z => z rfl)]
      exact rt_ret (RC.fl (FD'.trans (q3.mono (fun _ _ z => W0.p z))) rfl q2)
    · rw [if_neg e9]
      by_cases e8 : tK x N (i + 1) = 128
      · obtain ⟨v1, v2⟩ := a2 e8
        have u1 := ps_1 (x := x) (N := N) (i := i + 1) (by omega)
        rw [if_neg (fun z => z (a1.mpr (Or.inl e8))), if_pos e8, bd1 (m170t pD (by decide))]
        dsimp only
        rw [if_neg (by decide)]
        have w : f_163 n (cI D 145 49) 1 4 D = some (if 1 ≤ tN x N (i + 1) ∧ tN x N (i + 1) ≤ 4 then 1 else 0, D) := by
          unfold f_163
          rw [v1, n4]
          by_cases l1 : tN x N (i + 1) < 1
          · rw [if_pos ((x_lt1 (by omega)).mpr l1), if_neg (by omega)]
          · rw [if_neg (by rw [x_lt1 (by omega)]; exact l1)]
            by_cases l2 : 4 < tN x N (i + 1)
            · rw [if_pos ((x_lt (by omega) (by omega)).mpr l2), if_neg (by omega)]
            · rw [if_neg (by rw [x_lt (by omega) (by omega)]; exact l2), if_pos (by omega)]
        rw [bd1 w]
        dsimp only
        by_cases g : 1 ≤ tN x N (i + 1) ∧ tN x N (i + 1) ≤ 4
        · rw [if_pos g, if_pos g, bd1 (m170t pD (by decide))]
          dsimp only
          rw [if_pos (by decide), bd1 (w_145_21 pD.1), if_pos k_159, pD.2.2.1, l_159, if_pos ((x_in (by omega)).mpr hh), x_cl (by omega), v1]
          have pE : Pm (uI D 159 h (nI (tN x N (i + 1)))) h x N (i + 1) := pD.of rfl (fun _ _ _ => by rw [r_In (by omega)]) (r_In (by omega))
          refine rt_bind (rt_mono (pE.go (by omega)) (fun _ E H => ?_))
          obtain ⟨p3, F3⟩ := H
          have p3 : Pm E h x N (i + 2) := p3
          have F4 : FrZ (WP h) C E := (FD'.u (by unfold WP; omega)).trans (F3.mono (fun _ _ z => W0.p z))
          have oE : ∀ b, b ≠ 145 → b ≠ 159 → cI E b = cI C b := fun b z1 z2 => by
            rw [F3.c (fun j z => z1 z.1), r_In z2, FD.c (fun j z => z1 z.1)]
          have E59 : cI E 159 h = nI (tN x N (i + 1)) := by rw [F3.2 159 _ (by unfold W0; omega), r_I, if_pos ⟨rfl, rfl⟩]
          have E53 : cI E 145 53 = nI t.2.1 := by rw [F3.2 145 53 (by unfold W0; omega), r_In (by omega), FD.2 145 53 (by unfold W0; omega)]; exact h53
          have K : KpS C E := fun b z => oE b (by omega) (by omega)
          have u1 : ps x N (i + 1) + 1 ≤ ps x N (i + 2) := u1
          refine rt_ret ⟨F4, .inr (((tN x N (i + 1), t.1.2), t.2), i + 2), ?_, Or.inr ⟨_, _, rfl, p3, A, V, T, p3, ?_, ?_, ⟨by rw [oE 164 (by omega) (by omega)]; exact hA.1, by rw [oE 165 (by omega) (by omega)]; exact hA.2⟩, by rw [oE 166 (by omega) (by omega)]; exact hT, ⟨by omega, by omega, by omega⟩, E53⟩⟩
          · unfold spE
            rfl
          · subst t0
            obtain ⟨g1, g2, g3, g4, g5, g6, g7, g8⟩ := hS
            exact ⟨E59, by rw [oE 160 (by omega) (by omega)]; exact g2, fun q hq => absurd hq (Nat.not_lt_zero q), by rw [oE 161 (by omega) (by omega)]; exact g4, by rw [oE 162 (by omega) (by omega)]; exact g5, fun q hq => absurd hq (Nat.not_lt_zero q), by rw [oE 163 (by omega) (by omega)]; exact g7, fun q hq => absurd hq (Nat.not_lt_zero q)⟩
          · subst t0
            unfold TdM
            rw [oE 179 (by omega) (by omega)]
            refine ⟨hTd.1, fun p c hp hc => ?_⟩
            rw [hTd.2 p c hp hc, if_neg (fun z => absurd z.1 (Nat.not_lt_zero p)), if_neg (fun z => absurd z.1 (Nat.not_lt_zero p))]
        · obtain ⟨q1, q2, q3⟩ := m170f (n := n) (k := 2) (v := 2) pD (by omega) rfl
          rw [if_neg g, if_neg g, bd1 q1]
          dsimp only
          rw [if_neg (fun z => z rfl)]
          exact rt_ret (RC.fl (FD'.trans (q3.mono (fun _ _ z => W0.p z))) rfl q2)
      · obtain ⟨q1, q2, q3⟩ := m170f (n := n) (k := 1) (v := 1) pD (by omega) rfl
        rw [if_pos (fun z => by rcases a1.mp z with z | z; exact e8 z; exact e9 z), if_neg e8, bd1 q1]
        dsimp only
        rw [if_pos rfl]
        exact rt_ret (RC.fl (FD'.trans (q3.mono (fun _ _ z => W0.p z))) rfl q2)
  · obtain ⟨q1, q2, q3⟩ := m170f (n := n) (k := 4) (v := 4) hp (by omega) rfl
    rw [if_pos (by rw [x_eq0 (by omega)]; exact c0), if_neg (fun z => c0 (of_decide_eq_true z)), bd1 q1]
    dsimp only
    rw [if_neg (fun z => z rfl)]
    exact rt_ret (RC.fl (q3.mono (fun _ _ z => W0.p z)) rfl q2)
/-! a row -/
def tRow (n : Nat) (C : AmC) : Option (Unit × AmC) := (f_169 n 145 C).bind (fun z => match z with | (_, C143) => (cP C143 145 52).bind (fun r145 => (f_185 n 145 r145 ((30 : Int32) + ((4 : Int32) * (cI C143 145 53))) C143).bind (fun z => match z with | (_, C148) => (if (cI C148 145 51) = 0 then (cP C148 145 52).bind (fun r151 => if isK r151 12 = true then if amIn (cI C148 145 53) (aLen r151) = true then tCl n (uI (uI C148 r151 (Int32.toNatClampNeg (cI C148 145 53)) (1 : Int32)) 145 53 ((cI (uI C148 r151 (Int32.toNatClampNeg (cI C148 145 53)) (1 : Int32)) 145 53) + (1 : Int32))) else none else none) else some ((), C148)))))
theorem m_row (hn : 2300 ≤ n) (hP : PSm 0 C h x N i t A V T) (hO : TelOK t) (hk : tK x N i ≠ 132) (hr : t.2.1 < 30) : Rt (tRow n C) (fun _ C' => RC h x N C (spRow x N t i) C') := by
  obtain ⟨hp, hS, hTd, hA, hT, ⟨b1, b2, b3⟩, h53⟩ := hP
  have hh := hp.2.1
  have N9 := hp.2.2.2.1.1
  have pi := ps_le (x := x) (N := N) i
  have u0 := ps_1 (x := x) (N := N) (i := i) hk
  have c4 := hO.1.2.1
  obtain ⟨S, r, g⟩ := t
  have hr : r < 30 := hr
  have h53 : cI C 145 53 = nI r := h53
  unfold tRow spRow
  rw [if_pos hr]
  refine rt_bind (rt_mono (hp.go (by omega)) (fun _ D H => ?_))
  obtain ⟨pD, FD⟩ := H
  have FD' : FrZ (WP h) C D := FD.mono (fun _ _ z => W0.p z)
  have d53 : cI D 145 53 = nI r := by rw [FD.2 145 53 (by unfold W0; omega)]; exact h53
  dsimp only
  rw [bd1 (w_145_52 pD.1), d53, n_30, n_4, x_mul, x_add]
  refine rt_bind (rt_mono (m185 (a := 179) (r := 30 + 4 * r) (g := fun _ => 0) (by omega) c4 k_179 (by rw [l_179]; show 30 + 4 * r + sCols S ≤ 150; have : sCols S ≤ 4 := c4; omega) (by rw [l_179]; decide) (Or.inr rfl) pD (by rw [FD.2 159 h (by unfold W0; omega)]; exact hS.1)) (fun _ E H => ?_))
  obtain ⟨FE, H⟩ := H
  have FE : FrZ (WN 179 (30 + 4 * r) (sCols S)) D E := FE
  have c4 : sCols S ≤ 4 := c4
  have FE' : FrZ (WP h) C E := FD'.trans (FE.mono (fun b j z => by
    rcases z with z | z
    · exact W0.p z
    · exact Or.inr (Or.inl z.1)))
  have e53 : cI E 145 53 = nI r := by rw [FE.2 145 53 (by unfold WN W0; omega)]; exact d53
  have PE : PInv E := hp.1.of FE'.1
  dsimp only
  rcases H with ⟨k, j, er, fl⟩ | ⟨v, j, er, pE, hv⟩
  · rw [if_neg fl.bd]
    exact rt_ret (RC.fl FE' (by rw [er]) fl)
  · have up := spR_up _ _ _ _ _ _ er
    have pj := ps_le (x := x) (N := N) j
    rw [if_pos pE.2.2.2.2.2.1, bd1 (w_145_52 PE), if_pos k_179, e53, l_179, if_pos ((x_in (by omega)).mpr (by omega)), x_cl (by omega)]
    have q53 : cI (uI E 179 r 1) 145 53 = nI r := by rw [r_In (by omega)]; exact e53
    rw [q53, x_a1]
    have oX : ∀ b, b ≠ 179 → b ≠ 145 → cI (uI (uI E 179 r 1) 145 53 (nI (r + 1))) b = cI C b := fun b z1 z2 => by
      rw [r_In z2, r_In z1, FE.c (fun j z => by unfold WN W0 at z; omega), FD.c (fun j z => z2 z.1)]
    have o45 : ∀ f, f ≠ 53 → cI (uI (uI E 179 r 1) 145 53 (nI (r + 1))) 145 f = cI E 145 f := fun f z => by rw [r_I, if_neg (fun q => z q.2), r_In (by omega)]
    have X53 : cI (uI (uI E 179 r 1) 145 53 (nI (r + 1))) 145 53 = nI (r + 1) := by rw [r_I, if_pos ⟨rfl, rfl⟩]
    have FX : FrZ (WP h) C (uI (uI E 179 r 1) 145 53 (nI (r + 1))) := (FE'.u (Or.inr (Or.inl rfl))).u (by unfold WP; omega)
    have tE : ∀ y, ¬ (30 + 4 * r ≤ y ∧ y < 30 + 4 * r + sCols S) → cI E 179 y = cI C 179 y := fun y z => by rw [FE.2 179 y (by unfold WN W0; omega), FD.2 179 y (by unfold W0; omega)]
    have hTd : TdM C (sCols S) r g := hTd
    have TX : TdM (uI (uI E 179 r 1) 145 53 (nI (r + 1))) (sCols S) (r + 1) (fun p => if p = r then v else g p) := by
      refine ⟨fun p hp => ?_, fun p c hp hc => ?_⟩
      · rw [r_In (by omega), r_I]
        by_cases e : p = r
        · rw [if_pos ⟨rfl, e⟩, if_pos (by omega)]
        · rw [if_neg (fun q => e q.2), tE p (by omega), hTd.1 p hp]
          by_cases e2 : p < r
          · rw [if_pos e2, if_pos (by omega)]
          · rw [if_neg e2, if_neg (by omega)]
      · rw [r_In (by omega), r_I, if_neg (by omega)]
        by_cases e : p = r
        · subst e
          by_cases cc : c < sCols S
          · rw [if_pos ⟨by omega, cc⟩]
            show cI E 179 (30 + 4 * p + c) = (if p = p then v else g p) c
            rw [if_pos rfl]
            exact hv c cc
          · rw [tE _ (by omega), hTd.2 p c hp hc, if_neg (by omega), if_neg (by omega)]
        · rw [tE _ (by omega), hTd.2 p c hp hc]
          show _ = if p < r + 1 ∧ c < sCols S then (if p = r then v else g p) c else 0
          rw [if_neg e]
          by_cases e2 : p < r ∧ c < sCols S
          · rw [if_pos e2, if_pos (by omega)]
          · rw [if_neg e2, if_neg (by omega)]
    have pX : Pm (uI (uI E 179 r 1) 145 53 (nI (r + 1))) h x N j := pE.of rfl (fun f z1 z2 => o45 f (by omega)) (by rw [r_In (by omega), r_In (by omega)])
    have PX : PSm 1 (uI (uI E 179 r 1) 145 53 (nI (r + 1))) h x N j (S, r + 1, fun p => if p = r then v else g p) A V T := ⟨pX, hS.of (fun b z1 z2 => oX b (by omega) (by omega)), TX, ⟨by rw [oX 164 (by omega) (by omega)]; exact hA.1, by rw [oX 165 (by omega) (by omega)]; exact hA.2⟩, by rw [oX 166 (by omega) (by omega)]; exact hT, ⟨by omega, by omega, by omega⟩, X53⟩
    refine rt_mono (m_cl (by omega) PX hO.1 (by show r + 1 ≤ 30; omega) (by omega) (by omega) (by omega)) (fun _ D2 H => ?_)
    exact ⟨FX.trans H.1, _, by rw [spE_if (c := sClash 30 S (tlT (r + 1) (fun p => if p = r then v else g p)) = none) rfl, er], H.2⟩
/-! one of others -/
def tOthr (n : Nat) (C : AmC) : Option (Unit × AmC) := (f_169 n 145 C).bind (fun z => match z with | (_, C205) => (cP C205 145 31).bind (fun r207 => (cP C205 145 24).bind (fun r209 => if isK r209 12 = true then if amIn (cI C205 145 41) (aLen r209) = true then (f_185 n 145 r207 ((4 : Int32) * (((10 : Int32) * (cI C205 145 41)) + (cI C205 r209 (Int32.toNatClampNeg (cI C205 145 41))))) C205).bind (fun z => match z with | (_, C214) => (cP C214 145 24).bind (fun r216 => if isK r216 12 = true then if amIn (cI C214 145 41) (aLen r216) = true then if amIn (cI C214 145 41) (aLen r216) = true then some ((), uI C214 r216 (Int32.toNatClampNeg (cI C214 145 41)) ((cI C214 r216 (Int32.toNatClampNeg (cI C214 145 41))) + (1 : Int32))) else none else none else none)) else none else none)))
theorem m_oth (hn : 2300 ≤ n) (hP : PSm 0 C h x N i t A V T) (hO : TelOK t) (hk : tK x N i ≠ 132) (hr : (sOth t.1).length < 10) : Rt (tOthr n C) (fun _ C' => RC h x N C (spOth x N t i) C') := by
  obtain ⟨hp, hS, hTd, hA, hT, ⟨b1, b2, b3⟩, h53⟩ := hP
  have hh := hp.2.1
  have N9 := hp.2.2.2.1.1
  have pi := ps_le (x := x) (N := N) i
  have u0 := ps_1 (x := x) (N := N) (i := i) hk
  have c4 := hO.1.2.1
  obtain ⟨o, eo⟩ : ∃ o, o = (sOth t.1).length := ⟨_, rfl⟩
  have d62 : cI C 162 h = nI o := by rw [eo]; exact hS.2.2.2.2.1
  unfold tOthr spOth
  rw [if_pos hr]
  refine rt_bind (rt_mono (hp.go (by omega)) (fun _ D H => ?_))
  obtain ⟨pD, FD⟩ := H
  have FD' : FrZ (WP h) C D := FD.mono (fun _ _ z => W0.p z)
  have q62 : cI D 162 h = nI o := by rw [FD.2 162 _ (by unfold W0; omega)]; exact d62
  dsimp only
  rw [bd1 (w_145_31 pD.1), bd1 (w_145_24 pD.1), if_pos k_162, pD.2.2.1, l_162, if_pos ((x_in (by omega)).mpr hh), x_cl (by omega), q62, n_10, n_4, x_mul, x_add, x_mul]
  refine rt_bind (rt_mono (m185 (a := 169) (r := 4 * (10 * h + o)) (g := fun _ => 0) (by omega) c4 k_169 (by rw [l_169]; omega) (by rw [l_169]; decide) (Or.inl rfl) pD (by rw [FD.2 159 h (by unfold W0; omega)]; exact hS.1)) (fun _ E H => ?_))
  obtain ⟨FE, H⟩ := H
  have FE' : FrZ (WP h) C E := FD'.trans (FE.mono (fun b j z => by
    rcases z with z | z
    · exact W0.p z
    · unfold WP; omega))
  have PE : PInv E := hp.1.of FE'.1
  have e41 : cI E 145 41 = nI h := by rw [FE.2 145 41 (by unfold WN W0; omega)]; exact pD.2.2.1
  have e62 : cI E 162 h = nI o := by rw [FE.2 162 _ (by unfold WN W0; omega)]; exact q62
  dsimp only
  rw [bd1 (w_145_24 PE), if_pos k_162, e41, l_162, if_pos ((x_in (by omega)).mpr hh), if_pos ((x_in (by omega)).mpr hh), x_cl (by omega), e62, x_a1]
  have FX : FrZ (WP h) C (uI E 162 h (nI (o + 1))) := FE'.u (by unfold WP; omega)
  have o45 : cI (uI E 162 h (nI (o + 1))) 145 = cI E 145 := r_In (by omega)
  rcases H with ⟨k, j, er, fl⟩ | ⟨v, j, er, pE, hv⟩
  · exact rt_ret (RC.fl FX (by rw [er]) (fl.of (by rw [o45]) (by rw [o45])))
  · have up := spR_up _ _ _ _ _ _ er
    have oX : ∀ b, b ≠ 162 → b ≠ 169 → b ≠ 145 → cI (uI E 162 h (nI (o + 1))) b = cI C b := fun b z0 z1 z2 => by
      rw [r_In z0, FE.c (fun j z => by unfold WN W0 at z; omega), FD.c (fun j z => z2 z.1)]
    have pX : Pm (uI E 162 h (nI (o + 1))) h x N j := pE.of rfl (fun f _ _ => by rw [o45]) (r_In (by omega))
    have K : KpS C (uI E 162 h (nI (o + 1))) := fun b z => oX b (by omega) (by omega) (by omega)
    obtain ⟨g1, g2, g3, g4, g5, g6, g7, g8⟩ := hS
    have li : (sOth t.1 ++ [v]).length = o + 1 := by rw [List.length_append, List.length_singleton, eo]
    refine rt_ret ⟨FX, .inr (((t.1.1, t.1.2.1, t.1.2.2.1, t.1.2.2.2.1 ++ [v], t.1.2.2.2.2), t.2), j), ?_, Or.inr ⟨_, _, rfl, pX, A, V, T, pX, ⟨?_, ?_, ?_, ?_, ?_, ?_, ?_, fun i hi => K.stm (g8 i hi)⟩, ?_, ⟨by rw [oX 164 (by omega) (by omega) (by omega)]; exact hA.1, by rw [oX 165 (by omega) (by omega) (by omega)]; exact hA.2⟩, by rw [oX 166 (by omega) (by omega) (by omega)]; exact hT, ⟨by omega, by omega, by omega⟩, ?_⟩⟩
    · rw [er]
      rfl
    · rw [oX 159 (by omega) (by omega) (by omega)]; exact g1
    · rw [oX 160 (by omega) (by omega) (by omega)]; exact g2
    · rw [oX 167 (by omega) (by omega) (by omega), oX 168 (by omega) (by omega) (by omega)]; exact g3
    · rw [oX 161 (by omega) (by omega) (by omega)]; exact g4
    · show cI (uI E 162 h (nI (o + 1))) 162 h = nI (sOth t.1 ++ [v]).length
      rw [li, r_I, if_pos ⟨rfl, rfl⟩]
    · intro q hq c hc
      have hq : q < (sOth t.1 ++ [v]).length := hq
      have hc : c < sCols t.1 := hc
      rw [li] at hq
      show cI (uI E 162 h (nI (o + 1))) 169 (4 * (10 * h + q) + c) = (sOth t.1 ++ [v]).getD q (fun _ => 0) c
      rw [r_In (by omega)]
      by_cases d : q < (sOth t.1).length
      · rw [FE.2 169 _ (by unfold WN W0; omega), FD.2 169 _ (by unfold W0; omega), List.getD_eq_getElem?_getD, List.getElem?_append_left d]
        have := g6 q d c hc
        unfold othN at this
        rw [List.getD_eq_getElem?_getD] at this
        exact this
      · have : q = o := by omega
        subst this
        rw [hv c hc, List.getD_eq_getElem?_getD, eo, List.getElem?_append_right (Nat.le_refl _)]
        simp
    · rw [oX 163 (by omega) (by omega) (by omega)]; exact g7
    · exact TdM.of hTd (oX 179 (by omega) (by omega) (by omega))
    · rw [o45, FE.2 145 53 (by unfold WN W0; omega), FD.2 145 53 (by unfold W0; omega)]; exact h53
/-! a statement -/
theorem m_stm (hn : 3700 ≤ n) (hP : PSm 0 C h x N i t A V T) (hO : TelOK t) (hk : 205 ≤ tK x N i ∧ tK x N i ≤ 208) : Rt ((f_183 n 145 C).bind (fun z => match z with | (_, C483) => some ((), C483))) (fun _ C' => RC h x N C (spSt x N t i) C') := by
  obtain ⟨hp, hS, hTd, hA, hT, ⟨b1, b2, b3⟩, h53⟩ := hP
  have hh := hp.2.1
  have l8 := hO.1.2.2.2.2.2.2.2.1
  obtain ⟨m, em⟩ : ∃ m, m = (sStm t.1).length := ⟨_, rfl⟩
  have e63 : cI C 163 h = nI m := by rw [em]; exact hS.2.2.2.2.2.2.1
  unfold spSt
  rw [← em]
  by_cases hm : m < 8
  · rw [if_pos hm]
    refine rt_bind (rt_mono (m183 (cols := sCols t.1) (by omega) hO.1.1 hO.1.2.1 hm hk hp hS.1 hA (by omega) b2 b3 hT e63) (fun _ D H => ?_))
    obtain ⟨F, H⟩ := H
    have FP : FrZ (WP h) C D := F.mono (fun _ _ z => WQ.p hm z)
    rcases H with ⟨k, j, er, fl⟩ | ⟨s, j, er, p, A', V', T', ⟨c1, c2, c3, c4, c5⟩, t1, t2, t3, t4, sl⟩
    · exact rt_ret (RC.fl FP (by rw [er]; rfl) fl)
    · have oD : ∀ b j, ¬ WQ h A V T (8 * h + m) b j → cI D b j = cI C b j := F.2
      obtain ⟨g1, g2, g3, g4, g5, g6, g7, g8⟩ := hS
      have li : (sStm t.1 ++ [s]).length = m + 1 := by rw [List.length_append, List.length_singleton, em]
      refine rt_ret ⟨FP, .inr ((scSt t.1 s, t.2), j), ?_, Or.inr ⟨_, _, rfl, p, A', V', T', p, ⟨?_, ?_, ?_, ?_, ?_, ?_, ?_, ?_⟩, ?_, c3, t2, ⟨c4, c5, t3⟩, ?_⟩⟩
      · rw [er]
        unfold spE
        dsimp only
        by_cases e : tK x N j = 59
        · rw [if_pos e, if_pos e]
        · rw [if_neg e, if_neg e]
      · rw [oD 159 _ (by unfold WQ WV WA W0; omega)]; exact g1
      · rw [oD 160 _ (by unfold WQ WV WA W0; omega)]; exact g2
      · intro q hq
        rw [oD 167 _ (by unfold WQ WV WA W0; omega), oD 168 _ (by unfold WQ WV WA W0; omega)]; exact g3 q hq
      · rw [oD 161 _ (by unfold WQ WV WA W0; omega)]; exact g4
      · rw [oD 162 _ (by unfold WQ WV WA W0; omega)]; exact g5
      · intro q hq c hc
        rw [oD 169 _ (by unfold WQ WV WA W0; omega)]; exact g6 q hq c hc
      · show cI D 163 h = nI (sStm t.1 ++ [s]).length
        rw [li]; exact t4
      · intro q hq
        have hq : q < (sStm t.1 ++ [s]).length := hq
        show StmL D h A' V' T' (8 * h + q) (sStm t.1 ++ [s])[q]
        by_cases d : q < (sStm t.1).length
        · rw [List.getElem_append_left d]
          exact (g8 q d).keep (F.kp (fun b j z => by unfold WQ WV WA W0; omega)) (fun b z1 z2 => oD b _ (by unfold WQ WV WA W0; omega)) (fun b c z1 z2 => oD b _ (by unfold WQ WV WA W0; omega)) (fun b j z1 z2 z3 z4 => oD b j (by unfold WQ WV WA W0; omega)) c1 c2 t1
        · have : q = (sStm t.1).length := by omega
          subst this
          rw [cat_last, ← em]
          exact sl
      · exact TdM.of hTd (F.c (fun j => by unfold WQ WV WA W0; omega))
      · rw [oD 145 _ (by unfold WQ WV WA W0; omega)]; exact h53
  · rw [if_neg hm]
    refine rt_bind (rt_mono (m183_8 hp e63 hm (by omega)) (fun _ D H => ?_))
    exact rt_ret (RC.fl (H.1.mono (fun _ _ z => W0.p z)) rfl H.2)
end
