/-! The reference reads an index. -/
def tAdd (n : Nat) (ky : Int32) (D : AmC) : Option (Unit × AmC) := (if ky = 0 then (cP D 145 22).bind (fun r323 => if isK r323 12 = true then if amIn (cI D 145 41) (aLen r323) = true then if amIn (cI D 145 41) (aLen r323) = true then (f_172 n 145 (59 : Int32) (uI D r323 (Int32.toNatClampNeg (cI D 145 41)) ((cI D r323 (Int32.toNatClampNeg (cI D 145 41))) + (1 : Int32)))).bind (fun z => match z with | (q328, C329) => (if q328 = 0 then (f_170 n 145 (1 : Int32) (4 : Int32) C329).bind (fun z => match z with | (q332, C333) => some ((), C333)) else (cP C329 145 52).bind (fun r335 => (f_192 n 145 r335 (0 : Int32) (30 : Int32) (cI C329 145 41) C329).bind (fun z => match z with | (q337, C338) => (if ¬ q337 = (-1 : Int32) then (f_170 n 145 (0 : Int32) (4 : Int32) C338).bind (fun z => match z with | (q341, C342) => some ((), C342)) else (f_170 n 145 (1 : Int32) (4 : Int32) C338).bind (fun z => match z with | (q344, C345) => some ((), C345))))))) else none else none else none) else (cP D 145 23).bind (fun r347 => if isK r347 12 = true then if amIn (cI D 145 41) (aLen r347) = true then (cP D 145 22).bind (fun r351 => if isK r351 12 = true then if amIn (cI D 145 41) (aLen r351) = true then if amIn (cI D 145 41) (aLen r347) = true then (cP (uI D r347 (Int32.toNatClampNeg (cI D 145 41)) ((cI D r347 (Int32.toNatClampNeg (cI D 145 41))) ||| ((1 : Int32) <<< ((cI D r351 (Int32.toNatClampNeg (cI D 145 41))) &&& 31)))) 145 22).bind (fun r356 => if isK r356 12 = true then if amIn (cI (uI D r347 (Int32.toNatClampNeg (cI D 145 41)) ((cI D r347 (Int32.toNatClampNeg (cI D 145 41))) ||| ((1 : Int32) <<< ((cI D r351 (Int32.toNatClampNeg (cI D 145 41))) &&& 31)))) 145 41) (aLen r356) = true then if amIn (cI (uI D r347 (Int32.toNatClampNeg (cI D 145 41)) ((cI D r347 (Int32.toNatClampNeg (cI D 145 41))) ||| ((1 : Int32) <<< ((cI D r351 (Int32.toNatClampNeg (cI D 145 41))) &&& 31)))) 145 41) (aLen r356) = true then (f_172 n 145 (59 : Int32) (uI (uI D r347 (Int32.toNatClampNeg (cI D 145 41)) ((cI D r347 (Int32.toNatClampNeg (cI D 145 41))) ||| ((1 : Int32) <<< ((cI D r351 (Int32.toNatClampNeg (cI D 145 41))) &&& 31)))) r356 (Int32.toNatClampNeg (cI (uI D r347 (Int32.toNatClampNeg (cI D 145 41)) ((cI D r347 (Int32.toNatClampNeg (cI D 145 41))) ||| ((1 : Int32) <<< ((cI D r351 (Int32.toNatClampNeg (cI D 145 41))) &&& 31)))) 145 41)) ((cI (uI D r347 (Int32.toNatClampNeg (cI D 145 41)) ((cI D r347 (Int32.toNatClampNeg (cI D 145 41))) ||| ((1 : Int32) <<< ((cI D r351 (Int32.toNatClampNeg (cI D 145 41))) &&& 31)))) r356 (Int32.toNatClampNeg (cI (uI D r347 (Int32.toNatClampNeg (cI D 145 41)) ((cI D r347 (Int32.toNatClampNeg (cI D 145 41))) ||| ((1 : Int32) <<< ((cI D r351 (Int32.toNatClampNeg (cI D 145 41))) &&& 31)))) 145 41))) + (1 : Int32)))).bind (fun z => match z with | (q361, C362) => (if q361 = 0 then (f_170 n 145 (1 : Int32) (4 : Int32) C362).bind (fun z => match z with | (q365, C366) => some ((), C366)) else (cP C362 145 52).bind (fun r368 => (f_192 n 145 r368 (0 : Int32) (30 : Int32) (cI C362 145 41) C362).bind (fun z => match z with | (q370, C371) => (if ¬ q370 = (-1 : Int32) then (f_170 n 145 (0 : Int32) (4 : Int32) C371).bind (fun z => match z with | (q374, C375) => some ((), C375)) else (f_170 n 145 (1 : Int32) (4 : Int32) C371).bind (fun z => match z with | (q377, C378) => some ((), C378))))))) else none else none else none) else none else none else none) else none else none))
section
variable {n h i j N A V T m r : Nat} {C C' : AmC} {x : Nat → Nat} {t : Tel}
theorem spE_if {r0 : PE Tel} {c : Prop} [Decidable c] {t2 : Tel} (e0 : r0 = if tK x N j = 59 ∧ ¬ c then .inl (4, j) else .inr (t2, j)) : spE x N r0 = if tK x N j = 59 then (if c then .inr (t2, j + 1) else .inl (4, j)) else .inl (1, j) := by
  rw [e0]
  by_cases e : tK x N j = 59
  · by_cases hc : c
    · rw [if_neg (fun z => z.2 hc), if_pos e, if_pos hc]
      unfold spE
      dsimp only
      rw [if_pos e]
    · rw [if_pos ⟨e, hc⟩, if_pos e, if_neg hc]
      rfl
  · rw [if_neg (fun z => e z.1), if_neg e]
    unfold spE
    dsimp only
    rw [if_neg e]
theorem m_add {D : AmC} {ky : Bool} {a : Nat} {b : Option Nat} {q : PE Tel} (hn : 2200 ≤ n) (F : FrZ (WP h) C D) (hp : Pm D h x N j) (em : m = (sIdx t.1).length) (hm : m < 3) (dS : ScrL D h A V T t.1) (dTd : TdM D (sCols t.1) t.2.1 t.2.2) (dA : AM D h A V) (dT : cI D 166 h = nI T) (bd : 2 * A ≤ ps x N j + 1 ∧ 3 * V ≤ ps x N j ∧ 6 * T ≤ ps x N j) (d53 : cI D 145 53 = nI t.2.1) (e7 : cI D 167 (3 * h + m) = nI a) (e8 : cI D 168 (3 * h + m) = oI b) (hO : ScrOK (scIx t.1 (a, b) ky)) (r30 : t.2.1 ≤ 30) (er : q = if tK x N j = 59 then (if sClash 30 (scIx t.1 (a, b) ky) (tlT t.2.1 t.2.2) = none then .inr ((scIx t.1 (a, b) ky, t.2), j + 1) else .inl (4, j)) else .inl (1, j)) : Rt (tAdd n (if ky = true then 1 else 0) D) (fun _ C' => RC h x N C q C') := by
  have hh := hp.2.1
  have P := hp.1
  have pj := ps_le (x := x) (N := N) j
  have N9 := hp.2.2.2.1.1
  have d60 : cI D 160 h = nI m := by rw [em]; exact dS.2.1
  -- behind the count
  have fin : ∀ E, FrZ (WP h) D E → (∀ b, b ≠ 160 → b ≠ 161 → cI E b = cI D b) → cI E 160 h = nI (m + 1) → cI E 161 h = sKeys (scIx t.1 (a, b) ky) → Rt (tCl n E) (fun _ C' => RC h x N C q C') := by
    intro E FE oE e60 e61
    have pE : Pm E h x N j := hp.of FE.1 (fun _ _ _ => by rw [oE 145 (by omega) (by omega)]) (oE 178 (by omega) (by omega))
    have K : KpS D E := fun b z => oE b (by omega) (by omega)
    obtain ⟨g1, g2, g3, g4, g5, g6, g7, g8⟩ := dS
    have li : (sIdx t.1 ++ [(a, b)]).length = m + 1 := by rw [List.length_append, List.length_singleton, em]
    have S3 : ScrL E h A V T (scIx t.1 (a, b) ky) := by
      refine ⟨?_, ?_, ?_, e61, ?_, ?_, ?_, fun i hi => K.stm (g8 i hi)⟩
      · rw [oE 159 (by omega) (by omega)]; exact g1
      · show cI E 160 h = nI (sIdx t.1 ++ [(a, b)]).length
        rw [li]; exact e60
      · intro q hq
        have hq : q < (sIdx t.1 ++ [(a, b)]).length := hq
        rw [li] at hq
        show cI E 167 (3 * h + q) = nI ((sIdx t.1 ++ [(a, b)]).getD q (0, none)).1 ∧ cI E 168 (3 * h + q) = oI ((sIdx t.1 ++ [(a, b)]).getD q (0, none)).2
        rw [oE 167 (by omega) (by omega), oE 168 (by omega) (by omega)]
        by_cases d : q < (sIdx t.1).length
        · rw [List.getD_eq_getElem?_getD, List.getElem?_append_left d]
          have := g3 q d
          unfold ix1 ix2 at this
          rw [List.getD_eq_getElem?_getD] at this
          exact this
        · have : q = m := by omega
          subst this
          rw [e7, e8, List.getD_eq_getElem?_getD, em, List.getElem?_append_right (Nat.le_refl _)]
          simp
      · rw [oE 162 (by omega) (by omega)]; exact g5
      · rw [oE 169 (by omega) (by omega)]; exact g6
      · rw [oE 163 (by omega) (by omega)]; exact g7
    have PE : PSm 1 E h x N j (scIx t.1 (a, b) ky, t.2) A V T := ⟨pE, S3, dTd.of (oE 179 (by omega) (by omega)), ⟨by rw [oE 164 (by omega) (by omega)]; exact dA.1, by rw [oE 165 (by omega) (by omega)]; exact dA.2⟩, by rw [oE 166 (by omega) (by omega)]; exact dT, bd, by rw [oE 145 (by omega) (by omega)]; exact d53⟩
    refine rt_mono (m_cl hn PE hO r30 (by omega) (by omega) (by omega)) (fun _ D2 H => ?_)
    exact ⟨(F.trans FE).trans H.1, _, by rw [spE_if (c := sClash 30 (scIx t.1 (a, b) ky) (tlT t.2.1 t.2.2) = none) rfl, er], H.2⟩
  unfold tAdd
  rcases bcs ky with k | k
  · subst k
    rw [if_pos (show (if false = true then (1 : Int32) else 0) = 0 from rfl), bd1 (w_145_22 P), if_pos k_160, hp.2.2.1, l_160, if_pos ((x_in (by omega)).mpr hh), if_pos ((x_in (by omega)).mpr hh), x_cl (by omega), d60, x_a1]
    refine fin _ ((FrZ.refl D).u (by unfold WP; omega)) (fun b z1 _ => r_In z1) (by rw [r_I, if_pos ⟨rfl, rfl⟩]) ?_
    rw [r_In (by omega)]
    exact dS.2.2.2.1
  · subst k
    rw [if_neg (show ¬ (if true = true then (1 : Int32) else 0) = 0 by decide), bd1 (w_145_23 P), if_pos k_161, hp.2.2.1, l_161, if_pos ((x_in (by omega)).mpr hh), bd1 (w_145_22 P), if_pos k_160, l_160, if_pos ((x_in (by omega)).mpr hh), if_pos ((x_in (by omega)).mpr hh), x_cl (by omega), d60, dS.2.2.2.1]
    have q41 : cI (uI D 161 h (sKeys t.1 ||| ((1 : Int32) <<< (nI m &&& 31)))) 145 41 = nI h := by rw [r_In (by omega)]; exact hp.2.2.1
    have q60 : cI (uI D 161 h (sKeys t.1 ||| ((1 : Int32) <<< (nI m &&& 31)))) 160 h = nI m := by rw [r_In (by omega)]; exact d60
    rw [bd1 (show cP (uI D 161 h (sKeys t.1 ||| ((1 : Int32) <<< (nI m &&& 31)))) 145 22 = some 160 by rw [p_I]; exact w_145_22 P), if_pos k_160, q41, l_160, if_pos ((x_in (by omega)).mpr hh), if_pos ((x_in (by omega)).mpr hh), x_cl (by omega), q60, x_a1]
    refine fin _ (((FrZ.refl D).u (by unfold WP; omega)).u (by unfold WP; omega)) (fun b z1 z2 => by rw [r_In z1, r_In z2]) (by rw [r_I, if_pos ⟨rfl, rfl⟩]) ?_
    rw [r_In (by omega), r_I, if_pos ⟨rfl, rfl⟩, em]
    rfl
theorem m186 {ky : Bool} (hn : 2300 ≤ n) (hP : PSm 0 C h x N i t A V T) (hO : TelOK t) (hk : tK x N i ≠ 132) : Rt (f_186 n 145 (if ky = true then 1 else 0) C) (fun _ C' => RC h x N C (spK x N ky t i) C') := by
  obtain ⟨hp, hS, hTd, hA, hT, ⟨b1, b2, b3⟩, h53⟩ := hP
  have P := hp.1
  have hh := hp.2.1
  have e41 := hp.2.2.1
  have N9 := hp.2.2.2.1.1
  have pi := ps_le (x := x) (N := N) i
  have c4 := hO.1.2.1
  have l3 := hO.1.2.2.1
  have u0 := ps_1 (x := x) (N := N) (i := i) hk
  obtain ⟨m, em⟩ : ∃ m, m = (sIdx t.1).length := ⟨_, rfl⟩
  have d60 : cI C 160 h = nI m := by rw [em]; exact hS.2.1
  unfold f_186 spK
  rw [if_pos k_145, bd1 (w_145_22 P), if_pos k_160, e41, l_160, if_pos ((x_in (by omega)).mpr hh), x_cl (by omega), d60, n_3, ← em]
  by_cases hm : m < 3
  · rw [if_neg (by rw [x_le (by omega) (by omega)]; omega), if_pos hm, bd1 (m170t hp (by decide))]
    dsimp only
    rw [if_pos (by decide)]
    refine rt_bind (rt_mono (hp.go (by omega)) (fun _ D H => ?_))
    obtain ⟨pD, FD⟩ := H
    have q60 : cI D 160 h = nI m := by rw [FD.2 160 _ (by unfold W0; omega)]; exact d60
    have s6 : 3 * h + m < 6 := by omega
    dsimp only
    rw [bd1 (w_145_22 pD.1), if_pos k_160, pD.2.2.1, l_160, if_pos ((x_in (by omega)).mpr hh), bd1 (w_145_29 pD.1)]
    refine rt_bind (rt_mono (m176 (cols := sCols t.1) (by omega) pD (by rw [FD.2 159 h (by unfold W0; omega)]; exact hS.1) c4) (fun z D2 H => ?_))
    obtain ⟨F2, H⟩ := H
    have F2 := FD.trans F2
    have P2 : PInv D2 := P.of F2.1
    dsimp only
    rw [if_pos k_167, x_cl (by omega), q60, x_mul, x_add, l_167, if_pos ((x_in (by omega)).mpr s6), x_cl (by omega), bd1 (show cP (uI D2 167 (3 * h + m) z) 145 30 = some 168 by rw [p_I]; exact w_145_30 P2), if_pos k_168, l_168, if_pos ((x_in (by omega)).mpr s6)]
    have FE : FrZ (WP h) C (uI (uI D2 167 (3 * h + m) z) 168 (3 * h + m) (-1)) := ((F2.mono (W' := WP h) (fun _ _ z => W0.p z)).u (by unfold WP; omega)).u (by unfold WP; omega)
    have oE : ∀ b, b ≠ 167 → b ≠ 168 → cI (uI (uI D2 167 (3 * h + m) z) 168 (3 * h + m) (-1)) b = cI D2 b := fun b z1 z2 => by rw [r_In z2, r_In z1]
    have E7 : ∀ y, cI (uI (uI D2 167 (3 * h + m) z) 168 (3 * h + m) (-1)) 167 y = if y = 3 * h + m then z else cI C 167 y := fun y => by
      rw [r_In (by omega), r_I]
      by_cases e : y = 3 * h + m
      · rw [if_pos ⟨rfl, e⟩, if_pos e]
      · rw [if_neg (fun q => e q.2), if_neg e, F2.2 167 _ (by unfold W0; omega)]
    have E8 : ∀ y, cI (uI (uI D2 167 (3 * h + m) z) 168 (3 * h + m) (-1)) 168 y = if y = 3 * h + m then -1 else cI C 168 y := fun y => by
      rw [r_I]
      by_cases e : y = 3 * h + m
      · rw [if_pos ⟨rfl, e⟩, if_pos e]
      · rw [if_neg (fun q => e q.2), if_neg e, r_In (by omega), F2.2 168 _ (by unfold W0; omega)]
    have PE : PInv (uI (uI D2 167 (3 * h + m) z) 168 (3 * h + m) (-1)) := P.of FE.1
    rcases H with ⟨k, j, er, fl⟩ | ⟨a, j, er, p2, rfl⟩
    · have flE : FltM (uI (uI D2 167 (3 * h + m) z) 168 (3 * h + m) (-1)) x N k j := fl.of (by rw [oE 145 (by omega) (by omega)]) (by rw [oE 145 (by omega) (by omega)])
      obtain ⟨b, eb⟩ := m175x (n := n) (C := uI (uI D2 167 (3 * h + m) z) 168 (3 * h + m) (-1))
      rw [bd1 eb]
      dsimp only
      have res : Rt (some ((), uI (uI D2 167 (3 * h + m) z) 168 (3 * h + m) (-1))) (fun _ C' => RC h x N C (match spC x N (sCols t.1) (i + 1) with
        | .inl e => .inl e
        | .inr (a, j) => match spKo x N (sCols t.1) j a with
          | .inl e => .inl e
          | .inr (b, j2) => if tK x N j2 = 59 then (if sClash 30 (scIx t.1 (a, b) ky) (tlT t.2.1 t.2.2) = none then .inr ((scIx t.1 (a, b) ky, t.2), j2 + 1) else .inl (4, j2)) else .inl (1, j2)) C') := rt_ret (RC.fl FE (by rw [er]) flE)
      by_cases b0 : b = 0
      · rw [if_pos b0, if_neg flE.bd]
        exact res
      · rw [if_neg b0, if_pos flE.bd, if_neg flE.bd]
        exact res
    · obtain ⟨t1, _, al, rfl⟩ := spC_ps er
      have u1 := ps_1 (x := x) (N := N) (i := i + 1) (by omega)
      have pj := ps_le (x := x) (N := N) (i + 1 + 1)
      have pE : Pm (uI (uI D2 167 (3 * h + m) (nI a)) 168 (3 * h + m) (-1)) h x N (i + 1 + 1) := p2.of rfl (fun _ _ _ => by rw [oE 145 (by omega) (by omega)]) (oE 178 (by omega) (by omega))
      -- what it bears, whatever stands at the new index
      have bears : ∀ E, (∀ b, b ≠ 145 → b ≠ 167 → b ≠ 168 → cI E b = cI C b) → (∀ q, q < m → cI E 167 (3 * h + q) = cI C 167 (3 * h + q) ∧ cI E 168 (3 * h + q) = cI C 168 (3 * h + q)) → cI E 145 53 = cI C 145 53 → ScrL E h A V T t.1 ∧ TdM E (sCols t.1) t.2.1 t.2.2 ∧ AM E h A V ∧ cI E 166 h = nI T ∧ cI E 145 53 = nI t.2.1 := by
        intro E o i7 o53
        obtain ⟨g1, g2, g3, g4, g5, g6, g7, g8⟩ := hS
        have K : KpS C E := fun b z => o b (by omega) (by omega) (by omega)
        refine ⟨⟨by rw [o 159 (by omega) (by omega) (by omega)]; exact g1, by rw [o 160 (by omega) (by omega) (by omega)]; exact g2, fun q hq => by rw [(i7 q (by omega)).1, (i7 q (by omega)).2]; exact g3 q hq, by rw [o 161 (by omega) (by omega) (by omega)]; exact g4, by rw [o 162 (by omega) (by omega) (by omega)]; exact g5, by rw [o 169 (by omega) (by omega) (by omega)]; exact g6, by rw [o 163 (by omega) (by omega) (by omega)]; exact g7, fun i hi => K.stm (g8 i hi)⟩, hTd.of (o 179 (by omega) (by omega) (by omega)), ⟨by rw [o 164 (by omega) (by omega) (by omega)]; exact hA.1, by rw [o 165 (by omega) (by omega) (by omega)]; exact hA.2⟩, by rw [o 166 (by omega) (by omega) (by omega)]; exact hT, by rw [o53]; exact h53⟩
      have o2 : ∀ b, b ≠ 145 → cI D2 b = cI C b := fun b hb => F2.c (fun j z => hb z.1)
      rw [er]
      dsimp only
      have key := bears (uI (uI D2 167 (3 * h + m) (nI a)) 168 (3 * h + m) (-1)) (fun b z1 z2 z3 => by rw [oE b z2 z3, o2 b z1]) (fun q hq => by rw [E7, if_neg (by omega), E8, if_neg (by omega)]; exact ⟨rfl, rfl⟩) (by rw [oE 145 (by omega) (by omega), F2.2 145 53 (by unfold W0; omega)])
      have c7 := E7 (3 * h + m)
      have c8 := E8 (3 * h + m)
      rw [if_pos rfl] at c7 c8
      have E7n : ∀ q, q < m → cI (uI (uI D2 167 (3 * h + m) (nI a)) 168 (3 * h + m) (-1)) 167 (3 * h + q) = cI C 167 (3 * h + q) ∧ cI (uI (uI D2 167 (3 * h + m) (nI a)) 168 (3 * h + m) (-1)) 168 (3 * h + q) = cI C 168 (3 * h + q) := fun q hq => by rw [E7, if_neg (by omega), E8, if_neg (by omega)]; exact ⟨rfl, rfl⟩
      have oEC : ∀ b, b ≠ 145 → b ≠ 167 → b ≠ 168 → cI (uI (uI D2 167 (3 * h + m) (nI a)) 168 (3 * h + m) (-1)) b = cI C b := fun b z1 z2 z3 => by rw [oE b z2 z3, o2 b z1]
      have e53 : cI (uI (uI D2 167 (3 * h + m) (nI a)) 168 (3 * h + m) (-1)) 145 53 = cI C 145 53 := by rw [oE 145 (by omega) (by omega), F2.2 145 53 (by unfold W0; omega)]
      clear E7 E8 oE
      generalize uI (uI D2 167 (3 * h + m) (nI a)) 168 (3 * h + m) (-1) = E at FE PE pE key c7 c8 E7n oEC e53
      obtain ⟨k1, k2, k3, k4, k5⟩ := key
      rw [bd1 (m175 pE)]
      dsimp only
      by_cases e : tK x N (i + 1 + 1) = 130
      · obtain ⟨_, _, a3, _, _⟩ := at_1 pE.at
        obtain ⟨v1, v2⟩ := a3 e
        have n17 : (17 : Int32) = nI 17 := rfl
        have u2 := ps_1 (x := x) (N := N) (i := i + 1 + 1) (by omega)
        rw [if_pos e, if_neg (by decide), if_neg (fun z => z pE.2.2.2.2.2.1), bd1 (w_145_29 PE), if_pos k_167, l_167, if_pos ((x_in (by omega)).mpr s6), v2, n17, x_sub (by omega), show 17 + tN x N (i + 1 + 1) - 17 = tN x N (i + 1 + 1) by omega, c7]
        unfold spKo
        rw [if_pos e]
        by_cases d : tN x N (i + 1 + 1) = a
        · obtain ⟨q1, q2, q3⟩ := m170f (n := n) (k := 3) (v := nI 3) pE (by omega) rfl
          have PW : PInv (wF E (nI 3)) := PE.of q3.1
          rw [if_pos ((x_eq (by omega) (by omega)).mpr d), if_pos d, bd1 q1]
          dsimp only
          rw [bd1 (w_145_30 PW), bd1 (b176 q2.bd)]
          dsimp only
          have fl3 : FltM (uI (wF E (nI 3)) 168 (3 * h + m) 0) x N 3 (i + 1 + 1) := q2.of (by rw [r_In (by omega)]) (by rw [r_In (by omega)])
          rw [if_pos k_168, l_168, if_pos ((x_in (by omega)).mpr s6), if_neg fl3.bd]
          exact rt_ret (RC.fl ((FE.trans (q3.mono (fun _ _ z => W0.p z))).u (by unfold WP; omega)) rfl fl3)
        · rw [if_neg (by rw [x_eq (by omega) (by omega)]; exact d), if_neg d, bd1 (m170t pE (by decide))]
          dsimp only
          rw [bd1 (w_145_30 PE)]
          refine rt_bind (rt_mono (m176 (cols := sCols t.1) (by omega) pE k1.1 c4) (fun z D3 H => ?_))
          obtain ⟨F3, H⟩ := H
          have F3' : FrZ (WP h) C (uI D3 168 (3 * h + m) z) := (FE.trans (F3.mono (fun _ _ z => W0.p z))).u (by unfold WP; omega)
          have o3 : ∀ b, b ≠ 168 → cI (uI D3 168 (3 * h + m) z) b = cI D3 b := fun b z1 => r_In z1
          dsimp only
          rw [if_pos k_168, l_168, if_pos ((x_in (by omega)).mpr s6)]
          rcases H with ⟨k, j, er3, fl⟩ | ⟨c, j, er3, p3, rfl⟩
          · have fl3 : FltM (uI D3 168 (3 * h + m) z) x N k j := fl.of (by rw [o3 145 (by omega)]) (by rw [o3 145 (by omega)])
            rw [if_neg fl3.bd]
            refine rt_ret (RC.fl F3' ?_ fl3)
            unfold spC at er3
            rw [if_pos e] at er3
            by_cases g : tN x N (i + 1 + 1) < sCols t.1
            · rw [if_pos g] at er3; cases er3
            · rw [if_neg g] at er3 ⊢
              cases er3
              rfl
          · obtain ⟨_, cc, cl, rfl⟩ := spC_ps er3
            subst cc
            have pF : Pm (uI D3 168 (3 * h + m) (nI (tN x N (i + 1 + 1)))) h x N (i + 1 + 1 + 1) := p3.of rfl (fun _ _ _ => by rw [o3 145 (by omega)]) (o3 178 (by omega))
            rw [if_pos pF.2.2.2.2.2.1, if_pos cl]
            dsimp only
            obtain ⟨y1, y2, y3, y4, y5⟩ := bears (uI D3 168 (3 * h + m) (nI (tN x N (i + 1 + 1)))) (fun b z1 z2 z3 => by rw [o3 b z3, F3.c (fun j z => z1 z.1), oEC b z1 z2 z3]) (fun q hq => by rw [o3 167 (by omega), F3.2 167 _ (by unfold W0; omega), r_I, if_neg (by omega), F3.2 168 _ (by unfold W0; omega)]; exact E7n q hq) (by rw [o3 145 (by omega), F3.2 145 53 (by unfold W0; omega)]; exact e53)
            exact m_add (m := m) (b := some (tN x N (i + 1 + 1))) (by omega) F3' pF em hm y1 y2 y3 y4 ⟨by omega, by omega, by omega⟩ y5 (by rw [o3 167 (by omega), F3.2 167 _ (by unfold W0; omega)]; exact c7) (by rw [r_I, if_pos ⟨rfl, rfl⟩]; rfl) (scIx_ok hO.1 (by omega) al (fun c hc => by cases hc; exact ⟨cl, d⟩)) hO.2.2 rfl
      · rw [if_neg e, if_pos rfl, if_pos pE.2.2.2.2.2.1]
        have eo : spKo x N (sCols t.1) (i + 1 + 1) a = .inr (none, i + 1 + 1) := by unfold spKo; rw [if_neg e]
        rw [eo]
        dsimp only
        exact m_add (m := m) (b := none) (by omega) FE pE em hm k1 k2 k3 k4 ⟨by omega, by omega, by omega⟩ k5 c7 c8 (scIx_ok hO.1 (by omega) al (fun c hc => by cases hc)) hO.2.2 rfl
  · obtain ⟨q1, q2, q3⟩ := m170f (n := n) (k := 2) (v := 2) hp (by omega) rfl
    rw [if_pos ((x_le (by omega) (by omega)).mpr (by omega)), if_neg hm, bd1 q1]
    dsimp only
    rw [if_neg (fun z => z rfl)]
    exact rt_ret (RC.fl (q3.mono (fun _ _ z => W0.p z)) rfl q2)
end
