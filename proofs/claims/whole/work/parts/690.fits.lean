/-! fits: behind which statements all that was seen is so. -/
def bhT (S : Scr) (t : Stm) (T : Tab) : Tab := if rE (sRight S t T) = 0 then rT (sRight S t T) else T
def sq (z : Sta) (i : Nat) : Nat × Nat × Int32 := (zS z).getD i (0, 0, 0)
def sqN (z : Sta) (T : Tab) (i : Nat) : Bool := !decide (tg T (sq z i).1 (sq z i).2.1 = (sq z i).2.2)
def seenIn (z : Sta) (T : Tab) : Bool := (qf (sqN z T) (zS z).length 0).isNone
def fitB (B : Big) (i : Nat) : Bool := seenIn (bZ B) (bhT (bS B) (stmO (bS B) i) (zT (bZ B)))
def fitF (B : Big) (i : Nat) (x : Int32) : Int32 := if fitB B i = true then x ||| ((1 : Int32) <<< (nI i &&& 31)) else x
def sFit (B : Big) : Int32 := qo (fitF B) (sStm (bS B)).length 0 0
theorem sq_eq {z : Sta} {i : Nat} (h : i < (zS z).length) : (zS z)[i] = sq z i := by
  unfold sq
  rw [List.getD_eq_getElem?_getD, List.getElem?_eq_getElem h]
  rfl
section
variable {n : Nat} {C C' : AmC} {s h : Nat} {B : Big} {S : Scr}
theorem c112_lp {cols r : Nat} {T : Tab} {z : Sta} (h4 : cols ≤ 4) (hP : PInv C) (hr : r ∈ rowsL) (hT : TabC cols C r T) (hz : StaC cols C 82 z) (hl : (zS z).length ≤ 8) (ho : ∀ q ∈ zS z, q.1 < 30 ∧ q.2.1 < cols) : ∀ m k n, k + m = (zS z).length → m < n → lp_112_2 n 82 r (nI k) C = some (if (qf (sqN z T) m k).isNone = true then .inr () else .inl (), C) := by
  have rk := rw_of hP hr
  intro m
  induction m with
  | zero =>
    intro k n h1 hn
    obtain ⟨n, rfl⟩ : ∃ m, n = m + 1 := ⟨n - 1, by omega⟩
    have b1 : (zS z).length ≤ k := by omega
    simp (disch := omega) only [↓reduceIte, lp_112_2, k_82, if_true, hz.2.2.1, x_le, b1, qf, Option.isNone_none]
  | succ m ih =>
    intro k n h1 hn
    obtain ⟨n, rfl⟩ : ∃ m, n = m + 1 := ⟨n - 1, by omega⟩
    have b1 : ¬ (zS z).length ≤ k := by omega
    have b2 : ¬ 8 ≤ k := by omega
    have hk : k < (zS z).length := by omega
    have k8 : k < 8 := by omega
    obtain ⟨a1, a2, a3⟩ := hz.2.2.2.1 k hk
    have mq := ho _ (List.getElem_mem hk)
    rw [sq_eq hk] at a1 a2 a3 mq
    have w := rg_eq (n := n) rk hT mq.1 mq.2 h4
    have a1 : cI C 88 k = nI (sq z k).1 := a1
    have a2 : cI C 89 k = nI (sq z k).2.1 := a2
    have a3 : cI C 90 k = (sq z k).2.2 := a3
    rw [qf]
    by_cases d : tg T (sq z k).1 (sq z k).2.1 = (sq z k).2.2
    · have d' : (tg T (sq z k).1 (sq z k).2.1 = (sq z k).2.2) = True := eq_true d
      have qn : sqN z T k = false := by unfold sqN; rw [d]; simp
      have I := ih (k + 1) n (by omega) (by omega)
      simp (disch := omega) only [↓reduceIte, lp_112_2, k_82, if_true, if_false, hz.2.2.1, n_8, x_le, b1, b2, ↓bd1 (w_82_2 hP), k_88, l_88, x_in, x_cl, k8, ↓bd1 (w_82_3 hP), k_89, l_89, rk.1, a1, a2, ↓bd1 w, ↓bd1 (w_82_4 hP), k_90, l_90, a3, d', x_a1, qn, Bool.false_eq_true]
      exact I
    · have qn : sqN z T k = true := by unfold sqN; simp [d]
      simp (disch := omega) only [↓reduceIte, lp_112_2, k_82, if_true, if_false, hz.2.2.1, n_8, x_le, b1, b2, ↓bd1 (w_82_2 hP), k_88, l_88, x_in, x_cl, k8, ↓bd1 (w_82_3 hP), k_89, l_89, rk.1, a1, a2, ↓bd1 w, ↓bd1 (w_82_4 hP), k_90, l_90, a3, d, qn, Option.isNone_some, Bool.false_eq_true]
theorem c112 {cols r : Nat} {T : Tab} {z : Sta} (h4 : cols ≤ 4) (hP : PInv C) (hr : r ∈ rowsL) (hT : TabC cols C r T) (hz : StaC cols C 82 z) (hl : (zS z).length ≤ 8) (ho : ∀ q ∈ zS z, q.1 < 30 ∧ q.2.1 < cols) (hn : 20 ≤ n) : f_112 n 82 r C = some (if seenIn z T = true then 1 else 0, C) := by
  have L := c112_lp h4 hP hr hT hz hl ho (zS z).length 0 n (by omega) (by omega)
  rw [x_0] at L
  unfold f_112
  rw [bd1 L]
  show (match (if seenIn z T = true then (.inr () : Unit ⊕ Unit) else .inl (), C) with
    | (.inl _, C23) => some ((0 : Int32), C23)
    | (.inr _, C23) => some ((1 : Int32), C23)) = _
  rcases bcs (seenIn z T) with e | e <;> simp [e]
theorem c153 (hC : CI C s B) (hB : BigOK B) {i : Nat} (hi : i < (sStm (bS B)).length) (hn : 9600 ≤ n) : Rt (f_153 n 0 (nI i) C) (fun z C' => z = (if fitB B i = true then 1 else 0) ∧ TabC (sCols (bS B)) C' 105 (bhT (bS B) (stmO (bS B) i) (zT (bZ B))) ∧ FrC C C' ∧ ∀ b, ¬ (b = 105 ∨ b = 106 ∨ (113 ≤ b ∧ b ≤ 120)) → cI C' b = cI C b) := by
  have c4 := hB.1.2.1
  have P := hC.1
  have hz := hB.2.2.2.1
  have W := c45 (n := n) (a := 113) (stage := 3) (path := 0) (r0 := 83) hC.1 (by decide) hC.2.1 hC.2.2.2.2.1 hB.1 hi (by unfold PathOK; omega) (by omega) (by decide) (by omega) hC.2.2.2.2.2.2.2.2.1.1 hB.2.2.2.1.1.1 (by omega)
  rw [x_0, ← n_3, stmO_eq hi] at W
  unfold f_153
  simp only [↓reduceIte, k_0, if_true, ↓bd1 (w_0_9 P), ↓bd1 hC.2.2.1, ↓bd1 (w_0_6 P), k_82, ↓bd1 (w_82_0 P), k_113]
  refine rt_bind (rt_mono W (fun _ C1 H => ?_))
  obtain ⟨⟨⟨eT, _, e10, e11, _, _, _⟩, _⟩, F, _, xk⟩ := H
  have F' := F.c (by decide)
  have C1i := hC.fr hB F'
  have P1 := F.1
  have Z1 := C1i.2.2.2.2.2.2.2.2.1
  have e11 : cI C1 113 11 = rE (sRight (bS B) (stmO (bS B) i) (zT (bZ B))) := e11
  have eo : ∀ b, ¬ (113 ≤ b ∧ b ≤ 120) → cI C1 b = cI C b := fun b hb => F.2.2.1 b (by unfold PY PX; omega)
  have fin : ∀ r0, r0 ∈ rowsL → TabC (sCols (bS B)) C1 r0 (bhT (bS B) (stmO (bS B) i) (zT (bZ B))) → Rt ((f_72 n 105 r0 C1).bind (fun z => match z with | (_, C28) => (cP C28 0 6).bind (fun r30 => (cP C28 0 13).bind (fun r32 => if isK r30 7 = true then (f_112 n r30 r32 C28).bind (fun z => match z with | (q35, C36) => if q35 = 0 ∨ q35 = 1 then some (q35, C36) else none) else none)))) (fun z C' => z = (if fitB B i = true then 1 else 0) ∧ TabC (sCols (bS B)) C' 105 (bhT (bS B) (stmO (bS B) i) (zT (bZ B))) ∧ FrC C C' ∧ ∀ b, ¬ (b = 105 ∨ b = 106 ∨ (113 ≤ b ∧ b ≤ 120)) → cI C' b = cI C b) := by
    intro r0 hr0 hT0
    have w72 := c72 (n := n) (rw_of P1 (show 105 ∈ rowsL by decide)) (rw_of P1 hr0)
    have F2 := cpR_fr C1 105 r0
    have T2 : TabC (sCols (bS B)) (cpR C1 105 r0) 105 (bhT (bS B) (stmO (bS B) i) (zT (bZ B))) := cpR_T c4 hT0
    have P2 : PInv (cpR C1 105 r0) := P1.of F2.1
    have FC : FrC C1 (cpR C1 105 r0) := ⟨P2, fun b z => F2.2.1 b (by omega), fun b z => F2.2.1 b (by omega), by rw [F2.1]⟩
    generalize cpR C1 105 r0 = C2 at w72 F2 T2 P2 FC
    have C2i := C1i.fr hB FC
    have w112 := c112 (n := n) c4 P2 (show 105 ∈ rowsL by decide) T2 C2i.2.2.2.2.2.2.2.2.1 hz.2.2.2.1 hz.2.2.2.2 (by omega)
    have w112 : f_112 n 82 105 C2 = some (if fitB B i = true then 1 else 0, C2) := w112
    have o1 : ((if fitB B i = true then (1 : Int32) else 0) = 0 ∨ (if fitB B i = true then (1 : Int32) else 0) = 1) := by cases fitB B i <;> simp
    simp only [↓reduceIte, ↓bd1 w72, ↓bd1 (w_0_6 P2), ↓bd1 (w_0_13 P2), k_82, if_true, ↓bd1 w112, o1]
    exact rt_ret ⟨rfl, T2, F'.trans FC, fun b hb => by rw [F2.2.1 b (by omega), eo b (by omega)]⟩
  dsimp only
  rw [bd1 (w_0_13 P1), bd1 (w_0_9 P1), if_pos k_113, e11]
  by_cases d : rE (sRight (bS B) (stmO (bS B) i) (zT (bZ B))) = 0
  · have eb : bhT (bS B) (stmO (bS B) i) (zT (bZ B)) = rT (sRight (bS B) (stmO (bS B) i) (zT (bZ B))) := by unfold bhT; rw [if_pos d]
    rw [if_neg (fun z => z d), bd1 (w_0_9 P1), if_pos k_113, bd1 (w_113_0 P1), if_pos k_105]
    exact fin 114 (by decide) (by rw [eb]; exact eT)
  · have eb : bhT (bS B) (stmO (bS B) i) (zT (bZ B)) = zT (bZ B) := by unfold bhT; rw [if_neg d]
    rw [if_pos d, bd1 (w_0_6 P1), if_pos k_82, bd1 (w_82_0 P1), if_pos k_105]
    exact fin 83 (by decide) (by rw [eb]; exact Z1.1)
theorem c136_lp (hB : BigOK B) : ∀ m k n C x, k + m = (sStm (bS B)).length → m + 9700 < n → CI C s B → Rt (lp_136_4 n 0 x (nI k) C) (fun z C' => z = qo (fitF B) m k x ∧ FrC C C') := by
  have l8 := hB.1.2.2.2.2.2.2.2.1
  intro m
  induction m with
  | zero =>
    intro k n C x h1 hn hC
    obtain ⟨n, rfl⟩ : ∃ m, n = m + 1 := ⟨n - 1, by omega⟩
    have b1 : (sStm (bS B)).length ≤ k := by omega
    have e8 : cI C s 8 = nI (sStm (bS B)).length := hC.2.2.2.2.1.2.2.2.2.2.2.1
    simp (disch := omega) only [↓reduceIte, lp_136_4, k_0, if_true, ↓bd1 hC.2.2.1, (sc_of hC.1 hC.2.1).k, e8, x_le, b1]
    exact rt_ret ⟨rfl, FrC.refl hC.1⟩
  | succ m ih =>
    intro k n C x h1 hn hC
    obtain ⟨n, rfl⟩ : ∃ m, n = m + 1 := ⟨n - 1, by omega⟩
    have b1 : ¬ (sStm (bS B)).length ≤ k := by omega
    have e8 : cI C s 8 = nI (sStm (bS B)).length := hC.2.2.2.2.1.2.2.2.2.2.2.1
    simp (disch := omega) only [↓reduceIte, lp_136_4, k_0, if_true, if_false, ↓bd1 hC.2.2.1, (sc_of hC.1 hC.2.1).k, e8, x_le, b1]
    refine rt_bind (rt_mono (c153 (n := n) (i := k) hC hB (by omega) (by omega)) (fun z C1 H => ?_))
    obtain ⟨rfl, _, F, _⟩ := H
    have I := fun x' => ih (k + 1) n C1 x' (by omega) (by omega) (hC.fr hB F)
    rw [qo]
    rcases bcs (fitB B k) with e | e
    · have I := I x
      simp only [↓reduceIte, e, Bool.false_eq_true, if_false, if_true, x_a1, fitF]
      exact rt_mono I (fun _ _ H => ⟨H.1, F.trans H.2⟩)
    · have I := I (x ||| ((1 : Int32) <<< (nI k &&& 31)))
      simp only [↓reduceIte, e, if_true, n10f, if_false, x_a1, fitF]
      exact rt_mono I (fun _ _ H => ⟨H.1, F.trans H.2⟩)
theorem q136 (hC : CI C s B) (hB : BigOK B) (hn : 9800 ≤ n) : Rt (f_136 n 0 C) (fun z C' => z = sFit B ∧ FrC C C') := by
  have l8 := hB.1.2.2.2.2.2.2.2.1
  have L := c136_lp (s := s) hB (sStm (bS B)).length 0 n C 0 (by omega) (by omega) hC
  rw [x_0] at L
  unfold f_136
  exact rt_bind (rt_mono L (fun _ _ H => rt_ret H))
/-! the reference -/
theorem m278 (hM : MI C h B) (hB : BigOK B) {i : Nat} (hi : i < (sStm (bS B)).length) (hn : 9700 ≤ n) : Rt (f_278 n 145 (nI i) C) (fun _ C' => TabM 30 (sCols (bS B)) C' 180 0 (bhT (bS B) (stmO (bS B) i) (zT (bZ B))) ∧ FrR C C' ∧ cI C' 145 5 = cI C 145 5 ∧ cI C' 197 = cI C 197) := by
  have l8 := hB.1.2.2.2.2.2.2.2.1
  have hh := hM.1.2.2.1.1
  have W := m226 (n := n) (f := 0) (h := h) (i := 8 * h + i) hM.1 (by omega) (hM.stm hi) (stmO_ok hB.1 hi) (by omega) hM.2.2.2.2.1.1.1 hM.2.2.2.2.1.1.2 hB.2.2.2.1.1.1 (by omega)
  rw [x_0] at W
  unfold f_278
  rw [if_pos k_145, hM.1.2.1, n_8, x_mul, x_add]
  refine rt_bind (rt_mono W (fun _ C1 H => ?_))
  obtain ⟨⟨eT, _, _, e11, _, _, _, _⟩, F, _, _⟩ := H
  have F1 := F.r (by omega)
  have M1 := hM.frR hB F1
  have t1 : cI C1 145 5 = cI C 145 5 := F.2.2.2 5 (by omega)
  have c1 : cI C1 197 = cI C 197 := F.2.2.1 197 (by unfold MX; omega)
  dsimp only
  rw [e11]
  by_cases d : rE (sRight (bS B) (stmO (bS B) i) (zT (bZ B))) = 0
  · have eb : bhT (bS B) (stmO (bS B) i) (zT (bZ B)) = rT (sRight (bS B) (stmO (bS B) i) (zT (bZ B))) := by unfold bhT; rw [if_pos d]
    rw [if_pos d, eb]
    exact rt_ret ⟨eT, F1, t1, c1⟩
  · have eb : bhT (bS B) (stmO (bS B) i) (zT (bZ B)) = zT (bZ B) := by unfold bhT; rw [if_neg d]
    have R := m225 (n := n) (f := 0) M1.1.1 (by omega) M1.2.2.2.2.1.1.1 M1.2.2.2.2.1.1.2 hB.1.2.1 (by omega)
    rw [x_0] at R
    rw [if_neg d, eb]
    refine rt_bind (rt_mono R (fun _ C2 H => ?_))
    obtain ⟨G1, G2, G3, G4, _⟩ := H
    exact rt_ret ⟨G4, F1.trans (G1.r (by omega)), by rw [G2]; exact t1, by rw [G3 197 (by omega)]; exact c1⟩
theorem m279 {p c cols : Nat} {T : Tab} (hP : PInv C) (hT : TabM 30 cols C 180 0 T) (hp : p < 30) (hc : c < cols) (h4 : cols ≤ 4) : f_279 n 145 (nI p) (nI c) C = some (tg T p c, C) := by
  have e1 := hT.1 p hp
  rw [Nat.zero_add] at e1
  have p5 : p < 150 := by omega
  unfold f_279 tg
  rcases bcs (T.1 p) with d | d
  · rw [d] at e1
    have e1 : cI C 180 p = 0 := e1
    simp (disch := omega) only [↓reduceIte, if_true, if_false, Option.bind_some, k_145, ↓bd1 (w_145_57 hP), k_180, l_180, x_in, x_cl, p5, e1, not_true, d, Bool.false_eq_true]
  · rw [d] at e1
    have e1 : cI C 180 p = 1 := e1
    have w := m193 (n := n) hP hT hp d hc h4
    simp (disch := omega) only [↓reduceIte, if_true, if_false, Option.bind_some, k_145, ↓bd1 (w_145_57 hP), k_180, l_180, x_in, x_cl, p5, e1, n10f, not_false_iff, d, ↓bd1 w]
theorem m280_in {z : Sta} {T : Tab} {cols : Nat} {a b : Int32} (h4 : cols ≤ 4) (hP : PInv C) (hT : TabM 30 cols C 180 0 T) (hz : StaM cols C 0 300 6 0 0 z) (hl : (zS z).length ≤ 8) (ho : ∀ q ∈ zS z, q.1 < 30 ∧ q.2.1 < cols) : ∀ m k n (fl : Bool), k + m = (zS z).length → m < n → lp_280_21 n 145 a b (if fl = true then 1 else 0) (nI k) C = some ((145, a, b, if (fl && (qf (sqN z T) m k).isNone) = true then 1 else 0), C) := by
  have e8 : cI C 145 8 = nI (zS z).length := hz.2.2.1
  intro m
  induction m with
  | zero =>
    intro k n fl h1 hn
    obtain ⟨n, rfl⟩ : ∃ m, n = m + 1 := ⟨n - 1, by omega⟩
    have b1 : (zS z).length ≤ k := by omega
    simp (disch := omega) only [↓reduceIte, lp_280_21, k_145, if_true, e8, x_le, b1, qf, Option.isNone_none, Bool.and_true]
  | succ m ih =>
    intro k n fl h1 hn
    obtain ⟨n, rfl⟩ : ∃ m, n = m + 1 := ⟨n - 1, by omega⟩
    have b1 : ¬ (zS z).length ≤ k := by omega
    have hk : k < (zS z).length := by omega
    have k16 : k < 16 := by omega
    obtain ⟨a1, a2, a3⟩ := hz.2.2.2.1 k hk
    have mq := ho _ (List.getElem_mem hk)
    rw [sq_eq hk, Nat.zero_add] at a1 a2 a3
    rw [sq_eq hk] at mq
    have w := m279 (n := n) hP hT mq.1 mq.2 h4
    rw [qf]
    rcases bcs fl with f | f
    · have I := ih (k + 1) n false (by omega) (by omega)
      simp only [↓reduceIte, Bool.false_eq_true, if_false, Bool.false_and] at I
      simp (disch := omega) only [↓reduceIte, lp_280_21, k_145, if_true, if_false, e8, x_le, b1, f, Bool.false_eq_true, x_a1, Bool.false_and]
      exact I
    · by_cases d : tg T (sq z k).1 (sq z k).2.1 = (sq z k).2.2
      · have d' : (tg T (sq z k).1 (sq z k).2.1 = (sq z k).2.2) = True := eq_true d
        have qn : sqN z T k = false := by unfold sqN; rw [d]; simp
        have I := ih (k + 1) n true (by omega) (by omega)
        simp only [↓reduceIte, if_true] at I
        simp (disch := omega) only [↓reduceIte, lp_280_21, k_145, if_true, if_false, e8, x_le, b1, f, n10f, ↓bd1 (w_145_1 hP), k_147, l_147, x_in, x_cl, k16, ↓bd1 (w_145_2 hP), k_148, l_148, a1, a2, ↓bd1 w, ↓bd1 (w_145_3 hP), k_149, l_149, a3, d', not_true, x_a1, qn, Bool.false_eq_true]
        exact I
      · have qn : sqN z T k = true := by unfold sqN; simp [d]
        have I := ih (k + 1) n false (by omega) (by omega)
        simp only [↓reduceIte, Bool.false_eq_true, if_false, Bool.false_and] at I
        simp (disch := omega) only [↓reduceIte, lp_280_21, k_145, if_true, if_false, e8, x_le, b1, f, n10f, ↓bd1 (w_145_1 hP), k_147, l_147, x_in, x_cl, k16, ↓bd1 (w_145_2 hP), k_148, l_148, a1, a2, ↓bd1 w, ↓bd1 (w_145_3 hP), k_149, l_149, a3, d, not_false_iff, x_a1, qn, Option.isNone_some, Bool.and_false, Bool.false_eq_true]
        exact I
theorem m280_lp (hB : BigOK B) : ∀ m k n C x, k + m = (sStm (bS B)).length → m + 9800 < n → MI C h B → Rt (lp_280_7 n 145 x (nI k) C) (fun z C' => z = qo (fitF B) m k x ∧ FrR C C' ∧ cI C' 145 5 = cI C 145 5) := by
  have l8 := hB.1.2.2.2.2.2.2.2.1
  intro m
  induction m with
  | zero =>
    intro k n C x h1 hn hM
    obtain ⟨n, rfl⟩ : ∃ m, n = m + 1 := ⟨n - 1, by omega⟩
    have b1 : (sStm (bS B)).length ≤ k := by omega
    have hP := hM.1.1
    have hh := hM.1.2.2.1.1
    have e25 := hM.1.2.2.1.2.2.2.2.2.2.2.1
    simp (disch := omega) only [↓reduceIte, lp_280_7, if_true, if_false, Option.bind_some, k_145, ↓bd1 (w_145_25 hP), k_163, l_163, hM.1.2.1, x_in, x_cl, hh, e25, x_le, b1]
    exact rt_ret ⟨rfl, FrR.refl _, rfl⟩
  | succ m ih =>
    intro k n C x h1 hn hM
    obtain ⟨n, rfl⟩ : ∃ m, n = m + 1 := ⟨n - 1, by omega⟩
    have b1 : ¬ (sStm (bS B)).length ≤ k := by omega
    have hP := hM.1.1
    have hh := hM.1.2.2.1.1
    have e25 := hM.1.2.2.1.2.2.2.2.2.2.2.1
    have hz := hB.2.2.2.1
    simp (disch := omega) only [↓reduceIte, lp_280_7, if_true, if_false, Option.bind_some, k_145, ↓bd1 (w_145_25 hP), k_163, l_163, hM.1.2.1, x_in, x_cl, hh, e25, x_le, b1]
    refine rt_bind (rt_mono (m278 (n := n) (i := k) hM hB (by omega) (by omega)) (fun _ C1 H => ?_))
    obtain ⟨T1, F1, t1, _⟩ := H
    have M1 := hM.frR hB F1
    have z8 := hz.2.2.2.1
    have w := m280_in (a := x) (b := nI k) hB.1.2.1 M1.1.1 T1 M1.2.2.2.2.1 hz.2.2.2.1 hz.2.2.2.2 (zS (bZ B)).length 0 n true (by omega) (by omega)
    rw [x_0, Bool.true_and] at w
    have w : lp_280_21 n 145 x (nI k) (1 : Int32) (0 : Int32) C1 = some ((145, x, nI k, if fitB B k = true then 1 else 0), C1) := w
    have I := fun x' => ih (k + 1) n C1 x' (by omega) (by omega) M1
    rw [bd1 w, qo]
    dsimp only
    rcases bcs (fitB B k) with e | e
    · have I := I x
      simp only [↓reduceIte, e, Bool.false_eq_true, if_false, if_true, x_a1, fitF]
      exact rt_mono I (fun _ _ H => ⟨H.1, F1.trans H.2.1, H.2.2.trans t1⟩)
    · have I := I (x ||| ((1 : Int32) <<< (nI k &&& 31)))
      simp only [↓reduceIte, e, if_true, n10f, if_false, x_a1, fitF]
      exact rt_mono I (fun _ _ H => ⟨H.1, F1.trans H.2.1, H.2.2.trans t1⟩)
theorem q280 (hM : MI C h B) (hB : BigOK B) (hn : 9900 ≤ n) : Rt (f_280 n 145 C) (fun z C' => z = sFit B ∧ FrR C C' ∧ cI C' 145 5 = 0) := by
  have l8 := hB.1.2.2.2.2.2.2.2.1
  obtain ⟨M0, t0, F0⟩ := hM.t0 hB
  have L := m280_lp (h := h) hB (sStm (bS B)).length 0 n _ 0 (by omega) (by omega) M0
  rw [x_0] at L
  unfold f_280
  rw [if_pos k_145]
  exact rt_bind (rt_mono L (fun _ _ H => rt_ret ⟨H.1, F0.trans H.2.1, H.2.2.trans t0⟩))
end
