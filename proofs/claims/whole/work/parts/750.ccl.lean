/-! The class reads clauses: indexes. -/
section
variable {n s i j N A V F cols r m : Nat} {C C' C1 : AmC} {x : Nat → Nat} {t : Tel}
def c92C (C : AmC) (s m : Nat) (a b : Int32) (ky : Bool) : AmC := uI (if ky = true then uI (uI (uI C (s + 3) m a) (s + 4) m b) s 5 (cI C s 5 ||| ((1 : Int32) <<< (nI m &&& 31))) else uI (uI C (s + 3) m a) (s + 4) m b) s 2 (nI (m + 1))
theorem c92 {a b : Int32} (ky : Bool) (hP : PInv C) (hs : s ∈ scrL) (e : cI C s 2 = nI m) (hm : m < 3) : f_92 n s a b (if ky = true then 1 else 0) C = some ((), c92C C s m a b ky) := by
  obtain ⟨k0, p1, p3, p4, p7, p9, p10, p12, p13, p14, p16, p18, p19, k3, k4, k5, k10, k11, k12, k13, k14, k15, l3, l4, l5, l10, l11, l12, l13, l14, l15, k6, l6, hr, hst, hp6⟩ := sc_of hP hs
  have p4' : cP (uI C (s + 3) m a) s 4 = some (s + 4) := p4
  have e1 : cI (uI C (s + 3) m a) s 2 = nI m := by rw [r_In (by omega)]; exact e
  have e2 : cI (uI (uI C (s + 3) m a) (s + 4) m b) s 2 = nI m := by rw [r_In (by omega)]; exact e1
  have e5 : cI (uI (uI C (s + 3) m a) (s + 4) m b) s 5 = cI C s 5 := by rw [r_In (by omega), r_In (by omega)]
  have e3 : cI (uI (uI (uI C (s + 3) m a) (s + 4) m b) s 5 (cI C s 5 ||| ((1 : Int32) <<< (nI m &&& 31)))) s 2 = nI m := by rw [r_I, if_neg (by omega)]; exact e2
  unfold f_92 c92C
  rw [if_pos k0, e, if_neg (by rw [x_lt0 (by omega)]; exact id), n_3, if_pos ((x_lt (by omega) (by omega)).mpr hm), bd1 p3, if_pos k3, l3, if_pos ((x_in (by omega)).mpr hm), x_cl (by omega), bd1 p4', if_pos k4, e1, l4, if_pos ((x_in (by omega)).mpr hm), x_cl (by omega)]
  cases ky
  · rw [if_pos (by decide), if_neg (by decide), e2, x_a1]
  · rw [if_neg (by decide), if_pos rfl, e2, e5, e3, x_a1]
theorem c92_o {a b : Int32} {ky : Bool} {y : Nat} (z1 : y ≠ s) (z2 : y ≠ s + 3) (z3 : y ≠ s + 4) : cI (c92C C s m a b ky) y = cI C y := by
  unfold c92C
  rw [r_In z1]
  cases ky
  · rw [if_neg (by decide), r_In z3, r_In z2]
  · rw [if_pos rfl, r_In z1, r_In z3, r_In z2]
theorem c92_3 {a b : Int32} {ky : Bool} {y : Nat} : cI (c92C C s m a b ky) (s + 3) y = if y = m then a else cI C (s + 3) y := by
  unfold c92C
  rw [r_In (by omega)]
  cases ky
  · rw [if_neg (by decide), r_In (by omega), r_I]
    by_cases d : y = m
    · rw [if_pos ⟨rfl, d⟩, if_pos d]
    · rw [if_neg (fun q => d q.2), if_neg d]
  · rw [if_pos rfl, r_In (by omega), r_In (by omega), r_I]
    by_cases d : y = m
    · rw [if_pos ⟨rfl, d⟩, if_pos d]
    · rw [if_neg (fun q => d q.2), if_neg d]
theorem c92_4 {a b : Int32} {ky : Bool} {y : Nat} : cI (c92C C s m a b ky) (s + 4) y = if y = m then b else cI C (s + 4) y := by
  unfold c92C
  rw [r_In (by omega)]
  cases ky
  · rw [if_neg (by decide), r_I]
    by_cases d : y = m
    · rw [if_pos ⟨rfl, d⟩, if_pos d]
    · rw [if_neg (fun q => d q.2), if_neg d, r_In (by omega)]
  · rw [if_pos rfl, r_In (by omega), r_I]
    by_cases d : y = m
    · rw [if_pos ⟨rfl, d⟩, if_pos d]
    · rw [if_neg (fun q => d q.2), if_neg d, r_In (by omega)]
theorem c92_s {a b : Int32} {ky : Bool} : cI (c92C C s m a b ky) s 2 = nI (m + 1) ∧ cI (c92C C s m a b ky) s 5 = (if ky = true then cI C s 5 ||| ((1 : Int32) <<< (nI m &&& 31)) else cI C s 5) ∧ ∀ f, f ≠ 2 → f ≠ 5 → cI (c92C C s m a b ky) s f = cI C s f := by
  unfold c92C
  refine ⟨by rw [r_I, if_pos ⟨rfl, rfl⟩], ?_, fun f z1 z2 => ?_⟩
  · rw [r_I, if_neg (by omega)]
    cases ky
    · rw [if_neg (by decide), r_In (by omega), r_In (by omega), if_neg (by decide)]
    · rw [if_pos rfl, r_I, if_pos ⟨rfl, rfl⟩, if_pos rfl]
  · rw [r_I, if_neg (by omega)]
    cases ky
    · rw [if_neg (by decide), r_In (by omega), r_In (by omega)]
    · rw [if_pos rfl, r_I, if_neg (by omega), r_In (by omega), r_In (by omega)]
theorem c92_p {a b : Int32} {ky : Bool} : cP (c92C C s m a b ky) = cP C := by
  unfold c92C
  rw [p_I]
  cases ky <;> rfl
theorem c92_j {a b : Int32} {ky : Bool} : Fr (fun b => b = 109 ∨ (s ≤ b ∧ b < s + 40)) C (c92C C s m a b ky) := by
  unfold c92C
  cases ky
  · exact (((Fr.refl _ C).uI (by omega)).uI (by omega)).uI (by omega)
  · exact ((((Fr.refl _ C).uI (by omega)).uI (by omega)).uI (by omega)).uI (by omega)
/-- behind the columns of an index -/
theorem c32_t {D : AmC} {ky : Bool} {a : Nat} {b : Option Nat} {r : PE Tel} (hn : 200 ≤ n) (hP : PS C s x N i t A V F) (hm : (sIdx t.1).length < 3) (p2 : Pc D s x N j) (FD : FrPa C D) (hO : ScrOK (scIx t.1 (a, b) ky)) (up : ps x N i ≤ ps x N j) (er : r = (if tK x N j = 59 then (if sClash 30 (scIx t.1 (a, b) ky) (tlT t.2.1 t.2.2) = none then .inr ((scIx t.1 (a, b) ky, t.2), j + 1) else .inl (4, j)) else .inl (1, j))) : Rt ((f_23 n 109 D).bind (fun z => match z with | (q14, C15) => (if q14 = (59 : Int32) then (cP C15 109 5).bind (fun r18 => if isK r18 6 = true then (f_92 n r18 (nI a) (oI b) (if ky = true then 1 else 0) C15).bind (fun z => match z with | (_, C22) => (cP C22 109 5).bind (fun r24 => (cP C22 109 5).bind (fun r26 => if isK r26 6 = true then (cP C22 r26 1).bind (fun r29 => if isK r24 6 = true then (f_107 n r24 r29 C22).bind (fun z => match z with | (q32, C33) => (if q32 = (-1 : Int32) then some ((1 : Int32), uI C33 109 4 ((cI C33 109 4) + (1 : Int32))) else (f_25 n 109 (4 : Int32) C33).bind (fun z => match z with | (q36, C37) => if q36 = 0 ∨ q36 = 1 then some (q36, C37) else none))) else none) else none))) else none) else (f_25 n 109 (1 : Int32) C15).bind (fun z => match z with | (q40, C41) => if q40 = 0 ∨ q40 = 1 then some (q40, C41) else none)))) (RCl s x N C r) := by
  obtain ⟨q1, q2, q3, q4, q5, ⟨q6, q6', q6''⟩, q7, q8, q9, q10, q11, q12, q13⟩ := hP
  have hs := q1.2.1
  have sl := scr_lt hs
  rw [bd1 (c23 p2)]
  dsimp only
  by_cases k59 : tK x N j = 59
  · rw [if_pos (tq_59.mpr k59)]
    rw [if_pos k59] at er
    have sk := sc_of p2.1 hs
    have hrw := sk.2.2.2.2.2.2.2.2.2.2.2.2.2.2.2.2.2.2.2.2.2.2.2.2.2.2.2.2.2.2.2.2.2.1
    have e2 : cI D s 2 = nI (sIdx t.1).length := by rw [FD.1.2.1 s (by omega)]; exact q2.2.1
    rw [bd1 p2.2.2.1, if_pos sk.1, bd1 (c92 ky p2.1 hs e2 hm)]
    dsimp only
    generalize eE : c92C D s (sIdx t.1).length (nI a) (oI b) ky = E
    have pE : cP E = cP D := by rw [← eE]; exact c92_p
    have oE : ∀ y, y ≠ s → y ≠ s + 3 → y ≠ s + 4 → cI E y = cI D y := fun y z1 z2 z3 => by rw [← eE]; exact c92_o z1 z2 z3
    have E3 : ∀ y, cI E (s + 3) y = if y = (sIdx t.1).length then nI a else cI D (s + 3) y := fun y => by rw [← eE]; exact c92_3
    have E4 : ∀ y, cI E (s + 4) y = if y = (sIdx t.1).length then oI b else cI D (s + 4) y := fun y => by rw [← eE]; exact c92_4
    obtain ⟨Es2, Es5, Esf⟩ : cI E s 2 = nI ((sIdx t.1).length + 1) ∧ cI E s 5 = (if ky = true then cI D s 5 ||| ((1 : Int32) <<< (nI (sIdx t.1).length &&& 31)) else cI D s 5) ∧ ∀ f, f ≠ 2 → f ≠ 5 → cI E s f = cI D s f := by rw [← eE]; exact c92_s
    have FE : Fr (fun b => b = 109 ∨ (s ≤ b ∧ b < s + 40)) C E := FD.w.trans (by rw [← eE]; exact c92_j)
    have p3 : Pc E s x N j := p2.of pE (fun b z1 z2 => oE b (by omega) (by omega) (by omega))
    have sk3 := sc_of p3.1 hs
    have cD : ∀ y, y ≠ 109 → cI D y = cI C y := fun y z => FD.1.2.1 y z
    have li : (sIdx t.1 ++ [(a, b)]).length = (sIdx t.1).length + 1 := by rw [List.length_append, List.length_singleton]
    have FS : FrS s C E := ⟨fun b z1 z2 => by rw [oE b (by omega) (by omega) (by omega), cD b (by omega)], fun f z1 z2 _ => by rw [Esf f z1 z2, cD s (by omega)]⟩
    have S3 : ScrC E s (scIx t.1 (a, b) ky) := by
      refine ⟨?_, ?_, ?_, ?_, ?_, ?_, ?_, FS.stm (t := t) q2 q10⟩
      · rw [Esf 0 (by omega) (by omega), cD s (by omega)]; exact q2.1
      · show cI E s 2 = nI (sIdx t.1 ++ [(a, b)]).length
        rw [li]; exact Es2
      · intro q hq
        have hq : q < (sIdx t.1 ++ [(a, b)]).length := hq
        rw [li] at hq
        show cI E (s + 3) q = nI ((sIdx t.1 ++ [(a, b)]).getD q (0, none)).1 ∧ cI E (s + 4) q = oI ((sIdx t.1 ++ [(a, b)]).getD q (0, none)).2
        rw [E3, E4]
        by_cases d : q < (sIdx t.1).length
        · rw [if_neg (by omega), if_neg (by omega), cD _ (by omega), cD _ (by omega), List.getD_eq_getElem?_getD, List.getElem?_append_left d]
          have := q2.2.2.1 q d
          unfold ix1 ix2 at this
          rw [List.getD_eq_getElem?_getD] at this
          exact this
        · have : q = (sIdx t.1).length := by omega
          subst this
          rw [if_pos rfl, if_pos rfl, List.getD_eq_getElem?_getD, List.getElem?_append_right (Nat.le_refl _)]
          simp
      · rw [Es5, cD s (by omega), q2.2.2.2.1]
        rfl
      · rw [Esf 6 (by omega) (by omega), cD s (by omega)]; exact q2.2.2.2.2.1
      · rw [oE (s + 5) (by omega) (by omega) (by omega), cD _ (by omega)]; exact q2.2.2.2.2.2.1
      · rw [Esf 8 (by omega) (by omega), cD s (by omega)]; exact q2.2.2.2.2.2.2.1
    have T3 : TabC (sCols t.1) E (s + 1) (tlT t.2.1 t.2.2) := q3.of (by rw [oE _ (by omega) (by omega) (by omega), cD _ (by omega)]) (by rw [oE _ (by omega) (by omega) (by omega), cD _ (by omega)])
    have w107 := c107 (n := n) (S := scIx t.1 (a, b) ky) (T := tlT t.2.1 t.2.2) sk3 S3 hO (rw_of p3.1 hrw) T3 (by omega)
    rw [bd1 p3.2.2.1, bd1 p3.2.2.1, if_pos sk3.1, bd1 sk3.2.1, if_pos sk3.1, bd1 w107]
    dsimp only
    cases kc : sClash 30 (scIx t.1 (a, b) ky) (tlT t.2.1 t.2.2) with
    | none =>
      rw [if_pos kc] at er
      rw [if_pos (show oI none = (-1 : Int32) from rfl)]
      have a2 := ps_1 (x := x) (N := N) (i := j) (by omega)
      have p4 := p3.go (show tK x N j ≠ 132 by omega)
      have c4 : ∀ b, b ≠ 109 → cI (uI E 109 4 ((cI E 109 4) + 1)) b = cI E b := fun b z => r_In z
      refine rt_ret ⟨FE.uI (Or.inl rfl), Or.inr ⟨(scIx t.1 (a, b) ky, t.2), j + 1, er, rfl, p4, A, V, F, p4, S3.of q10 (fun a z1 z2 => c4 a (by omega)), T3.of (c4 _ (by omega)) (c4 _ (by omega)), ?_, ?_, ⟨by omega, by omega, by omega⟩, fun k hk => ?_, q8, q9, q10, ?_, q12, q13⟩⟩
      · have := FS.ac q4
        unfold AC at this ⊢
        rw [c4 s (by omega), c4 (s + 13) (by omega)]
        exact this
      · rw [c4 s (by omega), FS.2 17 (by omega) (by omega) (by omega)]; exact q5
      · have hk : k < (sStm t.1).length := hk
        rw [c4 _ (by omega), FS.1 _ (by omega) (by omega)]; exact q7 k hk
      · show (sIdx t.1 ++ [(a, b)]).length ≤ 3
        omega
    | some z =>
      have z3 := (qf_some kc).2.1
      have l3 : (sIdx (scIx t.1 (a, b) ky)).length ≤ 3 := hO.2.2.1
      rw [if_neg (by rw [kc]; simp)] at er
      rw [oI_s, if_neg (by rw [x_eqm (by omega)]; exact id)]
      exact RCl.rf (k := 4) FE p3 (by omega) rfl er
  · rw [if_neg (fun q => k59 (tq_59.mp q))]
    rw [if_neg k59] at er
    exact RCl.rf (k := 1) FD.w p2 (by omega) rfl er
end
