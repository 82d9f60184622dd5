/-! The class reads clauses: rows, others, indexes. -/
section
variable {n s i j N A V F cols r : Nat} {C C' C1 : AmC} {x : Nat → Nat} {t : Tel}
theorem VC.of2 {k : Nat} {v : Val} (h : VC C s k v) (e0 : cI C' s 15 = cI C s 15) (e : ∀ a, s + 10 ≤ a → a ≤ s + 15 → cI C' a = cI C a) : VC C' s k v := by
  unfold VC AtC at *
  rw [e0, e (s + 10) (by omega) (by omega), e (s + 11) (by omega) (by omega), e (s + 12) (by omega) (by omega), e (s + 13) (by omega) (by omega)]
  exact h
theorem VOC.of2 {y : Int32} {v : Option Val} (h : VOC C s y v) (e0 : cI C' s 15 = cI C s 15) (e : ∀ a, s + 10 ≤ a → a ≤ s + 15 → cI C' a = cI C a) : VOC C' s y v := by
  cases v with
  | none => exact h
  | some w =>
    obtain ⟨k, h1, h2⟩ := h
    exact ⟨k, h1, h2.of2 e0 e⟩
theorem StmC.of2 {a : Nat} {u : Stm} (h : StmC cols C s a u) (e9 : cI C' s 15 = cI C s 15) (e : ∀ a, s + 10 ≤ a → a ≤ s + 15 → cI C' a = cI C a) (e0 : cI C' a = cI C a) (e1 : cI C' (a + 1) = cI C (a + 1)) (e2 : cI C' (a + 2) = cI C (a + 2)) : StmC cols C' s a u := by
  obtain ⟨h1, h2, h3, h4, h5, h6, h7, f, h8, h9, h10, h11⟩ := h
  unfold StmC
  rw [e0, e1, e2]
  refine ⟨h1, h2, h3, h4, h5, fun c hc => (h6 c hc).of2 e9 e, fun c hc => (h7 c hc).of2 e9 e, f, h8, h9, h10, fun i hi => ?_⟩
  obtain ⟨k, k1, k2, k3, k4⟩ := h11 i hi
  exact ⟨k, by rw [e (s + 14) (by omega) (by omega)]; exact k1, by rw [e (s + 15) (by omega) (by omega)]; exact k2, k3.of2 e9 e, k4.of2 e9 e⟩
/-- what of the script a clause of rows, others, indexes leaves as it is -/
def FrS (s : Nat) (C C' : AmC) : Prop := (∀ b, s + 10 ≤ b → b < s + 40 → cI C' b = cI C b) ∧ ∀ f, f ≠ 2 → f ≠ 5 → f ≠ 6 → cI C' s f = cI C s f
theorem FrS.stm (h : FrS s C C') (hS : ScrC C s t.1) (h8 : (sStm t.1).length ≤ 8) : ∀ i (g : i < (sStm t.1).length), StmC (sCols t.1) C' s (s + 16 + 3 * i) (sStm t.1)[i] := fun i g => (hS.2.2.2.2.2.2.2 i g).of2 (h.2 15 (by omega) (by omega) (by omega)) (fun a z1 z2 => h.1 a (by omega) (by omega)) (h.1 _ (by omega) (by omega)) (h.1 _ (by omega) (by omega)) (h.1 _ (by omega) (by omega))
theorem FrS.ac (h : FrS s C C') (hA : AC C s A V) : AC C' s A V := by
  unfold AC
  rw [h.2 11 (by omega) (by omega) (by omega), h.2 15 (by omega) (by omega) (by omega), h.1 (s + 13) (by omega) (by omega)]
  exact hA
theorem sFree_tl {g : Nat → Nat → Int32} : sFree (tlT r g) = if r < 30 then some r else none := by
  by_cases h : r < 30
  · rw [if_pos h]
    cases e : sFree (tlT r g) with
    | none =>
      have := sFree_none.mp e r h
      have : decide (r < r) = true := this
      rw [decide_eq_true_eq] at this
      omega
    | some p =>
      obtain ⟨h1, h2, h3⟩ := sFree_some e
      have h2 : decide (p < r) = false := h2
      rw [decide_eq_false_iff_not] at h2
      by_cases q : p = r
      · rw [q]
      · have : decide (r < r) = true := h3 r (by omega)
        rw [decide_eq_true_eq] at this
        omega
  · rw [if_neg h, sFree_none]
    intro p hp
    exact decide_eq_true (by omega)
theorem c28 (hn : 200 ≤ n) (hP : PS C s x N i t A V F) (hO : TelOK t) (hk : tK x N i = 201) : Rt (f_28 n 109 C) (RCl s x N C (spRow x N t i)) := by
  obtain ⟨q1, q2, q3, q4, q5, ⟨q6, q6', q6''⟩, q7, q8, q9, q10, q11, q12, q13⟩ := hP
  have hs := q1.2.1
  have sl := scr_lt hs
  have sk := sc_of q1.1 hs
  have hrw := sk.2.2.2.2.2.2.2.2.2.2.2.2.2.2.2.2.2.2.2.2.2.2.2.2.2.2.2.2.2.2.2.2.2.1
  have rk := rw_of q1.1 hrw
  have w := rf_eq (n := n) rk q3 (by omega)
  rw [sFree_tl] at w
  unfold f_28 spRow
  rw [if_pos k_109, bd1 q1.2.2.1, if_pos sk.1, bd1 sk.2.1, if_pos rk.1, bd1 w]
  dsimp only
  by_cases r3 : t.2.1 < 30
  · rw [if_pos r3, if_pos r3]
    have p1 := q1.go (show tK x N i ≠ 132 by omega)
    have a1 := ps_1 (x := x) (N := N) (i := i) (by omega)
    rw [if_pos (show ¬ oI (some t.2.1) = -1 by rw [oI_s, x_eqm (by omega)]; exact id), oI_s]
    refine rt_bind (rt_mono (c28_lp (cols := sCols t.1) r3 q9 (sCols t.1) 0 (i + 1) (fun _ => 0) _ n (by omega) (by omega) p1 (by rw [r_In (by omega)]; exact q2.1) (fun d hd => absurd hd (Nat.not_lt_zero d))) (fun z C1 H => ?_))
    have F0 : Fr (fun b => b = 109 ∨ (s ≤ b ∧ b < s + 40)) C (uI C 109 4 ((cI C 109 4) + 1)) := (Fr.refl _ C).uI (Or.inl rfl)
    obtain ⟨F1, ⟨k', j, er, rfl, fl⟩ | ⟨v, j, er, rfl, p2, hv⟩⟩ := H
    · exact rt_ret (RCl.fl (F0.trans (F1.1.mono (fun b z => by omega))) (by rw [er]) fl)
    · have up := spR_up _ _ _ _ _ _ er
      have FW : Fr (fun b => b = 109 ∨ (s ≤ b ∧ b < s + 40)) C C1 := F0.trans (F1.1.mono (fun b z => by omega))
      rw [er]
      dsimp only
      rw [if_pos k_109, bd1 (c23 p2)]
      dsimp only
      by_cases k59 : tK x N j = 59
      · rw [if_pos (tq_59.mpr k59), if_pos k59]
        have sk2 := sc_of p2.1 hs
        have rk2 := rw_of p2.1 hrw
        rw [bd1 p2.2.2.1, if_pos sk2.1, bd1 sk2.2.1, if_pos rk2.1, bd1 (ra_raw rk2 r3)]
        dsimp only
        have c3 : ∀ b, b ≠ 109 → b ≠ s + 1 → b ≠ s + 2 → cI (uI C1 (s + 1) 1 (cI C1 (s + 1) 1 ||| ((1 : Int32) <<< (nI t.2.1 &&& 31)))) b = cI C b := fun b z1 z2 z3 => by rw [r_In z2, F1.1.2.1 b (by omega), r_In z1]
        have c1 : cI C1 (s + 1) = cI C (s + 1) := by rw [F1.1.2.1 (s + 1) (by omega), r_In (by omega)]
        have p3 : Pc (uI C1 (s + 1) 1 (cI C1 (s + 1) 1 ||| ((1 : Int32) <<< (nI t.2.1 &&& 31)))) s x N j := p2.cell (by omega)
        have S3 : ScrC (uI C1 (s + 1) 1 (cI C1 (s + 1) 1 ||| ((1 : Int32) <<< (nI t.2.1 &&& 31)))) s t.1 := by
          have FS : FrS s C (uI C1 (s + 1) 1 (cI C1 (s + 1) 1 ||| ((1 : Int32) <<< (nI t.2.1 &&& 31)))) := ⟨fun b z1 z2 => c3 b (by omega) (by omega) (by omega), fun f _ _ _ => by rw [c3 s (by omega) (by omega) (by omega)]⟩
          refine ⟨?_, ?_, ?_, ?_, ?_, ?_, ?_, FS.stm q2 q10⟩
          · rw [c3 s (by omega) (by omega) (by omega)]; exact q2.1
          · rw [c3 s (by omega) (by omega) (by omega)]; exact q2.2.1
          · rw [c3 (s + 3) (by omega) (by omega) (by omega), c3 (s + 4) (by omega) (by omega) (by omega)]; exact q2.2.2.1
          · rw [c3 s (by omega) (by omega) (by omega)]; exact q2.2.2.2.1
          · rw [c3 s (by omega) (by omega) (by omega)]; exact q2.2.2.2.2.1
          · rw [c3 (s + 5) (by omega) (by omega) (by omega)]; exact q2.2.2.2.2.2.1
          · rw [c3 s (by omega) (by omega) (by omega)]; exact q2.2.2.2.2.2.2.1
        have T3 : TabC (sCols t.1) (uI C1 (s + 1) 1 (cI C1 (s + 1) 1 ||| ((1 : Int32) <<< (nI t.2.1 &&& 31)))) (s + 1) (tlT (t.2.1 + 1) (fun p => if p = t.2.1 then v else t.2.2 p)) := by
          refine ⟨fun p hp => ?_, fun p hp => ?_, fun p hp tp c hc => ?_⟩
          · rw [r_I, if_pos ⟨rfl, rfl⟩, b_set _ (by omega) p (by omega), c1, q3.1 p hp]
            show (if p = t.2.1 then true else decide (p < t.2.1)) = decide (p < t.2.1 + 1)
            by_cases d : p = t.2.1
            · rw [if_pos d]; exact (decide_eq_true (by omega)).symm
            · rw [if_neg d, decide_eq_decide]; omega
          · rw [r_I, if_pos ⟨rfl, rfl⟩]
            by_cases p32 : p < 32
            · rw [b_set _ (by omega) p p32, if_neg (by omega), c1]
              exact q3.2.1 p hp
            · exact bt_hi _ (by omega)
          · have tp : decide (p < t.2.1 + 1) = true := tp
            rw [decide_eq_true_eq] at tp
            show cI _ (s + 1 + 1) (p * 4 + c) = (if p = t.2.1 then v else t.2.2 p) c
            rw [r_In (by omega)]
            by_cases d : p = t.2.1
            · rw [if_pos d, d]; exact hv c hc
            · have c4 : c < 4 := by omega
              rw [if_neg d, show s + 1 + 1 = s + 2 from rfl, F1.2 (p * 4 + c) (by omega), r_In (by omega)]
              exact q3.2.2 p hp (decide_eq_true (by omega)) c hc
        have sk3 := sc_of p3.1 hs
        rw [bd1 p3.2.2.1, bd1 p3.2.2.1, if_pos sk3.1, bd1 sk3.2.1, if_pos sk3.1, bd1 (c107 sk3 S3 hO.1 (rw_of p3.1 hrw) T3 (by omega))]
        dsimp only
        have FW3 : Fr (fun b => b = 109 ∨ (s ≤ b ∧ b < s + 40)) C (uI C1 (s + 1) 1 (cI C1 (s + 1) 1 ||| ((1 : Int32) <<< (nI t.2.1 &&& 31)))) := FW.uI (by omega)
        cases kc : sClash 30 t.1 (tlT (t.2.1 + 1) (fun p => if p = t.2.1 then v else t.2.2 p)) with
        | none =>
          rw [if_pos rfl, if_pos (show oI none = (-1 : Int32) from rfl)]
          have a2 := ps_1 (x := x) (N := N) (i := j) (by omega)
          have p4 := p3.go (show tK x N j ≠ 132 by omega)
          have c4 : ∀ b, b ≠ 109 → cI (uI (uI C1 (s + 1) 1 (cI C1 (s + 1) 1 ||| ((1 : Int32) <<< (nI t.2.1 &&& 31)))) 109 4 ((cI (uI C1 (s + 1) 1 (cI C1 (s + 1) 1 ||| ((1 : Int32) <<< (nI t.2.1 &&& 31)))) 109 4) + 1)) b = cI (uI C1 (s + 1) 1 (cI C1 (s + 1) 1 ||| ((1 : Int32) <<< (nI t.2.1 &&& 31)))) b := fun b z => r_In z
          refine rt_ret ⟨FW3.uI (Or.inl rfl), Or.inr ⟨(t.1, t.2.1 + 1, fun p => if p = t.2.1 then v else t.2.2 p), j + 1, rfl, rfl, p4, A, V, F, p4, S3.of q10 (fun a z1 z2 => c4 a (by omega)), T3.of (c4 _ (by omega)) (c4 _ (by omega)), ?_, ?_, ⟨by omega, by omega, by omega⟩, fun k hk => ?_, q8, q9, q10, q11, q12, (show t.2.1 + 1 ≤ 30 by omega)⟩⟩
          · unfold AC
            rw [c4 s (by omega), c4 (s + 13) (by omega), c3 s (by omega) (by omega) (by omega), c3 (s + 13) (by omega) (by omega) (by omega)]
            exact q4
          · rw [c4 s (by omega), c3 s (by omega) (by omega) (by omega)]; exact q5
          · have hk : k < (sStm t.1).length := hk
            rw [c4 _ (by omega), c3 _ (by omega) (by omega) (by omega)]; exact q7 k hk
        | some z =>
          have z3 := (qf_some kc).2.1
          rw [oI_s, if_neg (by rw [x_eqm (by omega)]; exact id), if_neg (by simp)]
          exact RCl.rf (k := 4) FW3 p3 (by omega) rfl rfl
      · rw [if_neg (fun q => k59 (tq_59.mp q)), if_neg k59]
        exact RCl.rf (k := 1) FW p2 (by omega) rfl rfl
  · rw [if_neg r3, if_neg r3, if_neg (fun q => q rfl)]
    exact RCl.rf (k := 2) (Fr.refl _ C) q1 (by omega) rfl rfl
theorem c29 (hn : 200 ≤ n) (hP : PS C s x N i t A V F) (hk : tK x N i = 202) : Rt (f_29 n 109 C) (RCl s x N C (spOth x N t i)) := by
  obtain ⟨q1, q2, q3, q4, q5, ⟨q6, q6', q6''⟩, q7, q8, q9, q10, q11, q12, q13⟩ := hP
  have hs := q1.2.1
  have sl := scr_lt hs
  have sk := sc_of q1.1 hs
  unfold f_29 spOth
  rw [if_pos k_109, bd1 q1.2.2.1, if_pos sk.1, q2.2.2.2.2.1, n_10]
  by_cases r3 : (sOth t.1).length < 10
  · rw [if_pos ((x_lt (by omega) (by omega)).mpr r3), if_pos r3]
    have p1 := q1.go (show tK x N i ≠ 132 by omega)
    have a1 := ps_1 (x := x) (N := N) (i := i) (by omega)
    refine rt_bind (rt_mono (c29_lp (cols := sCols t.1) r3 q9 (sCols t.1) 0 (i + 1) (fun _ => 0) _ n (by omega) (by omega) p1 (by rw [r_In (by omega)]; exact q2.1) (by rw [r_In (by omega)]; exact q2.2.2.2.2.1) (fun d hd => absurd hd (Nat.not_lt_zero d))) (fun z C1 H => ?_))
    have F0 : Fr (fun b => b = 109 ∨ (s ≤ b ∧ b < s + 40)) C (uI C 109 4 ((cI C 109 4) + 1)) := (Fr.refl _ C).uI (Or.inl rfl)
    obtain ⟨F1, ⟨k', j, er, rfl, fl⟩ | ⟨v, j, er, rfl, p2, hv⟩⟩ := H
    · exact rt_ret (RCl.fl (F0.trans (F1.1.mono (fun b z => by omega))) (by rw [er]) fl)
    · have up := spR_up _ _ _ _ _ _ er
      have FW : Fr (fun b => b = 109 ∨ (s ≤ b ∧ b < s + 40)) C C1 := F0.trans (F1.1.mono (fun b z => by omega))
      rw [er]
      dsimp only
      have e6 : cI C1 s 6 = nI (sOth t.1).length := by rw [F1.1.2.1 s (by omega), r_In (by omega)]; exact q2.2.2.2.2.1
      rw [if_pos k_109, bd1 p2.2.2.1, if_pos (sc_of p2.1 hs).1, e6, x_a1]
      have p3 : Pc (uI C1 s 6 (nI ((sOth t.1).length + 1))) s x N j := p2.cell (by omega)
      refine rt_bind (rt_mono (c26 (c := 59) p3 (by decide) (by decide)) (fun z C4 H => RCl.b2 ?_))
      obtain ⟨F4, ⟨k, j', e, rfl, fl⟩ | ⟨u, j', e, rfl, p4, _⟩⟩ := H
      · obtain ⟨no, rfl, rfl⟩ := spP_no e
        exact RCl.fl ((FW.uI (by omega)).trans F4.w) (by rw [if_neg no]) fl
      · obtain ⟨yes, rfl⟩ := spP_ps e
        have a2 := ps_1 (x := x) (N := N) (i := j) (by omega)
        have c4 : ∀ b, b ≠ 109 → b ≠ s → b ≠ s + 5 → cI C4 b = cI C b := fun b z1 z2 z3 => by rw [F4.1.2.1 b z1, r_In z2, F1.1.2.1 b (by omega), r_In z1]
        have c4s : ∀ f, f ≠ 6 → cI C4 s f = cI C s f := fun f z => by rw [F4.1.2.1 s (by omega), r_I, if_neg (by omega), F1.1.2.1 s (by omega), r_In (by omega)]
        have c46 : cI C4 s 6 = nI ((sOth t.1).length + 1) := by rw [F4.1.2.1 s (by omega), r_I, if_pos ⟨rfl, rfl⟩]
        have FS : FrS s C C4 := ⟨fun b z1 z2 => c4 b (by omega) (by omega) (by omega), fun f _ _ z => c4s f z⟩
        have lo : (sOth t.1 ++ [v]).length = (sOth t.1).length + 1 := by rw [List.length_append, List.length_singleton]
        refine ⟨(FW.uI (by omega)).trans F4.w, Or.inr ⟨((t.1.1, t.1.2.1, t.1.2.2.1, t.1.2.2.2.1 ++ [v], t.1.2.2.2.2), t.2), j + 1, by rw [if_pos yes], rfl, p4, A, V, F, p4, ⟨?_, ?_, ?_, ?_, ?_, ?_, ?_, FS.stm (t := t) q2 q10⟩, q3.of (c4 _ (by omega) (by omega) (by omega)) (c4 _ (by omega) (by omega) (by omega)), FS.ac q4, by rw [c4s 17 (by omega)]; exact q5, ⟨by omega, by omega, by omega⟩, fun k hk => ?_, q8, q9, q10, q11, ?_, q13⟩⟩
        · rw [c4s 0 (by omega)]; exact q2.1
        · rw [c4s 2 (by omega)]; exact q2.2.1
        · rw [c4 (s + 3) (by omega) (by omega) (by omega), c4 (s + 4) (by omega) (by omega) (by omega)]; exact q2.2.2.1
        · rw [c4s 5 (by omega)]; exact q2.2.2.2.1
        · show cI C4 s 6 = nI (sOth t.1 ++ [v]).length
          rw [lo]; exact c46
        · intro o ho c hc
          have ho : o < (sOth t.1 ++ [v]).length := ho
          have hc : c < sCols t.1 := hc
          rw [lo] at ho
          show cI C4 (s + 5) (o * 4 + c) = (sOth t.1 ++ [v]).getD o (fun _ => 0) c
          rw [F4.1.2.1 (s + 5) (by omega), r_In (by omega)]
          by_cases d : o < (sOth t.1).length
          · rw [F1.2 (o * 4 + c) (by omega), r_In (by omega), q2.2.2.2.2.2.1 o d c hc]
            unfold othN
            rw [List.getD_eq_getElem?_getD, List.getD_eq_getElem?_getD, List.getElem?_append_left d]
          · have : o = (sOth t.1).length := by omega
            subst this
            rw [hv c hc, List.getD_eq_getElem?_getD, List.getElem?_append_right (Nat.le_refl _)]
            simp
        · rw [c4s 8 (by omega)]; exact q2.2.2.2.2.2.2.1
        · have hk : k < (sStm t.1).length := hk
          rw [c4 _ (by omega) (by omega) (by omega)]; exact q7 k hk
        · show (sOth t.1 ++ [v]).length ≤ 10
          omega
  · rw [if_neg (by rw [x_lt (by omega) (by omega)]; exact r3), if_neg r3]
    exact RCl.rf (k := 2) (Fr.refl _ C) q1 (by omega) rfl rfl
end
