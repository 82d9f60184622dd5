/-! lay: a number is laid by hand. -/
def putT (T : Tab) (p c : Nat) (v : Int32) : Tab := (T.1, va_up T.2 p (va_up (T.2 p) c v))
def layB (S : Scr) (T : Tab) (p c : Nat) (v : Int32) : Bool := inR v && T.1 p && !(sHasTwin 30 S (putT T p c v) p)
def layT (S : Scr) (T : Tab) (p c : Nat) (v : Int32) : Tab := if layB S T p c v = true then putT T p c v else T
theorem inR_ok {v : Int32} (h : inR v = true) : okN v := by
  unfold inR at h
  rw [Bool.and_eq_true, decide_eq_true_eq, decide_eq_true_eq] at h
  exact h
theorem put_cl {S : Scr} {T : Tab} {p c : Nat} {v : Int32} (hp : p < 30) (tp : T.1 p = true) (h : sClash 30 S T = none) : (sClash 30 S (putT T p c v)).isSome = sHasTwin 30 S (putT T p c v) p :=
  clash_put (T := T) (U := putT T p c v) hp tp (fun _ _ => rfl) (fun q hq x => by show va_up T.2 p _ q x = T.2 q x; unfold va_up; rw [if_neg hq]) h
theorem lay_G {S : Scr} {T : Tab} {p c : Nat} {v : Int32} (hp : p < 30) (h : TabG S T) : TabG S (layT S T p c v) := by
  unfold layT
  split
  · rename_i b
    unfold layB at b
    rw [Bool.and_eq_true, Bool.and_eq_true, Bool.not_eq_true'] at b
    obtain ⟨⟨b1, b2⟩, b3⟩ := b
    refine ⟨fun q hq tq d hd => ?_, ?_⟩
    · show okN (va_up T.2 p (va_up (T.2 p) c v) q d)
      unfold va_up
      split
      · rename_i e
        show okN (if d = c then v else T.2 p d)
        split
        · exact inR_ok b1
        · rw [← e]
          exact h.1 q hq tq d hd
      · exact h.1 q hq tq d hd
    · have := put_cl (c := c) (v := v) hp b2 h.2
      rw [b3] at this
      cases hs : sClash 30 S (putT T p c v) with
      | none => rfl
      | some i => rw [hs] at this; cases this
  · exact h
section
variable {n : Nat} {C C' : AmC} {s h : Nat} {B : Big} {S : Scr}
theorem c152 {r p c : Nat} {T : Tab} {v : Int32} (hP : PInv C) (hs : s ∈ scrL) (p4 : cP C 0 4 = some s) (hS : ScrC C s S) (hO : ScrOK S) (hr : r ∈ rowsL) (hr2 : 82 ≤ r) (hT : TabC (sCols S) C r T) (hp : p < 30) (hc : c < sCols S) (hv : inR v = true) (hn : 100 ≤ n) : Rt (f_152 n 0 r (nI p) (nI c) v C) (fun z C' => z = (if layB S T p c v = true then 1 else 0) ∧ TabC (sCols S) C' r (layT S T p c v) ∧ Fr (fun b => b = r + 1) C C') := by
  have c4 := hO.2.1
  have rk := rw_of hP hr
  have w75 := rh_eq (n := n) rk hT hp
  unfold f_152
  rw [if_pos rk.1]
  rcases bcs (T.1 p) with d | d
  · rw [d] at w75
    have w75 : f_75 n r (nI p) C = some (0, C) := w75
    have lb : layB S T p c v = false := by unfold layB; rw [d]; simp
    rw [bd1 w75]
    dsimp only
    rw [if_neg (by simp)]
    unfold layT
    rw [lb]
    exact rt_ret ⟨rfl, hT, Fr.refl _ _⟩
  · rw [d] at w75
    have w75 : f_75 n r (nI p) C = some (1, C) := w75
    have w76 := rg_eq (n := n) rk hT hp hc c4
    have w77 := rp_raw (n := n) (v := v) rk hp (show c < 4 by omega)
    have T1 := TabC.put (v := v) hT c4 hp hc
    have F1 : Fr (fun b => b = r + 1) C (uI C (r + 1) (p * 4 + c) v) := (Fr.refl (fun b => b = r + 1) C).uI (a := r + 1) rfl
    have old : cI C (r + 1) (p * 4 + c) = tg T p c := by unfold tg; rw [if_pos d]; exact hT.2.2 p hp d c hc
    have P1 : PInv (uI C (r + 1) (p * 4 + c) v) := hP.of rfl
    have S1 := hS.fr hO hs F1 (fun b hb => by omega)
    have w106 := c106 (n := n) (sc_of P1 hs) S1 hO (rw_of P1 hr) T1 hp (by omega)
    have w106 : f_106 n s r (nI p) (uI C (r + 1) (p * 4 + c) v) = some (if sHasTwin 30 S (putT T p c v) p = true then 1 else 0, uI C (r + 1) (p * 4 + c) v) := w106
    have w77b := rp_raw (n := n) (v := tg T p c) (rw_of P1 hr) hp (show c < 4 by omega)
    have q4 : cP (uI C (r + 1) (p * 4 + c) v) 0 4 = some s := p4
    rw [bd1 w75]
    dsimp only
    rw [if_pos (by decide), bd1 w76]
    dsimp only
    rw [bd1 w77]
    dsimp only
    rw [if_pos k_0, bd1 q4, if_pos (sc_of P1 hs).k, bd1 w106]
    dsimp only
    unfold layT
    rcases bcs (sHasTwin 30 S (putT T p c v) p) with t | t
    · have lb : layB S T p c v = true := by unfold layB; rw [d, t, hv]; rfl
      simp only [↓reduceIte, t, lb, Bool.false_eq_true, if_false, if_true]
      exact rt_ret ⟨rfl, T1, F1⟩
    · have lb : layB S T p c v = false := by unfold layB; rw [t]; simp
      simp only [↓reduceIte, t, lb, Bool.false_eq_true, if_false, if_true, n10f]
      rw [bd1 w77b]
      refine rt_ret ⟨rfl, ?_, F1.uI (a := r + 1) rfl⟩
      refine hT.of (r_In (by omega) |>.trans (r_In (by omega))) ?_
      funext m
      rw [r_I, r_I]
      by_cases e : m = p * 4 + c
      · rw [if_pos ⟨rfl, e⟩, e, old]
      · rw [if_neg (fun z => e z.2), if_neg (fun z => e z.2)]
def sLayA (B : Big) (p c v : Int32) : Int32 ⊕ Nat := match ixO 30 p with
  | none => .inr 0
  | some i => match ixO (sCols (bS B)) c with
    | none => .inr 0
    | some j => .inl (if layB (bS B) (zT (bZ B)) i j v = true then tg (zT (bZ B)) i j else -100000)
def sLayZ (B : Big) (p c v : Int32) : Sta := match ixO 30 p with
  | none => bZ B
  | some i => match ixO (sCols (bS B)) c with
    | none => bZ B
    | some j => if layB (bS B) (zT (bZ B)) i j v = true then zAct (bZ B) (layT (bS B) (zT (bZ B)) i j v) else zRef (bZ B) 1
theorem sLay_ok {p c v : Int32} (hB : BigOK B) : StaOK (bS B) (sLayZ B p c v) := by
  have hz := hB.2.2.2.1
  have c4 := hB.1.2.1
  unfold sLayZ
  rcases ix_c (N := 30) (by omega) p with ⟨_, e⟩ | ⟨i, hi, rfl, e⟩
  · rw [e]; exact hz
  · rw [e]
    rcases ix_c (N := sCols (bS B)) (by omega) c with ⟨_, ec⟩ | ⟨j, hj, rfl, ec⟩
    · rw [ec]; exact hz
    · rw [ec]
      dsimp only
      split
      · exact hz.act (lay_G hi hz.1)
      · exact hz.ref
theorem q132 (hC : CI C s B) (hB : BigOK B) (hn : 100 ≤ n) (p c v : Int32) : Rt (f_132 n 0 p c v C) (fun z C' => z = sLayA B p c v ∧ CI C' s (bUp B (sLayZ B p c v)) ∧ (∀ b, 145 ≤ b → cI C' b = cI C b)) := by
  have c4 := hB.1.2.1
  unfold f_132 sLayA sLayZ
  rcases ix_c (N := 30) (by omega) p with ⟨np, ep⟩ | ⟨i, hi, rfl, ep⟩
  · rw [ep]
    simp only [↓reduceIte, k_0, if_true, ↓bd1 (c146_f (n := n) (b := c) hC hB (Or.inl np))]
    exact rt_ret ⟨rfl, hC, fun _ _ => rfl⟩
  · rw [ep]
    rcases ix_c (N := sCols (bS B)) (by omega) c with ⟨nc, ec⟩ | ⟨j, hj, rfl, ec⟩
    · rw [ec]
      simp only [↓reduceIte, k_0, if_true, ↓bd1 (c146_f (n := n) hC hB (Or.inr ⟨⟨i, hi, rfl⟩, nc⟩))]
      exact rt_ret ⟨rfl, hC, fun _ _ => rfl⟩
    · rw [ec]
      have P0 := hC.1
      have Z0 := hC.2.2.2.2.2.2.2.2.1
      have w76 := rg_eq (n := n) (rw_of P0 (show 83 ∈ rowsL by decide)) Z0.1 hi hj c4
      have w72 := c72 (n := n) (rw_of P0 (show 105 ∈ rowsL by decide)) (rw_of P0 (show 83 ∈ rowsL by decide))
      have F1 := cpR_fr C 105 83
      have T1 : TabC (sCols (bS B)) (cpR C 105 83) 105 (zT (bZ B)) := cpR_T c4 Z0.1
      have P1 : PInv (cpR C 105 83) := P0.of F1.1
      have FC1 : FrC C (cpR C 105 83) := ⟨P1, fun b z => F1.2.1 b (by omega), fun b z => F1.2.1 b (by omega), by rw [F1.1]⟩
      generalize cpR C 105 83 = C1 at w72 F1 T1 P1 FC1
      have C1i := hC.fr hB FC1
      have Z1 := C1i.2.2.2.2.2.2.2.2.1
      have t1 : Int32.toNatClampNeg (1 : Int32) = 1 := by decide
      have i1 : amIn (1 : Int32) (aLen 91) = true := by decide
      rcases bcs (inR v) with r | r
      · have lb : layB (bS B) (zT (bZ B)) i j v = false := by unfold layB; rw [r]; rfl
        have w150 := c150 (n := n) (C := C1) (x := v)
        rw [r] at w150
        have w150 : f_150 n v C1 = some (0, C1) := w150
        simp only [↓reduceIte, k_0, if_true, ↓bd1 (c146_t (n := n) hC hB hi hj), ↓bd1 (w_0_6 P0), k_82, ↓bd1 (w_82_0 P0), k_83, ↓bd1 w76, ↓bd1 (w_0_13 P0), k_105, ↓bd1 w72, ↓bd1 w150, ↓bd1 (w_0_6 P1), ↓bd1 (w_82_6 P1), k_91, i1, t1, lb, Bool.false_eq_true, if_false]
        refine rt_ret ⟨rfl, ?_, fun b hb => by rw [r_In (by omega)]; exact FC1.2.2.1 b hb⟩
        exact C1i.up hB (P1.of rfl) rfl (fun b hb => r_In (by omega)) (Z1.ref rfl (by omega))
      · have w150 := c150 (n := n) (C := C1) (x := v)
        rw [r] at w150
        have w150 : f_150 n v C1 = some (1, C1) := w150
        simp only [↓reduceIte, k_0, if_true, if_false, n10f, ↓bd1 (c146_t (n := n) hC hB hi hj), ↓bd1 (w_0_6 P0), k_82, ↓bd1 (w_82_0 P0), k_83, ↓bd1 w76, ↓bd1 (w_0_13 P0), k_105, ↓bd1 w72, ↓bd1 w150, ↓bd1 (w_0_13 P1)]
        refine rt_bind (rt_mono (c152 (n := n) (s := s) (r := 105) (v := v) P1 hC.2.1 C1i.2.2.1 C1i.2.2.2.2.1 hB.1 (by decide) (by omega) T1 hi hj r hn) (fun z C2 H => ?_))
        obtain ⟨rfl, T2, F2⟩ := H
        have P2 : PInv C2 := P1.of F2.1
        have FC2 : FrC C1 C2 := ⟨P2, fun b z => F2.2.1 b (by omega), fun b z => F2.2.1 b (by omega), by rw [F2.1]⟩
        have C2i := C1i.fr hB FC2
        have Z2 := C2i.2.2.2.2.2.2.2.2.1
        have FF := FC1.trans FC2
        rcases bcs (layB (bS B) (zT (bZ B)) i j v) with lb | lb
        · simp only [↓reduceIte, lb, Bool.false_eq_true, if_false, not_true, ↓bd1 (w_0_6 P2), k_82, ↓bd1 (w_82_6 P2), k_91, i1, t1, if_true]
          refine rt_ret ⟨rfl, ?_, fun b hb => by rw [r_In (by omega)]; exact FF.2.2.1 b hb⟩
          exact C2i.up hB (P2.of rfl) rfl (fun b hb => r_In (by omega)) (Z2.ref rfl (by omega))
        · obtain ⟨x, hx, q2, q3, q4⟩ := Z2.2.1
          have w11 := c11 (n := n) P2 hx hB.2.2.2.1.2.1 q2 q3
          have F3 := c11_fr (C := C2) (x := x) (L := (zH (bZ B)).length)
          have H3 := c11_h c4 hx hB.2.2.2.1.2.1 q4 Z2.1
          have P3 : PInv (c11C C2 x (zH (bZ B)).length) := P2.of F3.1
          generalize c11C C2 x (zH (bZ B)).length = C3 at w11 F3 H3 P3
          have w72b := c72 (n := n) (rw_of P3 (show 83 ∈ rowsL by decide)) (rw_of P3 (show 105 ∈ rowsL by decide))
          have F4 := cpR_fr C3 83 105
          have T4 : TabC (sCols (bS B)) (cpR C3 83 105) 83 (layT (bS B) (zT (bZ B)) i j v) := cpR_T c4 (T2.of (F3.2.1 _ (by omega)) (F3.2.1 _ (by omega)))
          have P4 : PInv (cpR C3 83 105) := P3.of F4.1
          generalize cpR C3 83 105 = C4 at w72b F4 T4 P4
          simp only [↓reduceIte, lb, if_true, n10f, not_false_iff, ↓bd1 (w_0_6 P2), k_82, ↓bd1 (w_82_1 P2), ↓bd1 (w_82_0 P2), k_85, ↓bd1 w11, ↓bd1 (w_0_6 P3), ↓bd1 (w_82_0 P3), ↓bd1 (w_0_13 P3), k_83, ↓bd1 w72b]
          have ee : ∀ b, ¬ (b = 83 ∨ b = 84 ∨ b = 85 ∨ b = 86 ∨ b = 87) → cI C4 b = cI C2 b := fun b hb => by rw [F4.2.1 b (by omega), F3.2.1 b (by omega)]
          refine rt_ret ⟨rfl, ?_, fun b hb => by rw [ee b (by omega)]; exact FF.2.2.1 b hb⟩
          refine C2i.up hB P4 (by rw [F4.1, F3.1]) (fun b hb => ee b (by omega)) ?_
          refine StaC.act (x := 0) Z2 T4 ?_ (fun b hb => ee b (by omega))
          obtain ⟨y, hy⟩ := H3
          exact ⟨y, by rw [F4.2.1 85 (by omega), F4.2.1 (85 + 1) (by omega), F4.2.1 (85 + 2) (by omega)]; exact hy⟩
/-! the reference -/
theorem m273 {f p c : Nat} {T : Tab} {v : Int32} (hM : MC C h S) (hf : f + 150 ≤ 12500) (hT : TMZ (sCols S) C f T) (hG : TabG S T) (hp : p < 30) (hc : c < sCols S) (hn : 2200 ≤ n) : Rt (f_273 n 145 (nI f) (nI p) (nI c) v C) (fun z C' => z = (if layB S T p c v = true then 1 else 0) ∧ TMZ (sCols S) C' f (layT S T p c v) ∧ cP C' = cP C ∧ (∀ b, ¬ b = 145 → ¬ b = 146 → cI C' b = cI C b) ∧ (∀ q, ¬ q = 55 → ¬ q = 56 → cI C' 145 q = cI C 145 q) ∧ ∀ j, ¬ (f ≤ j ∧ j < f + 150) → cI C' 146 j = cI C 146 j) := by
  have c4 := hM.2.2.2.2.1
  have hP := hM.1
  have hh := hM.2.2.1.1
  have e1 := hT.1.1 p hp
  have i1 : f + p < 12500 := by omega
  have i2 : f + 30 + 4 * p + c < 12500 := by omega
  unfold f_273 layT
  rw [if_pos k_145, bd1 (w_145_0 hP), if_pos k_146, x_add, l_146, if_pos ((x_in (by omega)).mpr i1), x_cl (by omega)]
  rcases bcs (T.1 p) with d | d
  · rw [d] at e1
    have lb : layB S T p c v = false := by unfold layB; rw [d]; simp
    rw [if_pos (by rw [e1]; rfl), lb]
    exact rt_ret ⟨rfl, hT, rfl, fun _ _ _ => rfl, fun _ _ _ => rfl, fun _ _ => rfl⟩
  · rw [d] at e1
    have w163 := m163 (n := n) (C := C) (x := v)
    rw [if_neg (by rw [e1]; decide), bd1 w163]
    dsimp only
    rcases bcs (inR v) with r | r
    · have lb : layB S T p c v = false := by unfold layB; rw [r]; rfl
      rw [r, lb, if_neg (by simp)]
      exact rt_ret ⟨rfl, hT, rfl, fun _ _ _ => rfl, fun _ _ _ => rfl, fun _ _ => rfl⟩
    · have ix : ((nI f + (30 : Int32)) + ((4 : Int32) * nI p)) + nI c = nI (f + 30 + 4 * p + c) := by rw [n_30, n_4, x_add, x_mul, x_add, x_add]
      have q1 : amIn (nI (f + 30 + 4 * p + c)) 12500 = true := (x_in (by omega)).mpr i2
      rw [r, if_pos (by decide), bd1 (w_145_0 hP), if_pos k_146, ix, l_146, if_pos q1, bd1 (w_145_0 hP), if_pos k_146, l_146, if_pos q1, x_cl (by omega)]
      have P1 : PInv (uI C 146 (f + 30 + 4 * p + c) v) := hP.of rfl
      have M1 : MC (uI C 146 (f + 30 + 4 * p + c) v) h S := hM.of rfl (by rw [r_In (by decide)]) (fun a z1 z2 => r_In (by omega))
      have T1 : TMZ (sCols S) (uI C 146 (f + 30 + 4 * p + c) v) f (putT T p c v) := by
        refine ⟨⟨fun q hq => ?_, fun q hq tq x hx => ?_⟩, fun q hq tq x g1 g2 => ?_⟩
        · rw [r_I, if_neg (by omega)]; exact hT.1.1 q hq
        · show cI (uI C 146 (f + 30 + 4 * p + c) v) 146 (f + 30 + 4 * q + x) = va_up T.2 p (va_up (T.2 p) c v) q x
          rw [r_I]
          unfold va_up
          by_cases e : q = p ∧ x = c
          · obtain ⟨rfl, rfl⟩ := e
            rw [if_pos ⟨rfl, rfl⟩, if_pos rfl, if_pos rfl]
          · rw [if_neg (by omega), hT.1.2 q hq tq x hx]
            split
            · rename_i eq
              show T.2 q x = if x = c then v else T.2 p x
              rw [if_neg (fun ex => e ⟨eq, ex⟩), eq]
            · rfl
        · rw [r_I, if_neg (by omega)]; exact hT.2 q hq tq x g1 g2
      have w192 := m192 (n := n) (N := 30) (f := f) P1 M1.2.2.1 M1.2.2.2 k_146 (by rw [l_146]; omega) (by omega) (by omega) T1.1 (by omega)
      have eh : cI (uI C 146 (f + 30 + 4 * p + c) v) 145 40 = nI h := M1.2.1
      rw [bd1 (w_145_0 P1), eh, n_30, bd1 w192]
      dsimp only
      have pc := put_cl (S := S) (c := c) (v := v) hp d hG.2
      generalize hC1 : uI C 146 (f + 30 + 4 * p + c) v = C1 at P1 M1 T1 w192 eh
      have F1p : cP C1 = cP C := by rw [← hC1]; rfl
      have F1o : ∀ b, ¬ b = 146 → cI C1 b = cI C b := fun b hb => by rw [← hC1, r_In hb]
      have F1m : ∀ j, ¬ j = f + 30 + 4 * p + c → cI C1 146 j = cI C 146 j := fun j hj => by rw [← hC1, r_I, if_neg (fun z => hj z.2)]
      have cl : ∀ o, cP (clM C1 o) = cP C1 ∧ (∀ b, ¬ b = 145 → cI (clM C1 o) b = cI C1 b) ∧ ∀ q, ¬ q = 55 → ¬ q = 56 → cI (clM C1 o) 145 q = cI C1 145 q := by
        intro o
        cases o with
        | none => exact ⟨rfl, fun _ _ => rfl, fun _ _ _ => rfl⟩
        | some y =>
          refine ⟨rfl, fun b hb => ?_, fun q z1 z2 => ?_⟩
          · unfold clM; rw [r_In hb, r_In hb]
          · unfold clM; rw [r_I, if_neg (by omega), r_I, if_neg (by omega)]
      cases hs : sClash 30 S (putT T p c v) with
      | none =>
        rw [hs] at pc
        have lb : layB S T p c v = true := by unfold layB; rw [r, d, ← pc]; rfl
        rw [if_neg (by simp [oI_n]), lb, if_pos rfl, if_pos rfl]
        exact rt_ret ⟨rfl, T1, F1p, fun b _ z2 => F1o b z2, fun q _ _ => by rw [show (Option.bind none (sTwin 30 S (putT T p c v)) : Option (Nat × Nat)) = none from rfl]; show cI C1 145 q = _; rw [F1o 145 (by omega)], fun j hj => F1m j (by omega)⟩
      | some i =>
        rw [hs] at pc
        have lb : layB S T p c v = false := by unfold layB; rw [← pc]; simp
        have i3 : i < (sIdx S).length := by have := (qf_some hs).2.1; omega
        have l3 := hM.2.2.2.2.2.1
        obtain ⟨d1, d2, d3⟩ := cl ((some i).bind (sTwin 30 S (putT T p c v)))
        have P2 : PInv (clM C1 ((some i).bind (sTwin 30 S (putT T p c v)))) := P1.of d1
        rw [if_pos (by rw [oI_s, x_eqm (by omega)]; exact id), bd1 (w_145_0 P2), if_pos k_146, l_146, if_pos q1, lb, if_neg (by decide), if_neg (by decide)]
        generalize clM C1 ((some i).bind (sTwin 30 S (putT T p c v))) = C2 at d1 d2 d3 P2
        refine rt_ret ⟨rfl, ?_, by show cP C2 = _; rw [d1, F1p], fun b z1 z2 => by rw [r_In z2, d2 b z1, F1o b z2], fun q z1 z2 => by rw [r_In (by decide), d3 q z1 z2, F1o 145 (by omega)], fun j hj => by rw [r_I, if_neg (by omega), d2 146 (by omega), F1m j (by omega)]⟩
        refine hT.of c4 (fun j _ _ => ?_)
        rw [r_I]
        by_cases e : j = f + 30 + 4 * p + c
        · rw [if_pos ⟨rfl, e⟩, e]
        · rw [if_neg (fun z => e z.2), d2 146 (by omega), F1m j e]
theorem q274 (hM : MI C h B) (hB : BigOK B) (hn : 2300 ≤ n) (p c v : Int32) : Rt (f_274 n 145 p c v C) (fun z C' => An C' z (sLayA B p c v) ∧ MI C' h (bUp B (sLayZ B p c v)) ∧ cP C' = cP C ∧ ∀ b, b < 145 ∨ (151 ≤ b ∧ b ≤ 177) → cI C' b = cI C b) := by
  have c4 := hB.1.2.1
  obtain ⟨M0, t0, F0⟩ := hM.t0 hB
  generalize hC0 : uI C 145 5 0 = C0 at M0 t0 F0
  have P0 := M0.1.1
  unfold f_274 sLayA sLayZ
  rw [hC0]
  rcases ix_c (N := 30) (by omega) p with ⟨np, ep⟩ | ⟨i, hi, rfl, ep⟩
  · rw [ep]
    simp only [↓reduceIte, k_145, if_true, if_false, not_true, ↓bd1 (m246_f (n := n) (b := c) M0.1 (Or.inl np) t0)]
    have A := An_f (z := 0) F0
    exact rt_ret ⟨A.1, hM.frR hB A.2, A.2.1, A.2.o⟩
  · rw [ep]
    rcases ix_c (N := sCols (bS B)) (by omega) c with ⟨nc, ec⟩ | ⟨j, hj, rfl, ec⟩
    · rw [ec]
      simp only [↓reduceIte, k_145, if_true, if_false, not_true, ↓bd1 (m246_f (n := n) M0.1 (Or.inr ⟨⟨i, hi, rfl⟩, nc⟩) t0)]
      have A := An_f (z := 0) F0
      exact rt_ret ⟨A.1, hM.frR hB A.2, A.2.1, A.2.o⟩
    · rw [ec]
      have i2 : 30 + 4 * i + j < 12500 := by omega
      have Z0 := M0.2.2.2.2.1
      have W := m164 (n := n) (f := 0) (t := 150) (N := 150) P0 (by omega) (by omega) (by omega) (by omega)
      rw [x_0, ← n_150] at W
      have ix : ((30 : Int32) + ((4 : Int32) * nI i)) + nI j = nI (30 + 4 * i + j) := by rw [n_30, n_4, x_mul, x_add, x_add]
      have q1 : amIn (nI (30 + 4 * i + j)) 12500 = true := (x_in (by omega)).mpr i2
      simp only [↓reduceIte, k_145, if_true, n10f, not_false_iff, ↓bd1 (m246_t (n := n) M0.1 hi hj t0), ↓bd1 (w_145_0 P0), k_146, l_146, ix, q1]
      refine rt_bind (rt_mono W (fun _ C1 H => ?_))
      obtain ⟨p1, _, o1, a1⟩ := H
      have F1 : FrR C0 C1 := ⟨p1, fun b z => o1 b (by omega), fun b y z => o1 b (by omega), fun m hm => by rw [a1, if_neg (by omega)], fun f _ _ => by rw [o1 145 (by omega)]⟩
      have M1 := M0.frR hB F1
      have T1 : TMZ (sCols (bS B)) C1 150 (zT (bZ B)) := Z0.1.cp c4 (fun m hm => by rw [a1, if_pos (by omega)]; exact congrArg (cI C0 146) (by omega))
      have L := m273 (n := n) (f := 150) (v := v) M1.1 (by omega) T1 hB.2.2.2.1.1 hi hj (by omega)
      rw [← n_150] at L
      refine rt_bind (rt_mono L (fun z C2 H => ?_))
      obtain ⟨rfl, T2, p2, o2, f2, a2⟩ := H
      have F2 : FrR C1 C2 := ⟨p2, fun b z => o2 b (by omega) (by omega), fun b y z => o2 b (by omega) (by omega), fun m hm => a2 m (by omega), fun f z _ => f2 f (by omega) (by omega)⟩
      have M2 := M1.frR hB F2
      have P2 := M2.1.1
      have FF := F0.trans (F1.trans F2)
      have t5 : cI C2 145 5 = 0 := by rw [f2 5 (by omega) (by omega), o1 145 (by omega)]; exact t0
      rcases bcs (layB (bS B) (zT (bZ B)) i j v) with lb | lb
      · have t1 : Int32.toNatClampNeg (1 : Int32) = 1 := by decide
        have i1 : amIn (1 : Int32) (aLen 150) = true := by decide
        simp only [↓reduceIte, lb, Bool.false_eq_true, if_false, not_true, ↓bd1 (w_145_4 P2), k_150, i1, t1, if_true]
        exact rt_ret ⟨⟨by rw [r_In (by decide)]; exact t5, rfl⟩, M2.ref hB rfl (by omega), FF.1, fun b hb => by rw [r_In (by omega)]; exact FF.o b hb⟩
      · obtain ⟨x, hx, q6, q7, q8⟩ := M2.2.2.2.2.1.2.1
        have K := m270 (n := n) P2 hx hB.2.2.2.1.2.1 q6 q7 (by omega)
        simp only [↓reduceIte, lb, if_true, n10f, not_false_iff]
        refine rt_bind (rt_mono K (fun _ C3 H => ?_))
        have K3 : KpM C2 C3 x (zH (bZ B)).length := H
        have P3 : PInv C3 := P2.of K3.1
        have W2 := m164 (n := n) (C := C3) (f := 150) (t := 0) (N := 150) P3 (by omega) (by omega) (by omega) (by omega)
        rw [x_0, ← n_150] at W2
        refine rt_bind (rt_mono W2 (fun _ C4 H => ?_))
        obtain ⟨p4, _, o4, a4⟩ := H
        have tp : (zT (bZ B)).1 i = true := by
          unfold layB at lb
          rw [Bool.and_eq_true, Bool.and_eq_true] at lb
          exact lb.1.2
        refine rt_ret ⟨⟨by rw [o4 145 (by omega), K3.2.2.1 5 (by omega) (by omega)]; exact t5, ?_⟩, ?_, by rw [p4, K3.1]; exact FF.1, fun b hb => by rw [o4 b (by omega), K3.2.1 b (by omega) (by omega)]; exact FF.o b hb⟩
        · rw [x_cl (by omega)]
          unfold tg
          rw [if_pos tp]
          have := Z0.1.1.2 i hi tp j hj
          rw [← this, show 0 + 30 + 4 * i + j = 30 + 4 * i + j by omega]
        · refine M2.act hB hx q8 K3 p4 o4 (fun m hm => by rw [a4, if_neg (by omega)]) ?_
          have tt : TMZ (sCols (bS B)) C4 0 (putT (zT (bZ B)) i j v) := by
            have T2 : TMZ (sCols (bS B)) C2 150 (putT (zT (bZ B)) i j v) := by unfold layT at T2; rw [lb, if_pos rfl] at T2; exact T2
            refine T2.cp c4 (fun m hm => ?_)
            rw [a4, if_pos (by omega), K3.2.2.2.2.2, if_neg (by omega)]
            exact congrArg (cI C2 146) (by omega)
          unfold layT
          rw [lb, if_pos rfl]
          exact tt
end
