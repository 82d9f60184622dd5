/-! The class reads a text. -/
section
variable {n s i j N A V F cols r m : Nat} {C C' C1 : AmC} {x : Nat → Nat} {t : Tel}
theorem scIx_ok {S : Scr} {a : Nat} {b : Option Nat} {ky : Bool} (h : ScrOK S) (hm : (sIdx S).length < 3) (la : a < sCols S) (lb : ∀ c, b = some c → c < sCols S ∧ c ≠ a) : ScrOK (scIx S (a, b) ky) := by
  obtain ⟨o1, o2, o3, o4, o5, o6, o7, o8, o9⟩ := h
  have ls : (sIdx (scIx S (a, b) ky)).length = (sIdx S).length + 1 := by
    show (sIdx S ++ [(a, b)]).length = _
    rw [List.length_append, List.length_singleton]
  refine ⟨o1, o2, by omega, fun q hq => ?_, fun i hi => ?_, o6, o7, o8, o9⟩
  · rcases List.mem_append.mp (show q ∈ sIdx S ++ [(a, b)] from hq) with z | z
    · exact o4 q z
    · rw [List.mem_singleton] at z
      subst z
      exact ⟨la, fun c hc => lb c hc⟩
  · have hi : (sIdx S).length + 1 ≤ i := by rw [← ls]; exact hi
    show bt (if ky = true then sKeys S ||| ((1 : Int32) <<< (nI (sIdx S).length &&& 31)) else sKeys S) i = false
    cases ky
    · exact o5 i (by omega)
    · rw [if_pos rfl]
      by_cases i32 : i < 32
      · rw [b_set _ (by omega) i i32, if_neg (by omega)]
        exact o5 i (by omega)
      · exact bt_hi _ (by omega)
theorem c32 {ky : Bool} (hn : 200 ≤ n) (hP : PS C s x N i t A V F) (hO : TelOK t) (hk : tK x N i ≠ 132) : Rt (f_32 n 109 (if ky = true then 1 else 0) C) (RCl s x N C (spK x N ky t i)) := by
  have hP' := hP
  obtain ⟨q1, q2, q3, q4, q5, ⟨q6, q6', q6''⟩, q7, q8, q9, q10, q11, q12, q13⟩ := hP
  have hs := q1.2.1
  have sl := scr_lt hs
  have sk := sc_of q1.1 hs
  have a0 := ps_1 hk
  unfold f_32 spK
  rw [if_pos k_109, bd1 q1.2.2.1, if_pos sk.1, q2.2.1, n_3]
  by_cases r3 : (sIdx t.1).length < 3
  · rw [if_pos ((x_lt (by omega) (by omega)).mpr r3), if_pos r3]
    have F0 : FrPa C (uI C 109 4 ((cI C 109 4) + 1)) := (FrPa.refl C).u (by omega)
    refine rt_bind (rt_mono (c31 (cols := sCols t.1) (q1.go hk) (by rw [r_In (by omega)]; exact q2.1) q9) (fun z C1 H => ?_))
    obtain ⟨F1, ⟨k, j, er, rfl, fl⟩ | ⟨a, j, er, rfl, p1, ea⟩⟩ := H
    · dsimp only
      rw [if_neg (fun q => q rfl)]
      exact rt_ret (RCl.fl (F0.trans F1).w (by rw [er]) fl)
    · obtain ⟨k1, _, la, rfl⟩ := spC_ps er
      have a1 := ps_1 (x := x) (N := N) (i := i + 1) (by omega)
      have F01 := F0.trans F1
      rw [er]
      dsimp only
      rw [if_pos (by decide), bd1 (c23 p1), ea]
      dsimp only
      generalize i + 1 + 1 = j at *
      by_cases e3 : tK x N j = 130
      · have tl := tN_col e3
        have a2 := ps_1 (x := x) (N := N) (i := j) (by omega)
        rw [if_neg (fun q => q (tq_130.mpr e3)), bd1 (c24 p1)]
        dsimp only
        by_cases e4 : tN x N j = a
        · have : spKo x N (sCols t.1) j a = .inl (3, j) := by unfold spKo; rw [if_pos e3, if_pos e4]
          rw [this, if_neg (fun q => q (by rw [e4]))]
          exact RCl.rf (k := 3) F01.w p1 (by omega) rfl rfl
        · rw [if_pos (show ¬ nI (tN x N j) = nI a by rw [x_eq (by omega) (by omega)]; exact e4)]
          refine rt_bind (rt_mono (c31 (cols := sCols t.1) p1 (by rw [F01.1.2.1 s (by omega)]; exact q2.1) q9) (fun z C2 H => ?_))
          obtain ⟨F2, ⟨k, j', er2, rfl, fl⟩ | ⟨b, j', er2, rfl, p2, eb⟩⟩ := H
          · dsimp only
            rw [if_neg (fun q => q rfl)]
            have : spKo x N (sCols t.1) j a = .inl (k, j') := by
              unfold spC at er2
              rw [if_pos e3] at er2
              unfold spKo
              rw [if_pos e3, if_neg e4]
              by_cases g : tN x N j < sCols t.1
              · rw [if_pos g] at er2; cases er2
              · rw [if_neg g] at er2 ⊢; cases er2; rfl
            exact rt_ret (RCl.fl (F01.trans F2).w (by rw [this]) fl)
          · obtain ⟨_, rfl, lb, rfl⟩ := spC_ps er2
            have : spKo x N (sCols t.1) j a = .inr (some (tN x N j), j + 1) := by unfold spKo; rw [if_pos e3, if_neg e4, if_pos lb]
            dsimp only
            rw [if_pos (by decide), this, eb]
            exact c32_t (j := j + 1) (a := a) (b := some (tN x N j)) (ky := ky) hn hP' r3 p2 (F01.trans F2) (scIx_ok hO.1 r3 la (fun c hc => by cases hc; exact ⟨lb, e4⟩)) (by omega) rfl
      · have : spKo x N (sCols t.1) j a = .inr (none, j) := by unfold spKo; rw [if_neg e3]
        rw [if_pos (fun q => e3 (tq_130.mp q)), this]
        exact c32_t (j := j) (a := a) (b := none) (ky := ky) hn hP' r3 p1 F01 (scIx_ok hO.1 r3 la (fun c hc => by cases hc)) (by omega) rfl
  · rw [if_neg (by rw [x_lt (by omega) (by omega)]; exact r3), if_neg r3]
    exact RCl.rf (k := 2) (Fr.refl _ C) q1 (by omega) rfl rfl
/-- how reading a text ends -/
def E14 (s : Nat) (x : Nat → Nat) (N : Nat) (C : AmC) (r : PE Tel) (z : Nat) (C' : AmC) : Prop := z = 109 ∧ Fr (fun b => b = 109 ∨ (s ≤ b ∧ b < s + 40)) C C' ∧ ((∃ k j, r = .inl (k, j) ∧ Flt C' x N k j) ∨ ∃ t j, r = .inr (t, j) ∧ TelOK t ∧ ∃ A V F, PS C' s x N j t A V F)
/-- a clause -/
theorem c14_d {c : Nat} {Q : Nat → AmC → Prop} (hn : 3000 ≤ n) (c9 : c ≤ 900) (hP : PS C s x N i t A V F) (hO : TelOK t) (hf : c = 0 → t = tel0) (hk : tK x N i ≠ 132) (h8 : (sStm t.1).length < 8 ∨ tK x N i < 205 ∨ 208 < tK x N i) (ih : ∀ z C', RCl s x N C (spCl x N (decide (c = 0)) t i) z C' → Rt (lp_14_26 n 109 z (nI c + 1) C') Q) :
    Rt ((f_23 n 109 C).bind (fun z => match z with | (q23, C24) => (if q23 = (200 : Int32) then (if ¬ nI c = 0 then (f_27 n 109 (0 : Int32) C24).bind (fun z => match z with | (q36, C37) => lp_14_26 n 109 q36 (nI c + (1 : Int32)) C37) else (f_27 n 109 (1 : Int32) C24).bind (fun z => match z with | (q39, C40) => lp_14_26 n 109 q39 (nI c + (1 : Int32)) C40)) else if q23 = (201 : Int32) then (f_28 n 109 C24).bind (fun z => match z with | (q42, C43) => lp_14_26 n 109 q42 (nI c + (1 : Int32)) C43) else if q23 = (202 : Int32) then (f_29 n 109 C24).bind (fun z => match z with | (q45, C46) => lp_14_26 n 109 q45 (nI c + (1 : Int32)) C46) else if q23 = (203 : Int32) then (f_32 n 109 (1 : Int32) C24).bind (fun z => match z with | (q48, C49) => lp_14_26 n 109 q48 (nI c + (1 : Int32)) C49) else if q23 = (204 : Int32) then (f_32 n 109 (0 : Int32) C24).bind (fun z => match z with | (q51, C52) => lp_14_26 n 109 q51 (nI c + (1 : Int32)) C52) else if q23 = (205 : Int32) then (f_34 n 109 C24).bind (fun z => match z with | (q54, C55) => lp_14_26 n 109 q54 (nI c + (1 : Int32)) C55) else if q23 = (206 : Int32) then (f_35 n 109 C24).bind (fun z => match z with | (q57, C58) => lp_14_26 n 109 q57 (nI c + (1 : Int32)) C58) else if q23 = (207 : Int32) then (f_36 n 109 C24).bind (fun z => match z with | (q60, C61) => lp_14_26 n 109 q60 (nI c + (1 : Int32)) C61) else if q23 = (208 : Int32) then (f_37 n 109 C24).bind (fun z => match z with | (q63, C64) => lp_14_26 n 109 q63 (nI c + (1 : Int32)) C64) else (f_25 n 109 (1 : Int32) C24).bind (fun z => match z with | (q66, C67) => lp_14_26 n 109 q66 (nI c + (1 : Int32)) C67)))) Q := by
  have q1 := hP.1
  rw [bd1 (c23 q1)]
  dsimp only
  unfold spCl at ih
  by_cases e0 : tK x N i = 200
  · rw [if_pos e0] at ih
    rw [if_pos (tq_200.mpr e0)]
    by_cases c0 : c = 0
    · rw [if_neg (fun q => q (by rw [c0]; rfl))]
      have w := c27 (n := n) (first := true) hP e0 (fun _ => hf c0)
      rw [decide_eq_true c0] at ih
      exact rt_bind (rt_mono w (fun z D H => ih z D H))
    · rw [if_pos (show ¬ nI c = 0 by rw [x_eq0 (by omega)]; exact c0)]
      have w := c27 (n := n) (first := false) hP e0 (fun q => by cases q)
      rw [decide_eq_false c0] at ih
      exact rt_bind (rt_mono w (fun z D H => ih z D H))
  rw [if_neg e0] at ih
  rw [if_neg (fun q => e0 (tq_200.mp q))]
  by_cases e1 : tK x N i = 201
  · rw [if_pos e1] at ih
    rw [if_pos (tq_201.mpr e1)]
    exact rt_bind (rt_mono (c28 (by omega) hP hO e1) (fun z D H => ih z D H))
  rw [if_neg e1] at ih
  rw [if_neg (fun q => e1 (tq_201.mp q))]
  by_cases e2 : tK x N i = 202
  · rw [if_pos e2] at ih
    rw [if_pos (tq_202.mpr e2)]
    exact rt_bind (rt_mono (c29 (by omega) hP e2) (fun z D H => ih z D H))
  rw [if_neg e2] at ih
  rw [if_neg (fun q => e2 (tq_202.mp q))]
  by_cases e3 : tK x N i = 203
  · rw [if_pos e3] at ih
    rw [if_pos (tq_203.mpr e3)]
    exact rt_bind (rt_mono (c32 (ky := true) (by omega) hP hO hk) (fun z D H => ih z D H))
  rw [if_neg e3] at ih
  rw [if_neg (fun q => e3 (tq_203.mp q))]
  by_cases e4 : tK x N i = 204
  · rw [if_pos e4] at ih
    rw [if_pos (tq_204.mpr e4)]
    exact rt_bind (rt_mono (c32 (ky := false) (by omega) hP hO hk) (fun z D H => ih z D H))
  rw [if_neg e4] at ih
  rw [if_neg (fun q => e4 (tq_204.mp q))]
  by_cases e5 : tK x N i = 205
  · rw [if_pos (show 205 ≤ tK x N i ∧ tK x N i ≤ 208 by omega)] at ih
    rw [if_pos (tq_205.mpr e5)]
    have m8 : (sStm t.1).length < 8 := by omega
    exact rt_bind (rt_mono (c34 hn hP m8 e5) (fun z D H => ih z D (H.c m8 (by unfold spStm; rw [if_pos e5]))))
  rw [if_neg (fun q => e5 (tq_205.mp q))]
  by_cases e6 : tK x N i = 206
  · rw [if_pos (show 205 ≤ tK x N i ∧ tK x N i ≤ 208 by omega)] at ih
    rw [if_pos (tq_206.mpr e6)]
    have m8 : (sStm t.1).length < 8 := by omega
    exact rt_bind (rt_mono (c35 hn hP m8 e6) (fun z D H => ih z D (H.c m8 (by unfold spStm; rw [if_neg e5, if_pos e6]))))
  rw [if_neg (fun q => e6 (tq_206.mp q))]
  by_cases e7 : tK x N i = 207
  · rw [if_pos (show 205 ≤ tK x N i ∧ tK x N i ≤ 208 by omega)] at ih
    rw [if_pos (tq_207.mpr e7)]
    have m8 : (sStm t.1).length < 8 := by omega
    exact rt_bind (rt_mono (c36 hn hP m8 e7) (fun z D H => ih z D (H.c m8 (by unfold spStm; rw [if_neg e5, if_neg e6, if_pos e7]))))
  rw [if_neg (fun q => e7 (tq_207.mp q))]
  by_cases e8 : tK x N i = 208
  · rw [if_pos (show 205 ≤ tK x N i ∧ tK x N i ≤ 208 by omega)] at ih
    rw [if_pos (tq_208.mpr e8)]
    have m8 : (sStm t.1).length < 8 := by omega
    exact rt_bind (rt_mono (c37 hn hP m8 e8) (fun z D H => ih z D (H.c m8 (by unfold spStm; rw [if_neg e5, if_neg e6, if_neg e7]))))
  rw [if_neg (show ¬ (205 ≤ tK x N i ∧ tK x N i ≤ 208) by omega)] at ih
  rw [if_neg (fun q => e8 (tq_208.mp q)), bd1 (c25 q1)]
  exact ih _ _ (RCl.fl (((Fr.refl _ C).uI (Or.inl rfl)).uI (Or.inl rfl)) rfl (flt (k := 1) (by omega) rfl))
theorem c14_lp (hs : s ∈ scrL) (N9 : N ≤ 900) : ∀ f c t i C n A V F, f + c = 902 → c ≤ i → f + 3000 < n → PS C s x N i t A V F → TelOK t → (c = 0 → t = tel0) → Rt (lp_14_26 n 109 1 (nI c) C) (E14 s x N C (spL x N f c t i)) := by
  intro f
  induction f with
  | zero =>
    intro c t i C n A V F h1 h2 h3 hP
    have := hP.1.2.2.2.2.2.1.le N9
    omega
  | succ f ih =>
    intro c t i C n A V F h1 h2 h3 hP hO hf
    obtain ⟨n, rfl⟩ : ∃ m, n = m + 1 := ⟨n - 1, by omega⟩
    have i9 := hP.1.2.2.2.2.2.1.le N9
    have q1 := hP.1
    have sk := sc_of q1.1 hs
    have tl := tK_lt (x := x) (N := N) i
    rw [lp_14_26, n_900, if_neg (by rw [x_lt (by omega) (by omega)]; omega), if_neg (by decide), if_pos k_109, bd1 (c23 q1)]
    dsimp only
    rw [spL]
    by_cases e : tK x N i = 132
    · rw [if_pos (tq_132.mpr e), if_pos e]
      exact rt_ret ⟨rfl, Fr.refl _ C, Or.inr ⟨t, i, rfl, hO, A, V, F, hP⟩⟩
    · rw [if_neg (fun q => e (tq_132.mp q)), if_neg e, bd1 q1.2.2.1, if_pos sk.1, hP.2.1.2.2.2.2.2.2.1, n_8]
      have rcs : ∀ z C', RCl s x N C (spCl x N (decide (c = 0)) t i) z C' → Rt (lp_14_26 n 109 z (nI c + 1) C') (E14 s x N C (match spCl x N (decide (c = 0)) t i with
          | .inl e => .inl e
          | .inr (t2, j) => spL x N f (c + 1) t2 j)) := by
        intro z C' H
        obtain ⟨F1, ⟨k, j, er, rfl, fl⟩ | ⟨t2, j, er, rfl, p1, A', V', F', hP2⟩⟩ := H
        · obtain ⟨n, rfl⟩ : ∃ m, n = m + 1 := ⟨n - 1, by omega⟩
          rw [lp_14_26, er]
          have : Rt (some (109, C')) (E14 s x N C (.inl (k, j))) := rt_ret ⟨rfl, F1, Or.inl ⟨k, j, rfl, fl⟩⟩
          by_cases z9 : (900 : Int32) < nI c + 1
          · rw [if_pos z9]; exact this
          · rw [if_neg z9, if_pos rfl]; exact this
        · obtain ⟨o2, lt⟩ := spCl_ok N9 hO (fun q => hf (of_decide_eq_true q)) er
          rw [er, x_a1]
          exact rt_mono (ih (c + 1) t2 j C' n A' V' F' (by omega) (by omega) (by omega) hP2 o2 (fun q => by omega)) (fun z D H => ⟨H.1, F1.trans H.2.1, H.2.2⟩)
      by_cases m8 : (sStm t.1).length < 8
      · rw [if_pos ((x_lt (by omega) (by omega)).mpr m8)]
        exact c14_d (by omega) (by omega) hP hO hf e (Or.inl m8) rcs
      · rw [if_neg (by rw [x_lt (by have := hP.2.2.2.2.2.2.2.2.2.1; omega) (by omega)]; exact m8), bd1 (c23 q1)]
        dsimp only
        by_cases e5 : tK x N i < 205
        · rw [if_pos (show nI (tK x N i) < 205 from (x_lt (b := 205) (by omega) (by omega)).mpr e5)]
          exact c14_d (by omega) (by omega) hP hO hf e (Or.inr (Or.inl e5)) rcs
        · rw [if_neg (show ¬ nI (tK x N i) < 205 from fun q => e5 ((x_lt (b := 205) (by omega) (by omega)).mp q)), bd1 (c23 q1)]
          dsimp only
          by_cases e8 : 208 < tK x N i
          · rw [if_pos (show (208 : Int32) < nI (tK x N i) from (x_lt (a := 208) (by omega) (by omega)).mpr e8)]
            exact c14_d (by omega) (by omega) hP hO hf e (Or.inr (Or.inr e8)) rcs
          · rw [if_neg (show ¬ (208 : Int32) < nI (tK x N i) from fun q => e8 ((x_lt (a := 208) (by omega) (by omega)).mp q)), bd1 (c25 q1)]
            refine rcs _ _ (RCl.fl (((Fr.refl _ C).uI (Or.inl rfl)).uI (Or.inl rfl)) ?_ (flt (k := 2) (by omega) rfl))
            unfold spCl
            rw [if_neg (by omega), if_neg (by omega), if_neg (by omega), if_neg (by omega), if_neg (by omega), if_pos (by omega)]
            unfold spSt
            rw [if_neg m8]
end
