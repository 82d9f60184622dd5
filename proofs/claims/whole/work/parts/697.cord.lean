/-! clashes, order (class). -/
def btL (x : Int64) (i : Nat) : Bool := x.toBitVec.getLsbD i
theorem l_ext {x y : Int64} (h : ∀ i, i < 64 → btL x i = btL y i) : x = y := Int64.toBitVec_inj.mp (BitVec.eq_of_getLsbD_eq (fun i hi => h i hi))
theorem sl_l : ∀ n, n < 64 → ((Int32.toInt64 (nI n) &&& 63).toBitVec.smod 64).toNat = n := by decide +kernel
theorem sl_u : ∀ n, n < 64 → (((Int32.toInt64 (nI n)).toUInt64 &&& Int64.toUInt64 63).toBitVec % 64).toNat = n := by decide +kernel
theorem btL_1 (i : Nat) : btL 1 i = decide (i = 0) := by
  by_cases h : i < 64
  · revert h
    revert i
    decide +kernel
  · unfold btL
    rw [BitVec.getLsbD_of_ge _ _ (by omega)]
    simp
    omega
theorem btL_0 (i : Nat) : btL 0 i = false := BitVec.getLsbD_zero
theorem l_us (u : Int64) {j : Nat} (hj : j < 64) : ((Int64.toUInt64 u >>> ((Int32.toInt64 (nI j)).toUInt64 &&& Int64.toUInt64 63)).toInt64 &&& (1 : Int64)) = if btL u j = true then 1 else 0 := by
  apply l_ext
  intro i hi
  have a : btL ((Int64.toUInt64 u >>> ((Int32.toInt64 (nI j)).toUInt64 &&& Int64.toUInt64 63)).toInt64) i = btL u (j + i) := by
    show (Int64.toUInt64 u >>> ((Int32.toInt64 (nI j)).toUInt64 &&& Int64.toUInt64 63)).toBitVec.getLsbD i = (Int64.toUInt64 u).toBitVec.getLsbD (j + i)
    rw [UInt64.toBitVec_shiftRight]
    show ((Int64.toUInt64 u).toBitVec >>> (((Int32.toInt64 (nI j)).toUInt64 &&& Int64.toUInt64 63).toBitVec % 64).toNat).getLsbD i = _
    rw [sl_u j hj, BitVec.getLsbD_ushiftRight]
  have b : btL ((Int64.toUInt64 u >>> ((Int32.toInt64 (nI j)).toUInt64 &&& Int64.toUInt64 63)).toInt64 &&& (1 : Int64)) i = (btL ((Int64.toUInt64 u >>> ((Int32.toInt64 (nI j)).toUInt64 &&& Int64.toUInt64 63)).toInt64) i && btL 1 i) := by
    unfold btL
    rw [Int64.toBitVec_and, BitVec.getLsbD_and]
  rw [b, a, btL_1]
  by_cases e : i = 0
  · subst e
    rcases bcs (btL u j) with z | z
    · rw [Nat.add_zero, z]; rfl
    · rw [Nat.add_zero, z, if_pos rfl, btL_1]; rfl
  · rcases bcs (btL u j) with z | z
    · rw [z, if_neg (by decide), btL_0]; simp [e]
    · rw [z, if_pos rfl, btL_1]; simp [e]
theorem l_set (u : Int64) {q : Nat} (hq : q < 64) {i : Nat} (hi : i < 64) : btL (u ||| ((1 : Int64) <<< (Int32.toInt64 (nI q) &&& 63))) i = if i = q then true else btL u i := by
  have a : btL (u ||| ((1 : Int64) <<< (Int32.toInt64 (nI q) &&& 63))) i = (btL u i || btL ((1 : Int64) <<< (Int32.toInt64 (nI q) &&& 63)) i) := by
    unfold btL
    rw [Int64.toBitVec_or, BitVec.getLsbD_or]
  have b : btL ((1 : Int64) <<< (Int32.toInt64 (nI q) &&& 63)) i = (decide (q ≤ i) && btL 1 (i - q)) := by
    unfold btL
    rw [Int64.toBitVec_shiftLeft]
    show ((1 : Int64).toBitVec <<< ((Int32.toInt64 (nI q) &&& 63).toBitVec.smod 64).toNat).getLsbD i = _
    rw [sl_l q hq, BitVec.getLsbD_shiftLeft]
    rcases Nat.lt_or_ge i q with h | h
    · simp [h, Nat.not_le.mpr h]
    · simp [hi, h, Nat.not_lt.mpr h]
  rw [a, b, btL_1]
  by_cases e : i = q
  · subst e; simp
  · rw [if_neg e]
    by_cases l : q ≤ i
    · simp [show ¬ i - q = 0 by omega]
    · simp [l]
theorem cmp1 (b : Bool) : (lg_cmp (if b = true then (1 : Int64) else 0) (1 : Int64) = 0) ↔ b = true := by cases b <;> decide
theorem le_m1 {w k : Nat} (hw : w < 1000) (hk : k < 1000) : (nI w - (1 : Int32) ≤ nI k) ↔ w ≤ k + 1 := by
  by_cases z : w = 0
  · subst z
    refine ⟨fun _ => by omega, fun _ => ?_⟩
    rw [Int32.le_iff_toInt_le, nI_toInt (by omega)]
    have : (nI 0 - 1 : Int32).toInt = -1 := by decide
    omega
  · rw [x_s1 (by omega), x_le (by omega) (by omega)]
    omega
def clF2 (S : Scr) (t : Stm) (T : Tab) (l : List Ent) (k a : Nat) : Nat := if (sClash 30 S (lgN t T l (k + 1))).isSome = true then a + 1 else a
def sCls (B : Big) (a : Int32) : Int32 ⊕ Nat := match ixO (sStm (bS B)).length a with
  | none => .inr 0
  | some i => .inl (nI (qo (clF2 (bS B) (stmO (bS B) i) (zT (bZ B)) (rL (sRun (bS B) (stmO (bS B) i) 3 0 (zT (bZ B))))) ((rL (sRun (bS B) (stmO (bS B) i) 3 0 (zT (bZ B)))).length - 1) 0 0))
theorem run_none {S : Scr} {t : Stm} {path : Nat} {T : Tab} (h : ¬ rE (sReads S t 3 path T).1 = 0) : rL (sRun S t 3 path T) = [] := by
  have f : ∀ (L : List Itm) (r : RS), ¬ rE r = 0 → L.foldl (sItem S t 3) r = r := by
    intro L
    induction L with
    | nil => intro r _; rfl
    | cons q L ih =>
      intro r hr
      rw [List.foldl_cons]
      have : sItem S t 3 r q = r := by unfold sItem; rw [if_neg hr]
      rw [this]
      exact ih r hr
  unfold sRun
  rw [f _ _ h]
  exact items_ok.1.2.1
/-- what the class's right pass stands on -/
def SLI (C : AmC) (s st : Nat) (S : Scr) (t : Stm) (I : List Itm) (w : Nat) : Prop := PK C 113 s st S t ∧ (∀ j, j < I.length → SlC C 113 j S t (itm I j).1 (itm I j).2.2) ∧ cI C 113 10 = nI w ∧ I.length ≤ 40 ∧ ∀ j, j < I.length → (∀ p, (itm I j).1 = some p → p < 30) ∧ (isNewS t (itm I j).1 = true → ∀ c, c < sCols S → (tNew t c).isSome = true)
theorem SLI.fr {C C1 : AmC} {X : Nat → Prop} {s st w : Nat} {S : Scr} {t : Stm} {I : List Itm} (h : SLI C s st S t I w) (F : Fr X C C1) (hX : ∀ b, X b → 82 ≤ b ∧ ¬ (113 ≤ b ∧ b ≤ 120)) : SLI C1 s st S t I w := by
  obtain ⟨h1, h2, h3, h4, h5⟩ := h
  have e : ∀ b, 113 ≤ b → b ≤ 120 → cI C1 b = cI C b := fun b z1 z2 => F.2.1 b (fun y => (hX b y).2 ⟨z1, z2⟩)
  refine ⟨h1.fr F (fun b y => (hX b y).1), fun j hj => ?_, by rw [e 113 (by omega) (by omega)]; exact h3, h4, h5⟩
  have := h2 j hj
  unfold SlC at this ⊢
  rw [e (113 + 4) (by omega) (by omega), e (113 + 6) (by omega) (by omega)]
  exact this
section
variable {n : Nat} {C C' : AmC} {s h : Nat} {B : Big} {S : Scr}
theorem sli_of {i : Nat} (hi : i < (sStm (bS B)).length) (hE : PEnd C 113 (bS B) (stmO (bS B) i) 3 0 (zT (bZ B))) (hK : PK C 113 s (s + 16 + 3 * i) (bS B) (stmO (bS B) i)) (hx : XOK (bS B) (stmO (bS B) i) 3 (sReads (bS B) (stmO (bS B) i) 3 0 (zT (bZ B)))) (h0 : rE (sReads (bS B) (stmO (bS B) i) 3 0 (zT (bZ B))).1 = 0) : SLI C s (s + 16 + 3 * i) (bS B) (stmO (bS B) i) (sReads (bS B) (stmO (bS B) i) 3 0 (zT (bZ B))).2 (rL (sRun (bS B) (stmO (bS B) i) 3 0 (zT (bZ B)))).length := by
  obtain ⟨l40, sl⟩ := hE.2 rfl h0
  refine ⟨hK, fun j hj => ?_, ?_, l40, fun j hj => ?_⟩
  · have := sl j hj
    rw [itm_eq hj] at this
    exact this
  · have := hE.1.2.2.1
    rw [(sEnd_T (S := bS B) (r := sRun (bS B) (stmO (bS B) i) 3 0 (zT (bZ B)))).2.2] at this
    exact this
  · have := hx.2.2 (itm (sReads (bS B) (stmO (bS B) i) 3 0 (zT (bZ B))).2 j) (by rw [← itm_eq hj]; exact List.getElem_mem hj)
    exact ⟨this.1, this.2.2.1⟩
theorem c58_i {t : Stm} {I : List Itm} {st w r k : Nat} {R : Tab} (hL : SLI C s st S t I w) (hk : k < I.length) (hr : r ∈ rowsL) (hra : r + 1 < 113 ∨ 121 ≤ r) (hr8 : 82 ≤ r) (hT : TabC (sCols S) C r R) (hh : ∀ p, (itm I k).1 = some p → isNewS t (itm I k).1 = false → R.1 p = true) (hn : 100 ≤ n) : Rt (f_58 n 113 r (nI k) C) (fun z C' => z = oI (sAt R t (itm I k).1) ∧ Fr (fun b => b = r ∨ b = r + 1) C C' ∧ ∀ q, sAt R t (itm I k).1 = some q → TabC (sCols S) C' r (sPut R t (itm I k).1 q (itm I k).2.2)) := by
  obtain ⟨h1, h2, h3, h4, h5⟩ := hL
  obtain ⟨p1, p2⟩ := h5 k hk
  refine rt_mono (c58 (n := n) (a := 113) (j := k) (r := r) (by omega) p1 hr (by omega) hr8 h1 hT p2 hh (h2 k hk) hn) (fun z C1 H => ⟨H.1, H.2.1, fun q hq => ?_⟩)
  have := H.2.2
  rw [hq] at this
  exact this
theorem c129_lp {t : Stm} {I : List Itm} {l : List Ent} {st w : Nat} {T : Tab} (hB : BigOK B) (hS : S = bS B) (hR : RW S t T I l w) : ∀ m k n C x, k + m = w - 1 → m + 200 < n → x ≤ k → CI C s B → SLI C s st S t I w → TabC (sCols S) C 105 (lgN t T l k) → Rt (lp_129_19 n 0 (nI x) (nI k) C) (fun z C' => z = nI (qo (clF2 S t T l) m k x) ∧ FrC C C') := by
  have w200 := hR.2.2.1
  intro m
  induction m with
  | zero =>
    intro k n C x h1 hn hx hC hL hT
    obtain ⟨n, rfl⟩ : ∃ m, n = m + 1 := ⟨n - 1, by omega⟩
    have P := hC.1
    rw [lp_129_19, if_pos k_0, bd1 (w_0_9 P), if_pos k_113, hL.2.2.1, if_pos ((le_m1 (by omega) (by omega)).mpr (by omega))]
    exact rt_ret ⟨rfl, FrC.refl P⟩
  | succ m ih =>
    intro k n C x h1 hn hx hC hL hT
    obtain ⟨n, rfl⟩ : ∃ m, n = m + 1 := ⟨n - 1, by omega⟩
    have P := hC.1
    have kw : k < w := by omega
    have kI : k < I.length := by have := hR.2.1; omega
    obtain ⟨s1, _, _⟩ := hR.2.2.2.2.2 k kw
    obtain ⟨⟨φ, hq⟩, _⟩ := hR.nat k (by omega)
    rw [lp_129_19, if_pos k_0, bd1 (w_0_9 P), if_pos k_113, hL.2.2.1, if_neg (by rw [le_m1 (by omega) (by omega)]; omega), bd1 (w_0_9 P), bd1 (w_0_13 P), if_pos k_113]
    refine rt_bind (rt_mono (c58_i (n := n) hL kI (show 105 ∈ rowsL by decide) (by omega) (by omega) hT (fun p hp nw => by
      obtain ⟨p', e1, _, e3, _⟩ := hq.2.2.2.1 k kw (by simp) nw
      rw [hp] at e1
      cases e1
      exact e3) (by omega)) (fun z C1 H => ?_))
    obtain ⟨_, F1, T1⟩ := H
    have T1 := T1 _ s1
    rw [← hR.lg kw] at T1
    have P1 : PInv C1 := P.of F1.1
    have FC : FrC C C1 := ⟨P1, fun b z => F1.2.1 b (by omega), fun b z => F1.2.1 b (by omega), by rw [F1.1]⟩
    have C1i := hC.fr hB FC
    have L1 := hL.fr F1 (fun b y => by omega)
    have w107 := c107 (n := n) (sc_of P1 hC.2.1) C1i.2.2.2.2.1 hB.1 (rw_of P1 (show 105 ∈ rowsL by decide)) (by rw [← hS]; exact T1) (by omega)
    rw [← hS] at w107
    have I1 := fun x' hx' => ih (k + 1) n C1 x' (by omega) (by omega) hx' C1i L1 T1
    dsimp only
    rw [bd1 C1i.2.2.1, bd1 (w_0_13 P1), if_pos (sc_of P1 hC.2.1).k, bd1 w107, qo]
    dsimp only
    cases hs : sClash 30 S (lgN t T l (k + 1)) with
    | none =>
      have cf : clF2 S t T l k x = x := by unfold clF2; rw [hs]; rfl
      rw [if_pos oI_n, x_a1, cf]
      exact rt_mono (I1 x (by omega)) (fun _ _ H => ⟨H.1, FC.trans H.2⟩)
    | some i =>
      have i3 : i < (sIdx S).length := by have := (qf_some hs).2.1; omega
      have l3 := hB.1.2.2.1
      rw [hS] at i3
      have cf : clF2 S t T l k x = x + 1 := by unfold clF2; rw [hs]; rfl
      rw [if_neg (by rw [oI_s, x_eqm (by omega)]; exact id), x_a1, x_a1, cf]
      exact rt_mono (I1 (x + 1) (by omega)) (fun _ _ H => ⟨H.1, FC.trans H.2⟩)
theorem q129 (hC : CI C s B) (hB : BigOK B) (hn : 9700 ≤ n) (a : Int32) : Rt (f_129 n 0 a C) (fun z C' => z = sCls B a ∧ FrC C C') := by
  have l8 := hB.1.2.2.2.2.2.2.2.1
  have c4 := hB.1.2.1
  unfold f_129 sCls
  rcases ix_c (N := (sStm (bS B)).length) (by omega) a with ⟨na, ea⟩ | ⟨i, hi, rfl, ea⟩
  · rw [ea]
    simp only [↓reduceIte, k_0, if_true, ↓bd1 (c143_f (n := n) hC na)]
    exact rt_ret ⟨rfl, FrC.refl hC.1⟩
  · rw [ea]
    simp only [↓reduceIte, k_0, if_true, ↓bd1 (c143_t (n := n) hC hB hi), ↓bd1 (w_0_6 hC.1), k_82, ↓bd1 (w_82_0 hC.1)]
    refine rt_bind (rt_mono (c151 (n := n) (r0 := 83) (T := zT (bZ B)) hC hB hi (by decide) (by omega) hC.2.2.2.2.2.2.2.2.1.1 hB.2.2.2.1.1.1 (by omega)) (fun _ C1 H => ?_))
    obtain ⟨hE, F, hK, xk⟩ := H
    have F' := F.c (by decide)
    have C1i := hC.fr hB F'
    have P1 := F.1
    have w72 := c72 (n := n) (rw_of P1 (show 105 ∈ rowsL by decide)) (rw_of P1 (show 83 ∈ rowsL by decide))
    have F2 := cpR_fr C1 105 83
    have T2 : TabC (sCols (bS B)) (cpR C1 105 83) 105 (zT (bZ B)) := cpR_T c4 C1i.2.2.2.2.2.2.2.2.1.1
    have P2 : PInv (cpR C1 105 83) := P1.of F2.1
    have FC2 : FrC C1 (cpR C1 105 83) := ⟨P2, fun b z => F2.2.1 b (by omega), fun b z => F2.2.1 b (by omega), by rw [F2.1]⟩
    generalize cpR C1 105 83 = C2 at w72 F2 T2 P2 FC2
    simp only [↓reduceIte, ↓bd1 (w_0_13 P1), ↓bd1 (w_0_6 P1), k_82, if_true, ↓bd1 (w_82_0 P1), k_105, ↓bd1 w72]
    have hR := rw_run (S := bS B) (t := stmO (bS B) i) (path := 0) (T := zT (bZ B)) xk
    by_cases h0 : rE (sReads (bS B) (stmO (bS B) i) 3 0 (zT (bZ B))).1 = 0
    · have L2 := (sli_of hi hE hK xk h0).fr F2 (fun b y => by omega)
      have L := c129_lp (s := s) (S := bS B) hB rfl hR ((rL (sRun (bS B) (stmO (bS B) i) 3 0 (zT (bZ B)))).length - 1) 0 n C2 0 (by omega) (by have := hR.2.2.1; omega) (Nat.le_refl _) (C1i.fr hB FC2) L2 T2
      rw [x_0] at L
      refine rt_bind (rt_mono L (fun z C3 H => ?_))
      exact rt_ret ⟨by rw [H.1], F'.trans (FC2.trans H.2)⟩
    · have r0 := run_none h0
      have e10 : cI C2 113 10 = nI 0 := by
        rw [F2.2.1 113 (by omega), hE.1.2.2.1, (sEnd_T (S := bS B) (r := sRun (bS B) (stmO (bS B) i) 3 0 (zT (bZ B)))).2.2, r0]
        rfl
      obtain ⟨n, rfl⟩ : ∃ m, n = m + 1 := ⟨n - 1, by omega⟩
      have m0 : nI 0 - (1 : Int32) ≤ 0 := by decide
      rw [r0, lp_129_19, if_pos k_0, bd1 (w_0_9 P2), if_pos k_113, e10, if_pos m0]
      exact rt_ret ⟨rfl, F'.trans FC2⟩
end
