/-! run, take, undo. -/
def bUp (B : Big) (z : Sta) : Big := (bS B, (bN B, bT B, bF B), z, bI B)
def rUp (R : Nat → Int32) (k : Nat) : Nat → Int32 := fun j => if j = k then R j + 1 else R j
def zAct (z : Sta) (T : Tab) : Sta := (T, psh (zH z) (zT z), zS z, zR z)
def zRef (z : Sta) (k : Nat) : Sta := (zT z, zH z, zS z, rUp (zR z) k)
theorem FrR.o {C C' : AmC} (F : FrR C C') (b : Nat) (hb : b < 145 ∨ (151 ≤ b ∧ b ≤ 177)) : cI C' b = cI C b := by
  rcases hb with z | z
  · exact F.2.1 b z
  · exact F.2.2.1 b (by omega) (by omega)
theorem BigOK.up {B : Big} {z : Sta} (hB : BigOK B) (hz : StaOK (bS B) z) : BigOK (bUp B z) := ⟨hB.1, hB.2.1, hB.2.2.1, hz, hB.2.2.2.2⟩
theorem StaOK.act {S : Scr} {z : Sta} {T : Tab} (h : StaOK S z) (hT : TabG S T) : StaOK S (zAct z T) := by
  refine ⟨hT, ?_, fun U hU => ?_, h.2.2.2⟩
  · show (psh (zH z) (zT z)).length ≤ 40
    rw [psh_len h.2.1]
    split <;> omega
  · rcases psh_mem hU with g | g
    · exact h.2.2.1 U g
    · rw [g]; exact h.1
theorem StaOK.ref {S : Scr} {z : Sta} {k : Nat} (h : StaOK S z) : StaOK S (zRef z k) := h
section
variable {n : Nat} {C C' : AmC} {s h : Nat} {B : Big} {S : Scr}
theorem CI.up {z : Sta} (hB : BigOK B) (hC : CI C s B) (hP : PInv C') (p0 : cP C' 0 = cP C 0) (e : ∀ b, b < 82 ∨ 92 ≤ b ∧ b < 102 → cI C' b = cI C b) (hz : StaC (sCols (bS B)) C' 82 z) : CI C' s (bUp B z) := by
  obtain ⟨h1, h2, h3, h4, h5, h6, h7, h8, h9, h10, h11⟩ := hC
  have l := scr_lt h2
  refine ⟨hP, h2, by rw [p0]; exact h3, by rw [p0]; exact h4, h5.of hB.1.2.2.2.2.2.2.2.1 (fun a z1 z2 => e a (by omega)), by rw [e 0 (by omega)]; exact h6, by rw [e 1 (by omega)]; exact h7, by rw [e 0 (by omega)]; exact h8, hz, by rw [e 0 (by omega)]; exact h10, fun y hy => (h11 y hy).fr (fun b z1 z2 => e b (by omega))⟩
theorem MI.up {z : Sta} (hB : BigOK B) (hM : MI C h B) (p : cP C' = cP C) (e : ∀ b, 151 ≤ b → b ≤ 178 → cI C' b = cI C b) (ef : ∀ f, 9 ≤ f → f ≤ 44 → cI C' 145 f = cI C 145 f) (e6 : ∀ j, 6300 ≤ j → cI C' 146 j = cI C 146 j) (es : ∀ j, 8 ≤ j → cI C' 147 j = cI C 147 j ∧ cI C' 148 j = cI C 148 j ∧ cI C' 149 j = cI C 149 j) (er : ∀ j, 3 ≤ j → cI C' 150 j = cI C 150 j) (hz : StaM (sCols (bS B)) C' 0 300 6 0 0 z) : MI C' h (bUp B z) := by
  obtain ⟨h1, h2, h3, h4, h5, h6, h7⟩ := hM
  have c4 := hB.1.2.1
  refine ⟨h1.of p (ef 40 (by omega) (by omega)) (fun a z1 z2 => e a (by omega) (by omega)), by rw [ef 43 (by omega) (by omega)]; exact h2, by rw [e 178 (by omega) (by omega)]; exact h3, by rw [ef 44 (by omega) (by omega)]; exact h4, hz, by rw [ef 12 (by omega) (by omega)]; exact h6, fun y hy => ?_⟩
  obtain ⟨g1, ⟨x, g2, g3, g4, g5⟩, g6, g7, g8⟩ := h7 y hy
  refine ⟨g1.of c4 (fun j z1 z2 => e6 j (by omega)), ⟨x, g2, by rw [ef 9 (by omega) (by omega)]; exact g3, by rw [ef (9 + 1) (by omega) (by omega)]; exact g4, fun k hk => (g5 k hk).of c4 (fun j z1 z2 => e6 j (by omega))⟩, by rw [ef (9 + 2) (by omega) (by omega)]; exact g6, fun i hi => ?_, fun k hk => ?_⟩
  · obtain ⟨a1, a2, a3⟩ := es (8 + i) (by omega)
    rw [a1, a2, a3]
    exact g7 i hi
  · rw [er (3 + k) (by omega)]; exact g8 k hk
/-- an act of the class: what was is kept, the rows become T -/
theorem StaC.act {cols x : Nat} {z : Sta} {T : Tab} (hz : StaC cols C 82 z) (hT : TabC cols C' 83 T) (hH : HisC cols C' 85 (psh (zH z) (zT z))) (e : ∀ b, b = 82 ∨ 88 ≤ b ∧ b ≤ 91 → cI C' b = cI C b) : StaC cols C' 82 (zAct z T) := by
  obtain ⟨_, _, h3, h4, h5⟩ := hz
  exact ⟨hT, hH, by rw [e 82 (by omega)]; exact h3, by rw [e (82 + 6) (by omega), e (82 + 7) (by omega), e (82 + 8) (by omega)]; exact h4, by rw [e (82 + 9) (by omega)]; exact h5⟩
theorem StaC.ref {cols k : Nat} {z : Sta} {v : Int32} (hz : StaC cols C 82 z) (hv : v = cI C 91 k + 1) (hk : k < 3) : StaC cols (uI C 91 k v) 82 (zRef z k) := by
  obtain ⟨h1, ⟨x, h2⟩, h3, h4, h5⟩ := hz
  have e : ∀ b, ¬ b = 91 → cI (uI C 91 k v) b = cI C b := fun b hb => r_In hb
  refine ⟨h1.of (e _ (by omega)) (e _ (by omega)), ⟨x, by rw [e _ (by omega), e _ (by omega), e _ (by omega)]; exact h2⟩, by rw [e _ (by omega)]; exact h3, by rw [e _ (by omega), e _ (by omega), e _ (by omega)]; exact h4, fun j hj => ?_⟩
  show cI (uI C 91 k v) 91 j = if j = k then zR z j + 1 else zR z j
  rw [r_I]
  by_cases d : j = k
  · subst d
    rw [if_pos ⟨rfl, rfl⟩, if_pos rfl, hv]
    congr 1
    exact h5 j hj
  · rw [if_neg (fun y => d y.2), if_neg d]
    exact h5 j hj
theorem c11_fr {x L : Nat} : Fr (fun b => b = 85 ∨ b = 86 ∨ b = 87) C (c11C C x L) := by
  unfold c11C
  exact ((((Fr.refl _ C).uA (Or.inr (Or.inl rfl))).uI (Or.inr (Or.inr rfl))).uI (Or.inl rfl)).uI (Or.inl rfl)
def sRunA (B : Big) (a : Int32) : Int32 ⊕ Nat := match ixO (sStm (bS B)).length a with
  | none => .inr 0
  | some i => .inl (if rE (sRight (bS B) (stmO (bS B) i) (zT (bZ B))) = 0 then nI (rL (sRight (bS B) (stmO (bS B) i) (zT (bZ B)))).length else -1 - rE (sRight (bS B) (stmO (bS B) i) (zT (bZ B))))
def sRunZ (B : Big) (a : Int32) : Sta := match ixO (sStm (bS B)).length a with
  | none => bZ B
  | some i => if rE (sRight (bS B) (stmO (bS B) i) (zT (bZ B))) = 0 then zAct (bZ B) (rT (sRight (bS B) (stmO (bS B) i) (zT (bZ B)))) else zRef (bZ B) 1
theorem bUp_id : bUp B (bZ B) = B := rfl
theorem sRight_G {t : Stm} {T : Tab} (h : XOK S t 3 (sReads S t 3 0 T)) (h0 : rE (sRight S t T) = 0) : TabG S (rT (sRight S t T)) := by
  have h1 := (sReads_ok h).1
  have e := (sEnd_T (S := S) (r := sRun S t 3 0 T)).1
  refine ⟨by unfold sRight; rw [e]; exact h1, ?_⟩
  unfold sRight at h0 ⊢
  rw [e]
  unfold sEnd at h0
  by_cases d : rE (sRun S t 3 0 T) = 0
  · rw [if_pos d] at h0
    cases hs : sClash 30 S (rT (sRun S t 3 0 T)) with
    | none => rfl
    | some i =>
      rw [hs] at h0
      have : rE (rEnd (sRun S t 3 0 T) 5 (nI i) (twI (sTwin 30 S (rT (sRun S t 3 0 T)) i))) = 5 := rfl
      have h0 : rE (rEnd (sRun S t 3 0 T) 5 (nI i) (twI (sTwin 30 S (rT (sRun S t 3 0 T)) i))) = 0 := h0
      rw [this] at h0
      exact absurd h0 (by decide)
  · rw [if_neg d] at h0
    exact absurd h0 d
theorem q131 (hC : CI C s B) (hB : BigOK B) (hn : 9600 ≤ n) (a : Int32) : Rt (f_131 n 0 a C) (fun z C' => z = sRunA B a ∧ CI C' s (bUp B (sRunZ B a)) ∧ (∀ b, 145 ≤ b → cI C' b = cI C b) ∧ StaOK (bS B) (sRunZ B a)) := by
  have l8 := hB.1.2.2.2.2.2.2.2.1
  have c4 := hB.1.2.1
  unfold f_131 sRunA sRunZ
  rcases ix_c (N := (sStm (bS B)).length) (by omega) a with ⟨na, ea⟩ | ⟨i, hi, rfl, ea⟩
  · rw [ea]
    simp only [↓reduceIte, k_0, if_true, ↓bd1 (c143_f (n := n) hC na)]
    exact rt_ret ⟨rfl, hC, fun _ _ => rfl, hB.2.2.2.1⟩
  · rw [ea]
    simp only [↓reduceIte, k_0, if_true, ↓bd1 (c143_t (n := n) hC hB hi), ↓bd1 (w_0_6 hC.1), k_82, ↓bd1 (w_82_0 hC.1)]
    refine rt_bind (rt_mono (c151 (n := n) (r0 := 83) (T := zT (bZ B)) hC hB hi (by decide) (by omega) hC.2.2.2.2.2.2.2.2.1.1 hB.2.2.2.1.1.1 (by omega)) (fun _ C1 H => ?_))
    obtain ⟨⟨⟨eT, _, e10, e11, _, _, _⟩, _⟩, F, _, xk⟩ := H
    have F' := F.c (by decide)
    have C1i := hC.fr hB F'
    have P1 := F.1
    have Z1 := C1i.2.2.2.2.2.2.2.2.1
    have e11 : cI C1 113 11 = rE (sRight (bS B) (stmO (bS B) i) (zT (bZ B))) := e11
    simp only [↓reduceIte, ↓bd1 (w_0_9 P1), k_113, if_true, e11]
    by_cases d : rE (sRight (bS B) (stmO (bS B) i) (zT (bZ B))) = 0
    · obtain ⟨x, hx, q2, q3, q4⟩ := Z1.2.1
      have w11 := c11 (n := n) P1 hx hB.2.2.2.1.2.1 q2 q3
      have F2 := c11_fr (C := C1) (x := x) (L := (zH (bZ B)).length)
      have H2 := c11_h c4 hx hB.2.2.2.1.2.1 q4 Z1.1
      have P2 : PInv (c11C C1 x (zH (bZ B)).length) := P1.of F2.1
      generalize c11C C1 x (zH (bZ B)).length = C2 at w11 F2 H2 P2
      have w72 := c72 (n := n) (rw_of P2 (show 83 ∈ rowsL by decide)) (rw_of P2 (show 114 ∈ rowsL by decide))
      have F3 := cpR_fr C2 83 114
      have T3 : TabC (sCols (bS B)) (cpR C2 83 114) 83 (rT (sRight (bS B) (stmO (bS B) i) (zT (bZ B)))) := cpR_T c4 (eT.of (F2.2.1 _ (by omega)) (F2.2.1 _ (by omega)))
      have P3 : PInv (cpR C2 83 114) := P2.of F3.1
      generalize cpR C2 83 114 = C3 at w72 F3 T3 P3
      simp only [↓reduceIte, d, if_true, ↓bd1 (w_0_6 P1), k_82, ↓bd1 (w_82_1 P1), ↓bd1 (w_82_0 P1), k_85, ↓bd1 w11, ↓bd1 (w_0_6 P2), ↓bd1 (w_82_0 P2), ↓bd1 (w_0_9 P2), k_113, ↓bd1 (w_113_0 P2), k_83, ↓bd1 w72, ↓bd1 (w_0_9 P3)]
      have ee : ∀ b, ¬ (b = 83 ∨ b = 84 ∨ b = 85 ∨ b = 86 ∨ b = 87) → cI C3 b = cI C1 b := fun b hb => by rw [F3.2.1 b (by omega), F2.2.1 b (by omega)]
      refine rt_ret ⟨by rw [ee 113 (by omega), e10]; rfl, ?_, fun b hb => by rw [ee b (by omega), F'.2.2.1 b hb], hB.2.2.2.1.act (sRight_G xk d)⟩
      refine C1i.up hB P3 (by rw [F3.1, F2.1]) (fun b hb => ee b (by omega)) ?_
      refine StaC.act (x := 0) Z1 T3 ?_ (fun b hb => ee b (by omega))
      obtain ⟨y, hy⟩ := H2
      exact ⟨y, by rw [F3.2.1 85 (by omega), F3.2.1 (85 + 1) (by omega), F3.2.1 (85 + 2) (by omega)]; exact hy⟩
    · have t1 : Int32.toNatClampNeg (1 : Int32) = 1 := by decide
      have i1 : amIn (1 : Int32) (aLen 91) = true := by decide
      have P2 : PInv (uI C1 91 1 (cI C1 91 1 + 1)) := P1.of rfl
      have e2 : cI (uI C1 91 1 (cI C1 91 1 + 1)) 113 11 = rE (sRight (bS B) (stmO (bS B) i) (zT (bZ B))) := by rw [r_In (by decide)]; exact e11
      simp only [↓reduceIte, d, if_false, ↓bd1 (w_0_6 P1), k_82, ↓bd1 (w_82_6 P1), k_91, i1, t1, if_true, ↓bd1 (w_0_9 P2), k_113, e2]
      refine rt_ret ⟨rfl, ?_, fun b hb => by rw [r_In (by omega), F'.2.2.1 b hb], hB.2.2.2.1.ref⟩
      exact C1i.up hB P2 rfl (fun b hb => r_In (by omega)) (Z1.ref rfl (by omega))
def sTakA (B : Big) (a : Int32) : Int32 ⊕ Nat := match ixO 30 a with
  | none => .inr 0
  | some p => .inl (if (zT (bZ B)).1 p = true then nI (sSize (va_up (zT (bZ B)).1 p false, (zT (bZ B)).2)) else -1)
def sTakZ (B : Big) (a : Int32) : Sta := match ixO 30 a with
  | none => bZ B
  | some p => if (zT (bZ B)).1 p = true then zAct (bZ B) (va_up (zT (bZ B)).1 p false, (zT (bZ B)).2) else zRef (bZ B) 1
theorem drop_G {T : Tab} {p : Nat} (h : TabG S T) : TabG S (va_up T.1 p false, T.2) := by
  have sub : ∀ q, va_up T.1 p false q = true → T.1 q = true := fun q hq => by
    unfold va_up at hq
    split at hq
    · cases hq
    · exact hq
  refine ⟨fun q hq tq c hc => h.1 q hq (sub q tq) c hc, ?_⟩
  exact clash_sub sub (fun _ _ => rfl) h.2
theorem q133 (hC : CI C s B) (hB : BigOK B) (a : Int32) : Rt (f_133 n 0 a C) (fun z C' => z = sTakA B a ∧ CI C' s (bUp B (sTakZ B a)) ∧ (∀ b, 145 ≤ b → cI C' b = cI C b) ∧ StaOK (bS B) (sTakZ B a)) := by
  have c4 := hB.1.2.1
  unfold f_133 sTakA sTakZ
  rcases ix_c (N := 30) (by omega) a with ⟨na, ea⟩ | ⟨p, hp, rfl, ea⟩
  · rw [ea]
    simp only [↓reduceIte, k_0, if_true, ↓bd1 (c145_f (n := n) (C := C) na)]
    exact rt_ret ⟨rfl, hC, fun _ _ => rfl, hB.2.2.2.1⟩
  · rw [ea]
    have P1 := hC.1
    have Z1 := hC.2.2.2.2.2.2.2.2.1
    have w75 := rh_eq (n := n) (rw_of P1 (show 83 ∈ rowsL by decide)) Z1.1 hp
    rcases bcs ((zT (bZ B)).1 p) with d | d
    · rw [d] at w75
      have w75 : f_75 n 83 (nI p) C = some (0, C) := w75
      have t1 : Int32.toNatClampNeg (1 : Int32) = 1 := by decide
      have i1 : amIn (1 : Int32) (aLen 91) = true := by decide
      simp only [↓reduceIte, k_0, if_true, if_false, ↓bd1 (c145_t (n := n) (C := C) hp), ↓bd1 (w_0_6 P1), k_82, ↓bd1 (w_82_0 P1), k_83, ↓bd1 w75, not_true, ↓bd1 (w_82_6 P1), k_91, i1, t1, d, Bool.false_eq_true]
      refine rt_ret ⟨rfl, ?_, fun b hb => by rw [r_In (by omega)], hB.2.2.2.1.ref⟩
      exact hC.up hB (P1.of rfl) rfl (fun b hb => r_In (by omega)) (Z1.ref rfl (by omega))
    · rw [d] at w75
      have w75 : f_75 n 83 (nI p) C = some (1, C) := w75
      obtain ⟨x, hx, q2, q3, q4⟩ := Z1.2.1
      have w11 := c11 (n := n) P1 hx hB.2.2.2.1.2.1 q2 q3
      have F2 := c11_fr (C := C) (x := x) (L := (zH (bZ B)).length)
      have H2 := c11_h c4 hx hB.2.2.2.1.2.1 q4 Z1.1
      have P2 : PInv (c11C C x (zH (bZ B)).length) := P1.of F2.1
      have T2 : TabC (sCols (bS B)) (c11C C x (zH (bZ B)).length) 83 (zT (bZ B)) := Z1.1.of (F2.2.1 _ (by omega)) (F2.2.1 _ (by omega))
      generalize c11C C x (zH (bZ B)).length = C2 at w11 F2 H2 P2 T2
      have w79 := rd_raw (n := n) (rw_of P2 (show 83 ∈ rowsL by decide)) hp
      have T3 := T2.drop hp
      have F3 : Fr (fun b => b = 83) C2 (uI C2 83 1 (cI C2 83 1 &&& (((1 : Int32) <<< (nI p &&& 31)) ^^^ (-1)))) := (Fr.refl _ C2).uI rfl
      have P3 := P2.of F3.1
      generalize uI C2 83 1 (cI C2 83 1 &&& (((1 : Int32) <<< (nI p &&& 31)) ^^^ (-1))) = C3 at w79 F3 T3 P3
      have w81 := c81 (n := n) (rw_of P3 (show 83 ∈ rowsL by decide)) T3
      simp only [↓reduceIte, k_0, if_true, if_false, ↓bd1 (c145_t (n := n) (C := C) hp), ↓bd1 (w_0_6 P1), k_82, ↓bd1 (w_82_0 P1), k_83, ↓bd1 w75, n10f, not_false_iff, ↓bd1 (w_82_1 P1), k_85, ↓bd1 w11, ↓bd1 (w_0_6 P2), ↓bd1 (w_82_0 P2), ↓bd1 w79, ↓bd1 (w_0_6 P3), ↓bd1 (w_82_0 P3), ↓bd1 w81, d]
      have ee : ∀ b, ¬ (b = 83 ∨ b = 84 ∨ b = 85 ∨ b = 86 ∨ b = 87) → cI C3 b = cI C b := fun b hb => by rw [F3.2.1 b (by omega), F2.2.1 b (by omega)]
      refine rt_ret ⟨rfl, ?_, fun b hb => ee b (by omega), hB.2.2.2.1.act (drop_G hB.2.2.2.1.1)⟩
      refine hC.up hB P3 (by rw [F3.1, F2.1]) (fun b hb => ee b (by omega)) ?_
      refine StaC.act (x := 0) Z1 T3 ?_ (fun b hb => ee b (by omega))
      obtain ⟨y, hy⟩ := H2
      exact ⟨y, by rw [F3.2.1 85 (by omega), F3.2.1 (85 + 1) (by omega), F3.2.1 (85 + 2) (by omega)]; exact hy⟩
def sUndA (B : Big) : Int32 := if (zH (bZ B)).length = 0 then -1 else nI ((zH (bZ B)).length - 1)
def sUndZ (B : Big) : Sta := match (zH (bZ B)).getLast? with
  | none => bZ B
  | some U => (U, (zH (bZ B)).dropLast, zS (bZ B), zR (bZ B))
theorem last_cs (H : List Tab) : (H = [] ∧ H.getLast? = none) ∨ ∃ G U, H = G ++ [U] ∧ H.getLast? = some U ∧ H.dropLast = G := by
  rcases List.eq_nil_or_concat H with rfl | ⟨G, U, rfl⟩
  · exact Or.inl ⟨rfl, rfl⟩
  · exact Or.inr ⟨G, U, by simp, by simp, by simp⟩
theorem sUnd_ok (hB : BigOK B) : StaOK (bS B) (sUndZ B) := by
  have hz := hB.2.2.2.1
  unfold sUndZ
  rcases last_cs (zH (bZ B)) with ⟨_, e⟩ | ⟨G, U, eH, e, ed⟩
  · rw [e]; exact hz
  · rw [e]
    have h1 := hz.2.1
    have h2 := hz.2.2.1
    rw [eH] at h1 h2
    refine ⟨h2 U (by simp), ?_, fun V hV => ?_, hz.2.2.2⟩
    · show (zH (bZ B)).dropLast.length ≤ 40
      rw [ed]; simp at h1; omega
    · have hV : V ∈ (zH (bZ B)).dropLast := hV
      rw [ed] at hV
      exact h2 V (by simp [hV])
theorem c12_fr {x L : Nat} : Fr (fun b => b = 83 ∨ b = 84 ∨ b = 85) C (c12C C x L) := by
  unfold c12C
  exact ((((Fr.refl _ C).uA (Or.inr (Or.inl rfl))).uI (Or.inl rfl)).uI (Or.inr (Or.inr rfl))).uI (Or.inr (Or.inr rfl))
theorem q134 (hC : CI C s B) (hB : BigOK B) : Rt (f_134 n 0 C) (fun z C' => z = sUndA B ∧ CI C' s (bUp B (sUndZ B)) ∧ (∀ b, 145 ≤ b → cI C' b = cI C b)) := by
  have c4 := hB.1.2.1
  have P1 := hC.1
  have Z1 := hC.2.2.2.2.2.2.2.2.1
  have l40 := hB.2.2.2.1.2.1
  obtain ⟨x, hx, q2, q3, q4⟩ := Z1.2.1
  have q2 : cI C 85 2 = nI x := q2
  have q3 : cI C 85 3 = nI (zH (bZ B)).length := q3
  unfold f_134 sUndA sUndZ
  rcases last_cs (zH (bZ B)) with ⟨eH, e⟩ | ⟨G, U, eH, e, ed⟩
  · rw [e]
    have l0 : (zH (bZ B)).length = 0 := by rw [eH]; rfl
    rw [l0] at q3
    have q3 : cI C 85 3 = 0 := q3
    simp only [↓reduceIte, k_0, if_true, ↓bd1 (w_0_6 P1), k_82, ↓bd1 (w_82_1 P1), k_85, q3, not_true, if_false, l0]
    exact rt_ret ⟨rfl, hC, fun _ _ => rfl⟩
  · rw [e, ed]
    have l1 : (zH (bZ B)).length = G.length + 1 := by rw [eH]; simp
    have l0 : ¬ (zH (bZ B)).length = 0 := by omega
    have n0 : ¬ nI (zH (bZ B)).length = 0 := by rw [x_eq0 (by omega)]; exact l0
    have w12 := c12 (n := n) P1 hx l40 l0 q2 q3
    have F2 := c12_fr (C := C) (x := x) (L := (zH (bZ B)).length)
    have P2 : PInv (c12C C x (zH (bZ B)).length) := P1.of F2.1
    have H2 := c12_h (cols := sCols (bS B)) (C := C) (x := x) (H := G) (U := U) c4 hx (by rw [← eH]; exact l40) (by rw [← eH]; exact q4)
    rw [← eH] at H2
    have e3 : cI (c12C C x (zH (bZ B)).length) 85 3 = nI ((zH (bZ B)).length - 1) := by unfold c12C; rw [r_I, if_pos ⟨rfl, rfl⟩]
    generalize c12C C x (zH (bZ B)).length = C2 at w12 F2 P2 H2 e3
    simp only [↓reduceIte, k_0, if_true, ↓bd1 (w_0_6 P1), k_82, ↓bd1 (w_82_1 P1), k_85, q3, n0, not_false_iff, if_false, l0, ↓bd1 (w_82_0 P1), ↓bd1 w12, ↓bd1 (w_0_6 P2), ↓bd1 (w_82_1 P2), e3]
    refine rt_ret ⟨rfl, ?_, fun b hb => F2.2.1 b (by omega)⟩
    refine hC.up hB P2 (by rw [F2.1]) (fun b hb => F2.2.1 b (by omega)) ?_
    obtain ⟨_, _, h3, h4, h5⟩ := Z1
    have e : ∀ b, ¬ (b = 83 ∨ b = 84 ∨ b = 85) → cI C2 b = cI C b := fun b hb => F2.2.1 b hb
    exact ⟨H2.2, H2.1, by rw [e 82 (by omega)]; exact h3, by rw [e (82 + 6) (by omega), e (82 + 7) (by omega), e (82 + 8) (by omega)]; exact h4, by rw [e (82 + 9) (by omega)]; exact h5⟩
/-! the reference -/
theorem StaM.ref {cols k : Nat} {z : Sta} {v : Int32} (hz : StaM cols C 0 300 6 0 0 z) (hv : v = cI C 150 k + 1) (hk : k < 3) : StaM cols (uI C 150 k v) 0 300 6 0 0 (zRef z k) := by
  obtain ⟨h1, ⟨x, h2, h3, h5, h6⟩, h7, h8, h9⟩ := hz
  have e : ∀ b, ¬ b = 150 → cI (uI C 150 k v) b = cI C b := fun b hb => r_In hb
  have eT : ∀ f T, TMZ cols C f T → TMZ cols (uI C 150 k v) f T := fun f T hT => by
    unfold TMZ TabM TabZ
    rw [e 146 (by omega)]
    exact hT
  refine ⟨eT _ _ h1, ⟨x, h2, by rw [e _ (by omega)]; exact h3, by rw [e _ (by omega)]; exact h5, fun j hj => eT _ _ (h6 j hj)⟩, by rw [e _ (by omega)]; exact h7, by rw [e _ (by omega), e _ (by omega), e _ (by omega)]; exact h8, fun j hj => ?_⟩
  show cI (uI C 150 k v) 150 (0 + j) = if j = k then zR z j + 1 else zR z j
  rw [r_I, Nat.zero_add]
  have h9 := h9 j hj
  rw [Nat.zero_add] at h9
  by_cases d : j = k
  · subst d
    rw [if_pos ⟨rfl, rfl⟩, if_pos rfl, hv, h9]
  · rw [if_neg (fun y => d y.2), if_neg d]
    exact h9
theorem MI.ref {k : Nat} {v : Int32} (hB : BigOK B) (hM : MI C h B) (hv : v = cI C 150 k + 1) (hk : k < 3) : MI (uI C 150 k v) h (bUp B (zRef (bZ B) k)) :=
  hM.up hB rfl (fun b z1 z2 => r_In (by omega)) (fun f _ _ => by rw [r_In (by decide)]) (fun j _ => by rw [r_In (by decide)]) (fun j _ => ⟨by rw [r_In (by decide)], by rw [r_In (by decide)], by rw [r_In (by decide)]⟩) (fun j hj => by rw [r_I, if_neg (by omega)]) (hM.2.2.2.2.1.ref hv hk)
/-- what is behind keeps of the reference -/
def KpM (C C' : AmC) (x L : Nat) : Prop := cP C' = cP C ∧ (∀ b, ¬ b = 145 → ¬ b = 146 → cI C' b = cI C b) ∧ (∀ f, ¬ f = 6 → ¬ f = 7 → cI C' 145 f = cI C 145 f) ∧ cI C' 145 6 = nI (if L < 40 then L + 1 else 40) ∧ cI C' 145 7 = nI (if L < 40 then x else (x + 1) % 40) ∧ ∀ m, cI C' 146 m = if 300 + 150 * ((x + L) % 40) ≤ m ∧ m < 300 + 150 * ((x + L) % 40) + 150 then cI C 146 (m - (300 + 150 * ((x + L) % 40))) else cI C 146 m
theorem KpM.ring {cols x : Nat} {H : List Tab} {T : Tab} (h4 : cols ≤ 4) (hx : x < 40) (hL : H.length ≤ 40) (K : KpM C C' x H.length) (hT : TMZ cols C 0 T) (hH : ∀ k (_ : k < H.length), TMZ cols C (300 + 150 * ((x + k) % 40)) H[k]) : ∃ y, y < 40 ∧ cI C' 145 6 = nI (psh H T).length ∧ cI C' 145 7 = nI y ∧ ∀ k (_ : k < (psh H T).length), TMZ cols C' (300 + 150 * ((y + k) % 40)) (psh H T)[k] := by
  obtain ⟨_, _, _, k6, k7, km⟩ := K
  have ln := psh_len (T := T) hL
  refine ⟨if H.length < 40 then x else (x + 1) % 40, by split <;> omega, by rw [k6, ln], k7, fun k hk => ?_⟩
  rcases psh_get hL hk with ⟨ek, et⟩ | ⟨j, hj, et, ej⟩
  · rw [ln] at ek
    have es : ((if H.length < 40 then x else (x + 1) % 40) + k) % 40 = (x + H.length) % 40 := by split at ek <;> split <;> omega
    rw [es, et]
    refine TMZ.cp h4 hT (fun m hm => ?_)
    rw [km, if_pos (by omega)]
    congr 1
    omega
  · have es : ((if H.length < 40 then x else (x + 1) % 40) + k) % 40 = (x + j) % 40 := by
      rcases ej with ⟨l, rfl⟩ | ⟨l, rfl⟩
      · rw [if_pos l]
      · rw [if_neg (by omega)]; omega
    have ne : ¬ (x + j) % 40 = (x + H.length) % 40 := by
      rcases ej with ⟨l, rfl⟩ | ⟨l, rfl⟩ <;> omega
    rw [es, et]
    refine (hH j hj).of h4 (fun m z1 z2 => ?_)
    rw [km, if_neg (by omega)]
/-- an act of the reference -/
theorem MI.act {T : Tab} {C2 : AmC} {x : Nat} (hB : BigOK B) (hM : MI C h B) (hx : x < 40) (hr : ∀ k (_ : k < (zH (bZ B)).length), TMZ (sCols (bS B)) C (300 + 150 * ((x + k) % 40)) (zH (bZ B))[k]) (K : KpM C C' x (zH (bZ B)).length) (p : cP C2 = cP C') (o : ∀ b, ¬ b = 146 → cI C2 b = cI C' b) (o2 : ∀ j, 150 ≤ j → cI C2 146 j = cI C' 146 j) (hT : TMZ (sCols (bS B)) C2 0 T) : MI C2 h (bUp B (zAct (bZ B) T)) := by
  have c4 := hB.1.2.1
  have R := K.ring c4 hx hB.2.2.2.1.2.1 hM.2.2.2.2.1.1 hr
  obtain ⟨kp, ko, kf, k6, k7, km⟩ := K
  obtain ⟨y, hy, r6, r7, rr⟩ := R
  have hZ := hM.2.2.2.2.1
  have f : ∀ q, ¬ q = 6 → ¬ q = 7 → cI C2 145 q = cI C 145 q := fun q z1 z2 => by rw [o 145 (by omega), kf q z1 z2]
  have b : ∀ q, ¬ q = 145 → ¬ q = 146 → cI C2 q = cI C q := fun q z1 z2 => by rw [o q z2, ko q z1 z2]
  refine hM.up hB (p.trans kp) (fun q z1 z2 => b q (by omega) (by omega)) (fun q z1 z2 => f q (by omega) (by omega)) (fun j hj => by rw [o2 j (by omega), km, if_neg (by omega)]) (fun j _ => ⟨by rw [b _ (by omega) (by omega)], by rw [b _ (by omega) (by omega)], by rw [b _ (by omega) (by omega)]⟩) (fun j _ => by rw [b _ (by omega) (by omega)]) ?_
  refine ⟨hT, ⟨y, hy, by rw [o 145 (by omega)]; exact r6, by rw [o 145 (by omega)]; exact r7, fun k hk => (rr k hk).of c4 (fun j z1 z2 => o2 j (by omega))⟩, by rw [f 8 (by omega) (by omega)]; exact hZ.2.2.1, by rw [b 147 (by omega) (by omega), b 148 (by omega) (by omega), b 149 (by omega) (by omega)]; exact hZ.2.2.2.1, by rw [b 150 (by omega) (by omega)]; exact hZ.2.2.2.2⟩
theorem m271_lp {t : Nat} (ht : t + 150 ≤ 12500) : ∀ k j n C, j + k = 150 → k < n → PInv C → Rt (lp_271_2 n 145 (nI t) (nI j) C) (fun _ C' => cP C' = cP C ∧ (∀ b, ¬ b = 146 → cI C' b = cI C b) ∧ ∀ m, cI C' 146 m = if t + j ≤ m ∧ m < t + 150 then cI C 180 (m - t) else cI C 146 m) := by
  intro k
  induction k with
  | zero =>
    intro j n C h1 hn hP
    obtain ⟨n, rfl⟩ : ∃ m, n = m + 1 := ⟨n - 1, by omega⟩
    have b1 : 150 ≤ j := by omega
    simp (disch := omega) only [↓reduceIte, lp_271_2, n_150, x_le, b1, if_true]
    exact rt_ret ⟨rfl, fun _ _ => rfl, fun m => by rw [if_neg (by omega)]⟩
  | succ k ih =>
    intro j n C h1 hn hP
    obtain ⟨n, rfl⟩ : ∃ m, n = m + 1 := ⟨n - 1, by omega⟩
    have b1 : ¬ 150 ≤ j := by omega
    have i1 : j < 150 := by omega
    have i2 : t + j < 12500 := by omega
    have I := ih (j + 1) n (uI C 146 (t + j) (cI C 180 j)) (by omega) (by omega) (hP.of rfl)
    simp (disch := omega) only [↓reduceIte, lp_271_2, n_150, x_le, b1, if_true, if_false, Option.bind_some, k_145, ↓bd1 (w_145_0 hP), k_146, l_146, ↓bd1 (w_145_57 hP), k_180, l_180, x_add, x_in, x_cl, i1, i2, x_a1]
    refine rt_mono I (fun _ C' H => ⟨H.1, fun q hq => by rw [H.2.1 q hq, r_In hq], fun m => ?_⟩)
    rw [H.2.2 m, r_In (show (180 : Nat) ≠ 146 by decide)]
    by_cases e : m = t + j
    · subst e
      rw [if_neg (by omega), r_I, if_pos ⟨rfl, rfl⟩, if_pos (by omega)]
      congr 1
      omega
    · by_cases g : t + (j + 1) ≤ m ∧ m < t + 150
      · rw [if_pos g, if_pos (by omega)]
      · rw [if_neg g, if_neg (by omega), r_I, if_neg (by omega)]
theorem m271 {t : Nat} (hP : PInv C) (ht : t + 150 ≤ 12500) (hn : 200 ≤ n) : Rt (f_271 n 145 (nI t) C) (fun _ C' => cP C' = cP C ∧ (∀ b, ¬ b = 146 → cI C' b = cI C b) ∧ ∀ m, cI C' 146 m = if t ≤ m ∧ m < t + 150 then cI C 180 (m - t) else cI C 146 m) := by
  have L := m271_lp ht 150 0 n C rfl (by omega) hP
  rw [x_0] at L
  unfold f_271
  exact rt_bind (rt_mono L (fun _ C' H => rt_ret H))
theorem TMZ.w {cols : Nat} {f : Nat} {T : Tab} (h4 : cols ≤ 4) (h1 : TabM 30 cols C 180 0 T) (h2 : TabZ 30 cols C 180 0 T) (e : ∀ m, m < 150 → cI C' 146 (f + m) = cI C 180 m) : TMZ cols C' f T := by
  refine ⟨⟨fun p hp => ?_, fun p hp tp c hc => ?_⟩, fun p hp tp c g1 g2 => ?_⟩
  · have := h1.1 p hp
    rw [Nat.zero_add] at this
    rw [e p (by omega)]; exact this
  · have := e (30 + 4 * p + c) (by omega)
    rw [show f + 30 + 4 * p + c = f + (30 + 4 * p + c) by omega, this, ← h1.2 p hp tp c hc, show 0 + 30 + 4 * p + c = 30 + 4 * p + c by omega]
  · have := e (30 + 4 * p + c) (by omega)
    rw [show f + 30 + 4 * p + c = f + (30 + 4 * p + c) by omega, this, ← h2 p hp tp c g1 g2, show 0 + 30 + 4 * p + c = 30 + 4 * p + c by omega]
theorem q272 (hM : MI C h B) (hB : BigOK B) (hn : 9700 ≤ n) (a : Int32) : Rt (f_272 n 145 a C) (fun z C' => An C' z (sRunA B a) ∧ MI C' h (bUp B (sRunZ B a)) ∧ cP C' = cP C ∧ ∀ b, b < 145 ∨ (151 ≤ b ∧ b ≤ 177) → cI C' b = cI C b) := by
  have l8 := hB.1.2.2.2.2.2.2.2.1
  have c4 := hB.1.2.1
  obtain ⟨M0, t0, F0⟩ := hM.t0 hB
  generalize hC0 : uI C 145 5 0 = C0 at M0 t0 F0
  have hh := M0.1.2.2.1.1
  unfold f_272 sRunA sRunZ
  rw [hC0]
  rcases ix_c (N := (sStm (bS B)).length) (by omega) a with ⟨na, ea⟩ | ⟨i, hi, rfl, ea⟩
  · rw [ea]
    simp only [↓reduceIte, k_145, if_true, if_false, not_true, ↓bd1 (m250_f (n := n) M0.1 na t0)]
    have A := An_f (z := 0) F0
    exact rt_ret ⟨A.1, hM.frR hB A.2, A.2.1, A.2.o⟩
  · rw [ea]
    have W := m226 (n := n) (f := 0) (h := h) (i := 8 * h + i) M0.1 (by omega) (M0.stm hi) (stmO_ok hB.1 hi) (by omega) M0.2.2.2.2.1.1.1 M0.2.2.2.2.1.1.2 hB.2.2.2.1.1.1 (by omega)
    rw [x_0] at W
    simp (disch := omega) only [k_145, if_true, if_false, n10f, not_false_iff, ↓bd1 (m250_t (n := n) M0.1 hi t0), M0.1.2.1, ↓reduceIte, n_2, n_3, n_4, n_5, n_6, n_7, n_8, n_10, n_12, n_20, n_30, n_40, n_100, n_120, n_150, n_200, n_230, n_320, n_450, n_900, x_le, x_lt, x_eq, x_lt0, x_le0, x_0le, x_0lt, x_eq0, x_eq1, x_1lt, x_le1, x_lt1, x_1le, x_eqm, x_add, x_a1, x_1a, x_a0, x_0a, x_mul, x_sub, x_s1, x_1s, x_div, x_cl, x_cl0, x_cl1, x_in, x_in0, x_in1, x_ofNat]
    refine rt_bind (rt_mono W (fun _ C1 H => ?_))
    obtain ⟨⟨eT, eZ, e10, e11, _, _, _, _⟩, F, _, _⟩ := H
    have F1 := F.r (by omega)
    have FF := F0.trans F1
    have M1 := M0.frR hB F1
    have P1 := M1.1.1
    have t5 : cI C1 145 5 = 0 := (F.2.2.2 5 (by omega)).trans t0
    rw [e11]
    by_cases d : rE (sRight (bS B) (stmO (bS B) i) (zT (bZ B))) = 0
    · obtain ⟨x, hx, q6, q7, q8⟩ := M1.2.2.2.2.1.2.1
      have K := m270 (n := n) P1 hx hB.2.2.2.1.2.1 q6 q7 (by omega)
      rw [if_pos d, if_pos d, if_pos d]
      refine rt_bind (rt_mono K (fun _ C2 H => ?_))
      have K2 : KpM C1 C2 x (zH (bZ B)).length := H
      have L := m271 (n := n) (t := 0) (P1.of K2.1) (by omega) (by omega)
      rw [x_0] at L
      refine rt_bind (rt_mono L (fun _ C3 H => ?_))
      obtain ⟨p3, o3, m3⟩ := H
      have e180 : cI C2 180 = cI C1 180 := K2.2.1 180 (by omega) (by omega)
      refine rt_ret ⟨⟨by rw [o3 145 (by omega), K2.2.2.1 5 (by omega) (by omega)]; exact t5, by rw [o3 145 (by omega), K2.2.2.1 65 (by omega) (by omega)]; exact e10⟩, ?_, by rw [p3, K2.1]; exact FF.1, fun b hb => by rw [o3 b (by omega), K2.2.1 b (by omega) (by omega)]; exact FF.o b hb⟩
      refine M1.act hB hx q8 K2 p3 o3 (fun j hj => by rw [m3, if_neg (by omega)]) ?_
      refine TMZ.w (C := C1) c4 eT eZ (fun m hm => ?_)
      rw [m3, if_pos (by omega), e180]
      congr 1
      omega
    · have t1 : Int32.toNatClampNeg (1 : Int32) = 1 := by decide
      have i1 : amIn (1 : Int32) (aLen 150) = true := by decide
      have e66 : ∀ v, cI (uI C1 150 1 v) 145 66 = rE (sRight (bS B) (stmO (bS B) i) (zT (bZ B))) := fun v => by rw [r_In (by decide)]; exact e11
      rw [if_neg d, if_neg d, if_neg d]
      simp only [↓reduceIte, ↓bd1 (w_145_4 P1), k_150, if_true, i1, t1, e66]
      exact rt_ret ⟨⟨by rw [r_In (by decide)]; exact t5, rfl⟩, M1.ref hB rfl (by omega), FF.1, fun b hb => by rw [r_In (by omega)]; exact FF.o b hb⟩
theorem up_f {f : Nat → Bool} {p q : Nat} (h : va_up f p false q = true) : f q = true := by
  unfold va_up at h
  split at h
  · cases h
  · exact h
theorem q275 (hM : MI C h B) (hB : BigOK B) (hn : 300 ≤ n) (a : Int32) : Rt (f_275 n 145 a C) (fun z C' => An C' z (sTakA B a) ∧ MI C' h (bUp B (sTakZ B a)) ∧ cP C' = cP C ∧ ∀ b, b < 145 ∨ (151 ≤ b ∧ b ≤ 177) → cI C' b = cI C b) := by
  have c4 := hB.1.2.1
  obtain ⟨M0, t0, F0⟩ := hM.t0 hB
  generalize hC0 : uI C 145 5 0 = C0 at M0 t0 F0
  have P0 := M0.1.1
  unfold f_275 sTakA sTakZ
  rw [hC0]
  rcases ix_c (N := 30) (by omega) a with ⟨na, ea⟩ | ⟨p, hp, rfl, ea⟩
  · rw [ea]
    have w1 : f_163 n a 0 (29 : Int32) C0 = some (0, C0) := m163_f (N := 30) (by omega) na
    simp only [↓reduceIte, k_145, if_true, if_false, not_true, ↓bd1 w1, ↓bd1 (m162_f (n := n) (w := 1) t0 (by decide))]
    have A := An_f (z := 0) F0
    exact rt_ret ⟨A.1, hM.frR hB A.2, A.2.1, A.2.o⟩
  · rw [ea]
    have w1 : f_163 n (nI p) 0 (29 : Int32) C0 = some (1, C0) := m163_t (N := 30) (by omega) hp
    have hT := M0.2.2.2.2.1.1
    have e1 := hT.1.1 p hp
    rw [Nat.zero_add] at e1
    have p5 : p < 12500 := by omega
    rcases bcs ((zT (bZ B)).1 p) with d | d
    · rw [d] at e1
      have e1 : cI C0 146 p = 0 := e1
      have t1 : Int32.toNatClampNeg (1 : Int32) = 1 := by decide
      have i1 : amIn (1 : Int32) (aLen 150) = true := by decide
      simp (disch := omega) only [↓reduceIte, k_145, if_true, if_false, ↓bd1 w1, ↓bd1 (m162_t (n := n) (w := 1) t0), n10f, not_false_iff, ↓bd1 (w_145_0 P0), k_146, l_146, x_in, x_cl, p5, e1, not_true, ↓bd1 (w_145_4 P0), k_150, i1, t1, d, Bool.false_eq_true]
      exact rt_ret ⟨⟨by rw [r_In (by decide)]; exact t0, rfl⟩, M0.ref hB rfl (by omega), F0.1, fun b hb => by rw [r_In (by omega)]; exact F0.o b hb⟩
    · rw [d] at e1
      have e1 : cI C0 146 p = 1 := e1
      obtain ⟨x, hx, q6, q7, q8⟩ := M0.2.2.2.2.1.2.1
      have K := m270 (n := n) P0 hx hB.2.2.2.1.2.1 q6 q7 (by omega)
      simp (disch := omega) only [↓reduceIte, k_145, if_true, if_false, ↓bd1 w1, ↓bd1 (m162_t (n := n) (w := 1) t0), n10f, not_false_iff, ↓bd1 (w_145_0 P0), k_146, l_146, x_in, x_cl, p5, e1, d]
      refine rt_bind (rt_mono K (fun _ C2 H => ?_))
      have K2 : KpM C0 C2 x (zH (bZ B)).length := H
      have P2 : PInv C2 := P0.of K2.1
      have T3 : TMZ (sCols (bS B)) (uI C2 146 p 0) 0 (va_up (zT (bZ B)).1 p false, (zT (bZ B)).2) := by
        have km := K2.2.2.2.2.2
        refine ⟨⟨fun q hq => ?_, fun q hq tq c hc => ?_⟩, fun q hq tq c g1 g2 => ?_⟩
        · rw [r_I]
          by_cases eq : q = p
          · subst eq
            rw [if_pos ⟨rfl, by omega⟩]
            simp [va_up]
          · rw [if_neg (by omega), km, if_neg (by omega), hT.1.1 q hq]
            simp [va_up, eq]
        · have tq : va_up (zT (bZ B)).1 p false q = true := tq
          have tq2 : (zT (bZ B)).1 q = true := up_f tq
          rw [r_I, if_neg (by omega), km, if_neg (by omega), hT.1.2 q hq tq2 c hc]
        · have tq : va_up (zT (bZ B)).1 p false q = true := tq
          have tq2 : (zT (bZ B)).1 q = true := up_f tq
          rw [r_I, if_neg (by omega), km, if_neg (by omega), hT.2 q hq tq2 c g1 g2]
      have w44 := m244 (n := n) (f := 0) (P2.of (C1 := uI C2 146 p 0) rfl) (by omega) T3.1 (by omega)
      rw [x_0] at w44
      simp (disch := omega) only [↓reduceIte, ↓bd1 (w_145_0 P2), k_146, l_146, if_true, x_in, x_cl, p5, ↓bd1 w44]
      refine rt_ret ⟨⟨by rw [r_In (by decide), K2.2.2.1 5 (by omega) (by omega)]; exact t0, rfl⟩, ?_, by show cP C2 = _; rw [K2.1]; exact F0.1, fun b hb => by rw [r_In (by omega), K2.2.1 b (by omega) (by omega)]; exact F0.o b hb⟩
      exact M0.act hB hx q8 K2 rfl (fun b hb => r_In hb) (fun j hj => by rw [r_I, if_neg (by omega)]) T3
theorem q276 (hM : MI C h B) (hB : BigOK B) (hn : 300 ≤ n) : Rt (f_276 n 145 C) (fun z C' => z = sUndA B ∧ MI C' h (bUp B (sUndZ B)) ∧ cP C' = cP C ∧ ∀ b, b < 145 ∨ (151 ≤ b ∧ b ≤ 177) → cI C' b = cI C b) := by
  have c4 := hB.1.2.1
  obtain ⟨M0, t0, F0⟩ := hM.t0 hB
  generalize hC0 : uI C 145 5 0 = C0 at M0 t0 F0
  have P0 := M0.1.1
  have l40 := hB.2.2.2.1.2.1
  obtain ⟨x, hx, q6, q7, q8⟩ := M0.2.2.2.2.1.2.1
  have q6 : cI C0 145 6 = nI (zH (bZ B)).length := q6
  have q7 : cI C0 145 7 = nI x := q7
  unfold f_276 sUndA sUndZ
  rw [hC0]
  rcases last_cs (zH (bZ B)) with ⟨eH, e⟩ | ⟨G, U, eH, e, ed⟩
  · rw [e]
    have l0 : (zH (bZ B)).length = 0 := by rw [eH]; rfl
    rw [l0] at q6
    have q6 : cI C0 145 6 = 0 := q6
    simp only [↓reduceIte, k_145, if_true, q6, not_true, if_false, l0]
    exact rt_ret ⟨rfl, M0, F0.1, F0.o⟩
  · rw [e, ed]
    have l1 : (zH (bZ B)).length = G.length + 1 := by rw [eH]; simp
    have l0 : ¬ (zH (bZ B)).length = 0 := by omega
    have n0 : ¬ nI (zH (bZ B)).length = 0 := by rw [x_eq0 (by omega)]; exact l0
    have s1 : nI (zH (bZ B)).length - 1 = nI G.length := by rw [x_s1 (by omega), l1]; rfl
    have a6 : cI (uI C0 145 6 (nI G.length)) 145 6 = nI G.length := by rw [r_I, if_pos ⟨rfl, rfl⟩]
    have a7 : cI (uI C0 145 6 (nI G.length)) 145 7 = nI x := by rw [r_I, if_neg (by omega), q7]
    have w269 : f_269 n (nI x) (nI G.length) (uI C0 145 6 (nI G.length)) = some (nI (300 + 150 * ((x + G.length) % 40)), uI C0 145 6 (nI G.length)) := by
      have n150 : (150 : Int32) = nI 150 := rfl
      have n300 : (300 : Int32) = nI 300 := rfl
      unfold f_269
      rw [x_add, x_mod (by omega), n150, x_mul, n300, x_add]
    have W := m164 (n := n) (C := uI C0 145 6 (nI G.length)) (f := 300 + 150 * ((x + G.length) % 40)) (t := 0) (N := 150) (P0.of rfl) (by omega) (by omega) (by omega) (by omega)
    rw [x_0, ← n_150] at W
    simp only [↓reduceIte, k_145, if_true, q6, n0, not_false_iff, if_false, l0, s1, a6, a7, ↓bd1 w269]
    refine rt_bind (rt_mono W (fun _ C2 H => ?_))
    obtain ⟨p2, _, o2, m2⟩ := H
    have e145 : cI C2 145 = cI (uI C0 145 6 (nI G.length)) 145 := o2 145 (by omega)
    have b2 : ∀ b, ¬ b = 145 → ¬ b = 146 → cI C2 b = cI C0 b := fun b z1 z2 => by rw [o2 b z2, r_In z1]
    have m0 : ∀ m, 150 ≤ m → cI C2 146 m = cI C0 146 m := fun m hm => by rw [m2, if_neg (by omega), r_In (by decide)]
    refine rt_ret ⟨by rw [e145, a6, l1]; rfl, ?_, by rw [p2]; exact F0.1, fun b hb => by rw [b2 b (by omega) (by omega)]; exact F0.o b hb⟩
    have hZ := M0.2.2.2.2.1
    refine M0.up hB p2 (fun b z1 z2 => b2 b (by omega) (by omega)) (fun f z1 z2 => by rw [e145, r_I, if_neg (by omega)]) (fun j hj => m0 j (by omega)) (fun j _ => ⟨by rw [b2 _ (by omega) (by omega)], by rw [b2 _ (by omega) (by omega)], by rw [b2 _ (by omega) (by omega)]⟩) (fun j _ => by rw [b2 _ (by omega) (by omega)]) ?_
    have qU := q8 G.length (by omega)
    have gU : (zH (bZ B))[G.length]'(by omega) = U := by simp only [eH]; rw [List.getElem_append_right (by omega)]; simp
    rw [gU] at qU
    refine ⟨?_, ⟨x, hx, by rw [e145]; exact a6, by rw [e145]; exact a7, fun k hk => ?_⟩, by rw [e145, r_I, if_neg (by omega)]; exact hZ.2.2.1, by rw [b2 147 (by omega) (by omega), b2 148 (by omega) (by omega), b2 149 (by omega) (by omega)]; exact hZ.2.2.2.1, by rw [b2 150 (by omega) (by omega)]; exact hZ.2.2.2.2⟩
    · refine TMZ.cp c4 qU (fun m hm => ?_)
      rw [m2, if_pos (by omega), r_In (by decide)]
      congr 1
      omega
    · have hk : k < G.length := hk
      have qk := q8 k (by omega)
      have gk : (zH (bZ B))[k]'(by omega) = G[k] := by simp only [eH]; rw [List.getElem_append_left hk]
      rw [gk] at qk
      exact qk.of c4 (fun j z1 z2 => m0 j (by omega))
end
