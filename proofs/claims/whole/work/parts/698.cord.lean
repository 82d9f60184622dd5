/-! order (class). -/
theorem run_end {S : Scr} {t : Stm} {path : Nat} {T : Tab} (h : rE (sEnd S (sRun S t 3 path T)) = 0) : rE (sReads S t 3 path T).1 = 0 := by
  by_cases e : rE (sReads S t 3 path T).1 = 0
  · exact e
  · exfalso
    have f : ∀ (L : List Itm) (r : RS), ¬ rE r = 0 → L.foldl (sItem S t 3) r = r := by
      intro L
      induction L with
      | nil => intro r _; rfl
      | cons q L ih =>
        intro r hr
        rw [List.foldl_cons]
        have : sItem S t 3 r q = r := by unfold sItem; rw [if_neg hr]
        rw [this]
        exact ih r hr
    have er : sRun S t 3 path T = (sReads S t 3 path T).1 := by unfold sRun; exact f _ _ e
    rw [er] at h
    unfold sEnd at h
    rw [if_neg e] at h
    exact e h
theorem ord_len {S : Scr} {t : Stm} {I : List Itm} {w : Nat} : ∀ k U R L, ordS S t I w k U R = some L → L.length = k := by
  intro k
  induction k with
  | zero => intro U R L h; rw [ordS] at h; cases h; rfl
  | succ k ih =>
    intro U R L h
    cases h1 : qf (nxO S t I U R) w 0 with
    | none => rw [ord_n h1] at h; cases h
    | some i =>
      cases h2 : sAt R t (itm I i).1 with
      | none =>
        rw [ordS, h1] at h
        dsimp only at h
        rw [h2] at h
        cases h
      | some q =>
        rw [ord_s h1 h2] at h
        cases h3 : ordS S t I w k (va_up U i true) (sPut R t (itm I i).1 q (itm I i).2.2) with
        | none => rw [h3] at h; cases h
        | some M =>
          rw [h3] at h
          cases h
          rw [List.length_cons, ih _ _ _ h3]
def ordL (B : Big) (i : Nat) : Option (List Nat) := if rE (sRight (bS B) (stmO (bS B) i) (zT (bZ B))) = 0 then ordS (bS B) (stmO (bS B) i) (sReads (bS B) (stmO (bS B) i) 3 0 (zT (bZ B))).2 (rL (sRun (bS B) (stmO (bS B) i) 3 0 (zT (bZ B)))).length (rL (sRun (bS B) (stmO (bS B) i) 3 0 (zT (bZ B)))).length (fun _ => false) (zT (bZ B)) else none
def sOrd (B : Big) (a b : Int32) : Int32 ⊕ Nat := match ixO (sStm (bS B)).length a with
  | none => .inr 0
  | some i => match ordL B i with
    | none => if b = -1 then .inl (-1) else .inr 0
    | some L => if b = -1 then .inl (nI L.length) else match ixO L.length b with
      | none => .inr 0
      | some j => .inl (nI (L.getD j 0))
section
variable {n : Nat} {C C' : AmC} {s h : Nat} {B : Big} {S : Scr}
theorem c156_lp {t : Stm} {I : List Itm} {l : List Ent} {st w : Nat} {T R W : Tab} {U : Nat → Bool} {u : Int64} (hB : BigOK B) (hS : S = bS B) (hR : RW S t T I l w) (hu : ∀ j, j < w → btL u j = U j) (hO : OS S t T I w U R W) : ∀ m k n C, k + m = w → m + 200 < n → CI C s B → SLI C s st S t I w → TabC (sCols S) C 105 R → (∀ j, j < k → nxO S t I U R j = false) → Rt (lp_156_6 n 0 (nI w) u 122 (nI k) C) (fun z C' => (∀ i, qf (nxO S t I U R) m k = some i → z = .inl (0, 122, nI i) ∧ ∃ q, sAt R t (itm I i).1 = some q ∧ TabC (sCols S) C' 122 (sPut R t (itm I i).1 q (itm I i).2.2)) ∧ (qf (nxO S t I U R) m k = none → z = .inr ()) ∧ Fr (fun b => b = 122 ∨ b = 123) C C') := by
  have wI := hR.2.1
  intro m
  induction m with
  | zero =>
    intro k n C h1 hn hC hL hT hb
    obtain ⟨n, rfl⟩ : ∃ m, n = m + 1 := ⟨n - 1, by omega⟩
    have l40 := hL.2.2.2.1
    rw [lp_156_6, if_pos ((x_le (by omega) (by omega)).mpr (by omega))]
    exact rt_ret ⟨fun i hi => (by cases hi), fun _ => rfl, Fr.refl _ _⟩
  | succ m ih =>
    intro k n C h1 hn hC hL hT hb
    obtain ⟨n, rfl⟩ : ∃ m, n = m + 1 := ⟨n - 1, by omega⟩
    have l40 := hL.2.2.2.1
    have P := hC.1
    have kw : k < w := by omega
    have on : ∀ C1, Fr (fun b => b = 122 ∨ b = 123) C C1 → nxO S t I U R k = false → Rt (lp_156_6 n 0 (nI w) u 122 (nI k + 1) C1) (fun z C' => (∀ i, qf (nxO S t I U R) (m + 1) k = some i → z = .inl (0, 122, nI i) ∧ ∃ q, sAt R t (itm I i).1 = some q ∧ TabC (sCols S) C' 122 (sPut R t (itm I i).1 q (itm I i).2.2)) ∧ (qf (nxO S t I U R) (m + 1) k = none → z = .inr ()) ∧ Fr (fun b => b = 122 ∨ b = 123) C C') := by
      intro C1 F1 nf
      have e : qf (nxO S t I U R) (m + 1) k = qf (nxO S t I U R) m (k + 1) := by rw [qf, nf, if_neg (by decide)]
      have FC : FrC C C1 := ⟨P.of F1.1, fun b z => F1.2.1 b (by omega), fun b z => F1.2.1 b (by omega), by rw [F1.1]⟩
      rw [e, x_a1]
      refine rt_mono (ih (k + 1) n C1 (by omega) (by omega) (hC.fr hB FC) (hL.fr F1 (fun b y => by omega)) (hT.of (F1.2.1 _ (by omega)) (F1.2.1 _ (by omega))) (fun j hj => ?_)) (fun _ _ H => ⟨H.1, H.2.1, F1.trans H.2.2⟩)
      by_cases q : j = k
      · rw [q]; exact nf
      · exact hb j (by omega)
    rw [lp_156_6, if_neg (by rw [x_le (by omega) (by omega)]; omega), l_us u (by omega), hu k kw]
    rcases bcs (U k) with uk | uk
    · have cm : ¬ lg_cmp (if U k = true then (1 : Int64) else 0) (1 : Int64) = 0 := by rw [cmp1, uk]; decide
      rw [if_pos cm, if_pos k_0, bd1 (w_0_13 P), if_pos k_122]
      have w72 := c72 (n := n) (rw_of P (show 122 ∈ rowsL by decide)) (rw_of P (show 105 ∈ rowsL by decide))
      have F1 := cpR_fr C 122 105
      have T1 : TabC (sCols S) (cpR C 122 105) 122 R := cpR_T (by rw [hS]; exact hB.1.2.1) hT
      have P1 : PInv (cpR C 122 105) := P.of F1.1
      generalize cpR C 122 105 = C1 at w72 F1 T1 P1
      have F1 : Fr (fun b => b = 122 ∨ b = 123) C C1 := F1
      have FC1 : FrC C C1 := ⟨P1, fun b z => F1.2.1 b (by omega), fun b z => F1.2.1 b (by omega), by rw [F1.1]⟩
      have C1i := hC.fr hB FC1
      obtain ⟨⟨φ, hq⟩, _⟩ := hO
      rw [bd1 w72]
      dsimp only
      rw [bd1 (w_0_9 P1), if_pos k_113]
      refine rt_bind (rt_mono (c58_i (n := n) (k := k) (hL.fr F1 (fun b y => by omega)) (by omega) (show 122 ∈ rowsL by decide) (by omega) (by omega) T1 (fun p hp nw => by
        obtain ⟨p', e1, _, e3, _⟩ := hq.2.2.2.1 k kw uk nw
        rw [hp] at e1
        cases e1
        exact e3) (by omega)) (fun z C2 H => ?_))
      obtain ⟨rfl, F2, T2⟩ := H
      have F2 : Fr (fun b => b = 122 ∨ b = 123) C1 C2 := F2
      have P2 : PInv C2 := P1.of F2.1
      have FC2 : FrC C1 C2 := ⟨P2, fun b z => F2.2.1 b (by omega), fun b z => F2.2.1 b (by omega), by rw [F2.1]⟩
      have C2i := C1i.fr hB FC2
      have F12 := F1.trans F2
      dsimp only
      cases hs : sAt R t (itm I k).1 with
      | none =>
        have nf : nxO S t I U R k = false := by unfold nxO okO; rw [hs, Bool.and_false]
        rw [if_pos oI_n]
        exact on C2 F12 nf
      | some q =>
        have T3 := T2 q hs
        have q30 : q < 30 := sAt_lt ((hL.2.2.2.2 k (by omega)).1) hs
        have w106 := c106 (n := n) (sc_of P2 hC.2.1) C2i.2.2.2.2.1 hB.1 (rw_of P2 (show 122 ∈ rowsL by decide)) (by rw [← hS]; exact T3) q30 (by omega)
        rw [← hS] at w106
        rw [if_neg (by rw [oI_s, x_eqm (by omega)]; exact id), oI_s, bd1 C2i.2.2.1, if_pos (sc_of P2 hC.2.1).k, bd1 w106]
        dsimp only
        rcases bcs (sHasTwin 30 S (sPut R t (itm I k).1 q (itm I k).2.2) q) with tw | tw
        · have nt : nxO S t I U R k = true := by unfold nxO okO; rw [hs, uk]; dsimp only; rw [tw]; rfl
          have e : qf (nxO S t I U R) (m + 1) k = some k := by rw [qf, nt, if_pos rfl]
          rw [tw, if_neg (by simp), e]
          exact rt_ret ⟨fun i hi => (by cases hi; exact ⟨rfl, q, hs, T3⟩), fun z => (by cases z), F12⟩
        · have nf : nxO S t I U R k = false := by unfold nxO okO; rw [hs]; dsimp only; rw [tw, Bool.not_true, Bool.and_false]
          rw [tw, if_pos (by decide)]
          exact on C2 F12 nf
    · have cm : lg_cmp (if U k = true then (1 : Int64) else 0) (1 : Int64) = 0 := by rw [cmp1]; exact uk
      have nf : nxO S t I U R k = false := by unfold nxO; rw [uk]; rfl
      rw [if_neg (fun z => z cm)]
      exact on C (Fr.refl _ _) nf
theorem c156 {t : Stm} {I : List Itm} {l : List Ent} {st w : Nat} {T R W : Tab} {U : Nat → Bool} {u : Int64} (hB : BigOK B) (hS : S = bS B) (hR : RW S t T I l w) (hu : ∀ j, j < w → btL u j = U j) (hO : OS S t T I w U R W) (hC : CI C s B) (hL : SLI C s st S t I w) (hT : TabC (sCols S) C 105 R) (hn : 500 ≤ n) : Rt (f_156 n 0 (nI w) u C) (fun z C' => (∀ i, qf (nxO S t I U R) w 0 = some i → z = nI i ∧ ∃ q, sAt R t (itm I i).1 = some q ∧ TabC (sCols S) C' 105 (sPut R t (itm I i).1 q (itm I i).2.2)) ∧ (qf (nxO S t I U R) w 0 = none → z = -1) ∧ Fr (fun b => b = 105 ∨ b = 106 ∨ b = 122 ∨ b = 123) C C') := by
  have P := hC.1
  have l40 := hL.2.2.2.1
  have wI := hR.2.1
  have L := c156_lp (s := s) hB hS hR hu hO w 0 n C (by omega) (by omega) hC hL hT (fun j hj => absurd hj (Nat.not_lt_zero j))
  rw [x_0] at L
  unfold f_156
  rw [if_pos k_0, bd1 (w_0_10 P), if_pos k_121, bd1 (w_121_0 P)]
  refine rt_bind (rt_mono L (fun z C1 H => ?_))
  obtain ⟨H1, H2, F1⟩ := H
  have P1 : PInv C1 := P.of F1.1
  cases hq : qf (nxO S t I U R) w 0 with
  | none =>
    have ez := H2 hq
    subst ez
    exact rt_ret ⟨fun i hi => (by cases hi), fun _ => rfl, F1.mono (fun b hb => by omega)⟩
  | some i =>
    obtain ⟨ez, q, hs, T1⟩ := H1 i hq
    subst ez
    have w72 := c72 (n := n) (rw_of P1 (show 105 ∈ rowsL by decide)) (rw_of P1 (show 122 ∈ rowsL by decide))
    have F2 := cpR_fr C1 105 122
    have T2 : TabC (sCols S) (cpR C1 105 122) 105 (sPut R t (itm I i).1 q (itm I i).2.2) := cpR_T (by rw [hS]; exact hB.1.2.1) T1
    generalize cpR C1 105 122 = C2 at w72 F2 T2
    dsimp only
    rw [if_pos k_0, bd1 (w_0_13 P1), if_pos k_105, bd1 w72]
    exact rt_ret ⟨fun i' hi' => (by cases hi'; exact ⟨rfl, q, hs, T2⟩), fun z => (by cases z), (F1.mono (fun b hb => by omega)).trans (F2.mono (fun b hb => by omega))⟩
theorem c155_lp {t : Stm} {I : List Itm} {l : List Ent} {st w : Nat} {T : Tab} (hB : BigOK B) (hS : S = bS B) (hR : RW S t T I l w) : ∀ m k n C (R W : Tab) (U : Nat → Bool) (u : Int64), k + m = w → m + 600 < n → CI C s B → SLI C s st S t I w → TabC (sCols S) C 105 R → OS S t T I w U R W → (∀ j, j < w → btL u j = U j) → Rt (lp_155_24 n 0 (nI w) u (nI k) C) (fun z C' => (∀ L, ordS S t I w m U R = some L → z = .inr (nI w) ∧ ∀ j, j < m → cI C' 108 (k + j) = nI (L.getD j 0)) ∧ (ordS S t I w m U R = none → z = .inl ()) ∧ (∀ j, j < k → cI C' 108 j = cI C 108 j) ∧ FrC C C') := by
  have wI := hR.2.1
  intro m
  induction m with
  | zero =>
    intro k n C R W U u h1 hn hC hL hT hO hu
    obtain ⟨n, rfl⟩ : ∃ m, n = m + 1 := ⟨n - 1, by omega⟩
    have l40 := hL.2.2.2.1
    rw [lp_155_24, if_pos ((x_le (by omega) (by omega)).mpr (by omega))]
    exact rt_ret ⟨fun L hL => ⟨rfl, fun j hj => absurd hj (Nat.not_lt_zero j)⟩, fun z => (by rw [ordS] at z; cases z), fun _ _ => rfl, FrC.refl hC.1⟩
  | succ m ih =>
    intro k n C R W U u h1 hn hC hL hT hO hu
    obtain ⟨n, rfl⟩ : ∃ m, n = m + 1 := ⟨n - 1, by omega⟩
    have l40 := hL.2.2.2.1
    have P := hC.1
    rw [lp_155_24, if_neg (by rw [x_le (by omega) (by omega)]; omega), if_pos k_0]
    refine rt_bind (rt_mono (c156 (n := n) (s := s) hB hS hR hu hO hC hL hT (by omega)) (fun z C1 H => ?_))
    obtain ⟨H1, H2, F1⟩ := H
    have P1 : PInv C1 := P.of F1.1
    have FC1 : FrC C C1 := ⟨P1, fun b z => F1.2.1 b (by omega), fun b z => F1.2.1 b (by omega), by rw [F1.1]⟩
    dsimp only
    cases hq : qf (nxO S t I U R) w 0 with
    | none =>
      have ez := H2 hq
      subst ez
      rw [if_neg (by simp), ord_n hq]
      exact rt_ret ⟨fun L hL => (by cases hL), fun _ => rfl, fun j _ => by rw [F1.2.1 108 (by omega)], FC1⟩
    | some i =>
      obtain ⟨ez, q, hs, T1⟩ := H1 i hq
      subst ez
      obtain ⟨_, iw, nt, nb⟩ := qf_some hq
      have iw : i < w := by omega
      have nU : U i = false := by
        unfold nxO at nt
        rw [Bool.and_eq_true, Bool.not_eq_true'] at nt
        exact nt.1
      have F2 : Fr (fun b => b = 108) C1 (uI C1 108 k (nI i)) := (Fr.refl (fun b => b = 108) C1).uI (a := 108) rfl
      have e8 : cI (uI C1 108 k (nI i)) 108 k = nI i := by rw [r_I, if_pos ⟨rfl, rfl⟩]
      have e8o : ∀ j, j < k → cI (uI C1 108 k (nI i)) 108 j = cI C 108 j := fun j hj => by rw [r_I, if_neg (by omega), F1.2.1 108 (by omega)]
      have k40 : k < 40 := by omega
      rw [if_pos (by rw [x_eqm (by omega)]; exact id), bd1 (w_0_15 P1), if_pos k_108, l_108, if_pos ((x_in (by omega)).mpr k40), x_cl (by omega), x_a1, ord_s hq hs]
      generalize uI C1 108 k (nI i) = C2 at F2 e8 e8o
      have P2 : PInv C2 := P1.of F2.1
      have FC2 : FrC C1 C2 := ⟨P2, fun b z => F2.2.1 b (by omega), fun b z => F2.2.1 b (by omega), by rw [F2.1]⟩
      have FF := FC1.trans FC2
      have I1 := ih (k + 1) n C2 _ _ (va_up U i true) (u ||| ((1 : Int64) <<< (Int32.toInt64 (nI i) &&& 63))) (by omega) (by omega) (hC.fr hB FF) ((hL.fr F1 (fun b y => by omega)).fr F2 (fun b y => by omega)) (T1.of (F2.2.1 _ (by omega)) (F2.2.1 _ (by omega))) (hO.next hR iw (fun j hj => nb j (by omega) hj) nt hs) (fun j hj => by
        rw [l_set u (by omega) (by omega)]
        by_cases e : j = i
        · rw [if_pos e, up_t e]
        · rw [if_neg e, up_n e]; exact hu j hj)
      refine rt_mono I1 (fun z C3 H => ?_)
      obtain ⟨G1, G2, G3, G4⟩ := H
      refine ⟨fun L hL' => ?_, fun hn' => ?_, fun j hj => by rw [G3 j (by omega), e8o j hj], FF.trans G4⟩
      · cases ho : ordS S t I w m (va_up U i true) (sPut R t (itm I i).1 q (itm I i).2.2) with
        | none => rw [ho] at hL'; cases hL'
        | some M =>
          rw [ho] at hL'
          cases hL'
          obtain ⟨g1, g2⟩ := G1 M ho
          refine ⟨g1, fun j hj => ?_⟩
          cases j with
          | zero => rw [Nat.add_zero, G3 k (by omega), e8]; rfl
          | succ j =>
            have := g2 j (by omega)
            rw [show k + (j + 1) = k + 1 + j by omega, this]
            rfl
      · cases ho : ordS S t I w m (va_up U i true) (sPut R t (itm I i).1 q (itm I i).2.2) with
        | none => exact G2 ho
        | some M => rw [ho] at hn'; cases hn'
theorem q130 (hC : CI C s B) (hB : BigOK B) (hn : 9700 ≤ n) (a b : Int32) : Rt (f_130 n 0 a b C) (fun z C' => z = sOrd B a b ∧ FrC C C') := by
  have l8 := hB.1.2.2.2.2.2.2.2.1
  have c4 := hB.1.2.1
  unfold f_130 sOrd
  rcases ix_c (N := (sStm (bS B)).length) (by omega) a with ⟨na, ea⟩ | ⟨i, hi, rfl, ea⟩
  · rw [ea]
    simp only [↓reduceIte, k_0, if_true, ↓bd1 (c143_f (n := n) hC na)]
    exact rt_ret ⟨rfl, FrC.refl hC.1⟩
  · rw [ea]
    simp only [↓reduceIte, k_0, if_true, ↓bd1 (c143_t (n := n) hC hB hi), ↓bd1 (w_0_6 hC.1), k_82, ↓bd1 (w_82_0 hC.1)]
    refine rt_bind (rt_mono (c151 (n := n) (r0 := 83) (T := zT (bZ B)) hC hB hi (by decide) (by omega) hC.2.2.2.2.2.2.2.2.1.1 hB.2.2.2.1.1.1 (by omega)) (fun _ C1 H => ?_))
    obtain ⟨hE, F, hK, xk⟩ := H
    have F' := F.c (by decide)
    have C1i := hC.fr hB F'
    have P1 := F.1
    have e11 : cI C1 113 11 = rE (sRight (bS B) (stmO (bS B) i) (zT (bZ B))) := hE.1.2.2.2.1
    have hR := rw_run (S := bS B) (t := stmO (bS B) i) (path := 0) (T := zT (bZ B)) xk
    -- what the order comes to
    have key : Rt (f_155 n 0 C1) (fun z C' => (∀ L, ordL B i = some L → z = nI L.length ∧ L.length ≤ 40 ∧ ∀ j, j < L.length → cI C' 108 j = nI (L.getD j 0)) ∧ (ordL B i = none → z = -1) ∧ FrC C1 C') := by
      unfold f_155
      rw [if_pos k_0, bd1 (w_0_9 P1), if_pos k_113, e11]
      by_cases d : rE (sRight (bS B) (stmO (bS B) i) (zT (bZ B))) = 0
      · have h0 := run_end (S := bS B) (t := stmO (bS B) i) (path := 0) (T := zT (bZ B)) d
        have eo : ordL B i = ordS (bS B) (stmO (bS B) i) (sReads (bS B) (stmO (bS B) i) 3 0 (zT (bZ B))).2 (rL (sRun (bS B) (stmO (bS B) i) 3 0 (zT (bZ B)))).length (rL (sRun (bS B) (stmO (bS B) i) 3 0 (zT (bZ B)))).length (fun _ => false) (zT (bZ B)) := by unfold ordL; rw [if_pos d]
        have w72 := c72 (n := n) (rw_of P1 (show 105 ∈ rowsL by decide)) (rw_of P1 (show 83 ∈ rowsL by decide))
        have F2 := cpR_fr C1 105 83
        have T2 : TabC (sCols (bS B)) (cpR C1 105 83) 105 (zT (bZ B)) := cpR_T c4 C1i.2.2.2.2.2.2.2.2.1.1
        have P2 : PInv (cpR C1 105 83) := P1.of F2.1
        have FC2 : FrC C1 (cpR C1 105 83) := ⟨P2, fun b z => F2.2.1 b (by omega), fun b z => F2.2.1 b (by omega), by rw [F2.1]⟩
        generalize cpR C1 105 83 = C2 at w72 F2 T2 P2 FC2
        have L2 := (sli_of hi hE hK xk h0).fr F2 (fun b y => by omega)
        have l40 := L2.2.2.2.1
        have wI := hR.2.1
        have mn : (if (Int32.ofNat (aLen 108)) < cI C2 113 10 then (Int32.ofNat (aLen 108)) else cI C2 113 10) = nI (rL (sRun (bS B) (stmO (bS B) i) 3 0 (zT (bZ B)))).length := by
          rw [L2.2.2.1, l_108]
          have : ¬ Int32.ofNat 40 < nI (rL (sRun (bS B) (stmO (bS B) i) 3 0 (zT (bZ B)))).length := by
            rw [x_ofNat, x_lt (by omega) (by omega)]
            omega
          rw [if_neg this]
        have L := c155_lp (s := s) (S := bS B) hB rfl hR (rL (sRun (bS B) (stmO (bS B) i) 3 0 (zT (bZ B)))).length 0 n C2 (zT (bZ B)) (wid0 (zT (bZ B))) (fun _ => false) 0 (by omega) (by omega) (C1i.fr hB FC2) L2 T2 (OS.start hR hB.2.2.2.1.1.2) (fun j _ => btL_0 j)
        rw [x_0] at L
        rw [if_pos d, bd1 (w_0_13 P1), bd1 (w_0_6 P1), if_pos k_82, bd1 (w_82_0 P1), if_pos k_105, bd1 w72]
        dsimp only
        rw [bd1 (w_0_9 P2), if_pos k_113, bd1 (w_0_15 P2), if_pos k_108, mn]
        refine rt_bind (rt_mono L (fun z C3 H => ?_))
        obtain ⟨G1, G2, _, G4⟩ := H
        cases ho : ordL B i with
        | none =>
          have ez := G2 (eo.symm.trans ho)
          subst ez
          exact rt_ret ⟨fun L hL => (by cases hL), fun _ => rfl, FC2.trans G4⟩
        | some L =>
          obtain ⟨ez, g2⟩ := G1 L (eo.symm.trans ho)
          subst ez
          have ln := ord_len _ _ _ _ (eo.symm.trans ho)
          refine rt_ret ⟨fun L' hL' => ?_, fun z => (by cases z), FC2.trans G4⟩
          cases hL'
          refine ⟨by rw [ln], by omega, fun j hj => ?_⟩
          have := g2 j (by omega)
          rw [Nat.zero_add] at this
          exact this
      · have eo : ordL B i = none := by unfold ordL; rw [if_neg d]
        rw [if_neg d]
        exact rt_ret ⟨fun L hL => (by rw [eo] at hL; cases hL), fun _ => rfl, FrC.refl P1⟩
    refine rt_bind (rt_mono key (fun z C2 H => ?_))
    obtain ⟨G1, G2, G3⟩ := H
    have FF := F'.trans G3
    have P2 := G3.1
    dsimp only
    cases ho : ordL B i with
    | none =>
      have ez := G2 ho
      subst ez
      dsimp only
      by_cases b1 : b = -1
      · rw [if_neg (fun z => z b1), if_pos b1]
        exact rt_ret ⟨rfl, FF⟩
      · rw [if_pos b1, if_neg b1]
        by_cases b0 : b < 0
        · rw [if_pos b0]
          exact rt_ret ⟨rfl, FF⟩
        · have : (-1 : Int32) ≤ b := by
            obtain ⟨k, hk, rfl⟩ := (i_cs b).resolve_left b0
            rw [Int32.le_iff_toInt_le, nI_toInt hk]
            have : (-1 : Int32).toInt = -1 := by decide
            omega
          rw [if_neg b0, if_pos this]
          exact rt_ret ⟨rfl, FF⟩
    | some L =>
      obtain ⟨ez, l40, g⟩ := G1 L ho
      subst ez
      dsimp only
      by_cases b1 : b = -1
      · rw [if_neg (fun z => z b1), if_pos b1]
        exact rt_ret ⟨rfl, FF⟩
      · rw [if_pos b1, if_neg b1]
        rcases ix_c (N := L.length) (by omega) b with ⟨nb, eb⟩ | ⟨j, hj, rfl, eb⟩
        · rw [eb]
          by_cases b0 : b < 0
          · rw [if_pos b0]
            exact rt_ret ⟨rfl, FF⟩
          · rw [if_neg b0, if_pos (nb.le (by omega) b0)]
            exact rt_ret ⟨rfl, FF⟩
        · rw [eb]
          have j40 : j < 40 := by omega
          rw [if_neg (by rw [x_lt0 (by omega)]; exact id), if_neg (by rw [x_le (by omega) (by omega)]; omega), bd1 (w_0_15 P2), if_pos k_108, l_108, if_pos (by rw [x_ofNat, x_lt (by omega) (by omega)]; exact j40), bd1 (w_0_15 P2), if_pos k_108, l_108, if_pos ((x_in (by omega)).mpr j40), x_cl (by omega), g j hj]
          exact rt_ret ⟨rfl, FF⟩
end
