/-! along: the rows of a path. -/
def sWlk (ok : Nat → Bool) (rk : Nat → Int) : Nat → Option Int → Option Nat → Option Nat
  | 0, _, b => b
  | k + 1, last, _ => sWlk ok rk k (nxL rk last (sNext ok rk last)) (sNext ok rk last)
def sAlg (B : Big) (p a : Int32) : Int32 ⊕ Nat := match ixO (1 + 2 * (sIdx (bS B)).length) p with
  | none => .inr 0
  | some k => match ixO (sSize (zT (bZ B))) a with
    | none => .inr 0
    | some i => .inl (oI (sWlk (zT (bZ B)).1 (sRk (bS B) k (zT (bZ B))) (i + 1) none none))
theorem okC_all {S : Scr} {path : Nat} {T : Tab} : okC S path (fun _ => true) T = T.1 := by
  funext p
  simp [okC]
theorem okM_all {S : Scr} {path o : Nat} {T : Tab} : (fun p => T.1 p && sRng S none path (some o) T p) = T.1 := by
  funext p
  simp [sRng, rgX]
theorem sSize_lt {T : Tab} : sSize T ≤ 30 := by
  have := qo_le (f := T.1) 30 0 0
  unfold sSize
  omega
section
variable {n : Nat} {C : AmC} {s h : Nat} {B : Big} {S : Scr}
theorem c123_lp (hB : BigOK B) {path i : Nat} (hpa : PathOK (bS B) path) (hi : i < 30) : ∀ m k n C last b, k + m = i + 1 → m + 100 < n → CI C s B → CurC C 104 (bS B) path (fun _ => true) last → (∀ y, last = some y → -12000000000 < y ∧ y < 12000000000) → Rt (lp_123_26 n 0 (nI i) (oI b) (nI k) C) (fun z C' => z = oI (sWlk (zT (bZ B)).1 (sRk (bS B) path (zT (bZ B))) m last b) ∧ FrC C C') := by
  intro m
  induction m with
  | zero =>
    intro k n C last b h1 hn hC hcu hl
    obtain ⟨n, rfl⟩ : ∃ m, n = m + 1 := ⟨n - 1, by omega⟩
    have b1 : i < k := by omega
    simp (disch := omega) only [↓reduceIte, lp_123_26, x_lt, b1, if_true]
    exact rt_ret ⟨rfl, FrC.refl hC.1⟩
  | succ m ih =>
    intro k n C last b h1 hn hC hcu hl
    obtain ⟨n, rfl⟩ : ∃ m, n = m + 1 := ⟨n - 1, by omega⟩
    have b1 : ¬ i < k := by omega
    have hT := hC.2.2.2.2.2.2.2.2.1.1
    have hN := hB.2.2.2.1.1.1
    have w := c5 (n := n) (a := 104) k_104 (rw_of hC.1 (show 83 ∈ rowsL by decide)) hT hB.1 hN hpa hcu hl (by omega)
    rw [okC_all] at w
    simp (disch := omega) only [↓reduceIte, lp_123_26, x_lt, b1, if_false, k_0, if_true, ↓bd1 (w_0_12 hC.1), ↓bd1 (w_0_6 hC.1), k_82, ↓bd1 (w_82_0 hC.1), k_104, ↓bd1 w, x_a1]
    have F := rdC_fr C 104 (bS B) path (zT (bZ B)) (sNext (zT (bZ B)).1 (sRk (bS B) path (zT (bZ B))) last)
    have F' : FrC C (rdC C 104 (bS B) path (zT (bZ B)) (sNext (zT (bZ B)).1 (sRk (bS B) path (zT (bZ B))) last)) := ⟨hC.1.of F.1, fun b z => F.2.1 b (by omega), fun b z => F.2.1 b (by omega), by rw [F.1]⟩
    have I := ih (k + 1) n _ _ (sNext (zT (bZ B)).1 (sRk (bS B) path (zT (bZ B))) last) (by omega) (by omega) (hC.fr hB F') (rdC_cur2 _ hcu) (fun y hy => by
      cases e : sNext (zT (bZ B)).1 (sRk (bS B) path (zT (bZ B))) last with
      | none => rw [e] at hy; exact hl y hy
      | some p =>
        rw [e] at hy
        cases hy
        obtain ⟨p30, tp⟩ := sNext_ok e
        exact sRk_bd hB.1 hN hpa p30 tp)
    exact rt_mono I (fun _ _ H => ⟨H.1, F'.trans H.2⟩)
theorem q123 (hC : CI C s B) (hB : BigOK B) (hn : 200 ≤ n) (p a : Int32) : Rt (f_123 n 0 p a C) (fun z C' => z = sAlg B p a ∧ FrC C C') := by
  have l3 := hB.1.2.2.1
  have s30 := sSize_lt (T := zT (bZ B))
  unfold f_123 sAlg
  rcases ix_c (N := 1 + 2 * (sIdx (bS B)).length) (by omega) p with ⟨np, ep⟩ | ⟨k, hk, rfl, ep⟩
  · rw [ep]
    simp only [↓reduceIte, k_0, if_true, ↓bd1 (c144_f (n := n) hC np)]
    exact rt_ret ⟨rfl, FrC.refl hC.1⟩
  · rw [ep]
    have hk : PathOK (bS B) k := hk
    have w81 := c81 (n := n) (rw_of hC.1 (show 83 ∈ rowsL by decide)) hC.2.2.2.2.2.2.2.2.1.1
    rcases ix_c (N := sSize (zT (bZ B))) (by omega) a with ⟨na, ea⟩ | ⟨i, hi, rfl, ea⟩
    · rw [ea]
      rcases na with na | na
      · simp only [↓reduceIte, k_0, if_true, ↓bd1 (c144_t (n := n) hC hB hk), na]
        exact rt_ret ⟨rfl, FrC.refl hC.1⟩
      · simp only [↓reduceIte, k_0, if_true, if_false, ↓bd1 (c144_t (n := n) hC hB hk), na.1, na.2, ↓bd1 (w_0_6 hC.1), k_82, ↓bd1 (w_82_0 hC.1), k_83, ↓bd1 w81]
        exact rt_ret ⟨rfl, FrC.refl hC.1⟩
    · rw [ea]
      have F := c1_fr C 104 (bS B) k
      have F' : FrC C (c1C C 104 (bS B) k) := ⟨hC.1.of F.1, fun b z => F.2.1 b (by omega), fun b z => F.2.1 b (by omega), by rw [F.1]⟩
      have L := c123_lp (s := s) (i := i) hB hk (by omega) (i + 1) 0 n (c1C C 104 (bS B) k) none none (by omega) (by omega) (hC.fr hB F') (c1_cur C 104 (bS B) k) (fun y hy => by cases hy)
      rw [x_0, oI_n] at L
      simp (disch := omega) only [↓reduceIte, k_0, if_true, if_false, ↓bd1 (c144_t (n := n) hC hB hk), x_lt0, x_lt, hi, ↓bd1 (w_0_6 hC.1), k_82, ↓bd1 (w_82_0 hC.1), k_83, ↓bd1 w81, ↓bd1 (w_0_12 hC.1), ↓bd1 hC.2.2.1, k_104, ↓bd1 (c1 (n := n) (a := 104) hC.1 hC.2.1 hC.2.2.2.2.1 hB.1 hk k_104 (by omega))]
      refine rt_bind (rt_mono L (fun z C' H => ?_))
      exact rt_ret ⟨by rw [H.1], F'.trans H.2⟩
theorem m249_lp {path i : Nat} {T : Tab} (hpa : PathOK S path) (hN : TabN (sCols S) T) (hi : i < 30) : ∀ m k n C last b, k + m = i + 1 → m + 600 < n → MC C h S → TabM 30 (sCols S) C 180 0 T → cI C 145 59 = -1 → cI C 145 60 = nI path → LastM C S path last → Rt (lp_249_36 n 145 (nI i) (oI b) (nI k) C) (fun z C' => z = oI (sWlk T.1 (sRk S path T) m last b) ∧ FrN C C') := by
  intro m
  induction m with
  | zero =>
    intro k n C last b h1 hn hM hT e9 e0 hL
    obtain ⟨n, rfl⟩ : ∃ m, n = m + 1 := ⟨n - 1, by omega⟩
    have b1 : i < k := by omega
    simp (disch := omega) only [↓reduceIte, lp_249_36, x_lt, b1, if_true]
    exact rt_ret ⟨rfl, FrN.refl _⟩
  | succ m ih =>
    intro k n C last b h1 hn hM hT e9 e0 hL
    obtain ⟨n, rfl⟩ : ∃ m, n = m + 1 := ⟨n - 1, by omega⟩
    have b1 : ¬ i < k := by omega
    have w := m205 (n := n) (o := 0) (st := none) hM hT hN hpa e9 (fun z => by obtain ⟨t, e, _⟩ := z; cases e) hL e0 (by omega)
    rw [okM_all, x_0] at w
    have F := FrN.rd C S path T (sNext T.1 (sRk S path T) last)
    simp (disch := omega) only [↓reduceIte, lp_249_36, x_lt, b1, if_false, k_145, if_true, ↓bd1 w, x_a1]
    have I := ih (k + 1) n _ _ (sNext T.1 (sRk S path T) last) (by omega) (by omega) (hM.of F.1 (F.2.2.2 40 (by omega) (by omega)) F.m) (F.tab hT) ((F.2.2.2 59 (by omega) (by omega)).trans e9) ((F.2.2.2 60 (by omega) (by omega)).trans e0) (rdM_last2 hM.2.2.2 hN hpa (fun p z => z) hL)
    exact rt_mono I (fun _ _ H => ⟨H.1, F.trans H.2⟩)
theorem FrO.r {C C1 : AmC} (h : FrO C C1) : FrR C C1 := h.q.r (fun b z => by omega)
theorem q249 (hM : MI C h B) (hB : BigOK B) (hn : 800 ≤ n) (p a : Int32) : Rt (f_249 n 145 p a C) (fun z C' => An C' z (sAlg B p a) ∧ FrR C C') := by
  have l3 := hB.1.2.2.1
  have s30 := sSize_lt (T := zT (bZ B))
  obtain ⟨M0, t0, F0⟩ := hM.t0 hB
  generalize hC0 : uI C 145 5 0 = C0 at M0 t0 F0
  unfold f_249 sAlg
  rw [hC0]
  rcases ix_c (N := 1 + 2 * (sIdx (bS B)).length) (by omega) p with ⟨np, ep⟩ | ⟨k, hk, rfl, ep⟩
  · rw [ep]
    simp only [↓reduceIte, k_145, if_true, ↓bd1 (m248_f (n := n) M0.1 np t0)]
    exact rt_ret (An_f F0)
  · rw [ep]
    have hk : PathOK (bS B) k := hk
    have w44 := m244 (n := n) (f := 0) M0.1.1 (by omega) M0.2.2.2.2.1.1.1 (by omega)
    rw [x_0] at w44
    rcases ix_c (N := sSize (zT (bZ B))) (by omega) a with ⟨na, ea⟩ | ⟨i, hi, rfl, ea⟩
    · rw [ea]
      by_cases a0 : a < 0
      · simp only [↓reduceIte, k_145, if_true, if_false, n10f, ↓bd1 (m248_t (n := n) M0.1 hk t0), a0, ↓bd1 (m162_f (n := n) (w := 1) t0 (by decide)), not_true]
        exact rt_ret (An_f F0)
      · have na := na.le (by omega) a0
        simp only [↓reduceIte, k_145, if_true, if_false, n10f, ↓bd1 (m248_t (n := n) M0.1 hk t0), a0, na, ↓bd1 w44, ↓bd1 (m162_f (n := n) (w := 1) t0 (by decide)), not_true]
        exact rt_ret (An_f F0)
    · rw [ea]
      have R := m225 (n := n) (f := 0) M0.1.1 (by omega) M0.2.2.2.2.1.1.1 M0.2.2.2.2.1.1.2 hB.1.2.1 (by omega)
      rw [x_0] at R
      have ni : ¬ sSize (zT (bZ B)) ≤ i := by omega
      simp (disch := omega) only [↓reduceIte, k_145, if_true, if_false, n10f, ↓bd1 (m248_t (n := n) M0.1 hk t0), x_lt0, x_le, ni, ↓bd1 w44, ↓bd1 (m162_t (n := n) (w := 1) t0), not_false_iff]
      refine rt_bind (rt_mono R (fun _ C1 H => ?_))
      obtain ⟨G1, G2, G3, G4, _⟩ := H
      have F1 : FrR C0 C1 := G1.r (by omega)
      have F2 : FrR C0 (uI C1 145 59 (-1)) := F1.uF (Or.inr (by omega))
      have FB := FrO.beg (uI C1 145 59 (-1)) (nI k)
      have F3 : FrR C0 (uI (uI (uI C1 145 59 (-1)) 145 61 0) 145 60 (nI k)) := F2.trans FB.r
      have w4 : f_204 n 145 (nI k) (uI C1 145 59 (-1)) = some ((), uI (uI (uI C1 145 59 (-1)) 145 61 0) 145 60 (nI k)) := by
        unfold f_204
        simp only [↓reduceIte, k_145, if_true]
      have L := m249_lp (h := h) (path := k) (i := i) (T := zT (bZ B)) hk hB.2.2.2.1.1.1 (by omega) (i + 1) 0 n (uI (uI (uI C1 145 59 (-1)) 145 61 0) 145 60 (nI k)) none none (by omega) (by omega) (M0.frR hB F3).1 (FB.tab (TabM.of G4 (r_In (by decide)))) (by rw [FB.2.2.2 59 (by omega) (by omega), r_I, if_pos ⟨rfl, rfl⟩]) (by rw [r_I, if_pos ⟨rfl, rfl⟩]) (by show cI _ 145 61 = 0; rw [r_I, if_neg (by decide), r_I, if_pos ⟨rfl, rfl⟩])
      rw [x_0, oI_n] at L
      simp only [↓bd1 w4]
      refine rt_bind (rt_mono L (fun z C' H => ?_))
      have F4 := F3.trans H.2.o.r
      have t5 : cI C' 145 5 = 0 := by
        rw [H.2.2.2.2 5 (by omega) (by omega), FB.2.2.2 5 (by omega) (by omega), r_I, if_neg (by omega), G2]
        exact t0
      exact rt_ret ⟨⟨t5, H.1⟩, F0.trans F4⟩
end
