/-! Planner.decide (class). -/
def lstR (rsn : Nat) : Nat := if 4 ≤ rsn then 3 else if 2 ≤ rsn then 2 else 1
def sStg (S : Scr) (t : Stm) (y : (Nat × Nat) × Nat) (rsn : Nat) : Nat × Nat := if rsn = 0 then (0, 0) else qo (stF S t y) (4 - lstR rsn) (lstR rsn) (0, 0)
/-- stage and what it holds -/
def sPl (S : Scr) (t : Stm) (path : Nat) (T : Tab) : Nat × Nat := sStg S t (sPm S t path T) (sRsn S t path)
theorem sMg_le {S : Scr} {t : Stm} {path : Nat} {T : Tab} : ∀ m o (y : (Nat × Nat) × Nat), y.1.1 ≤ 30 * o → y.1.2 ≤ 30 * o → y.2 ≤ o → (qo (sMg1 S t path T) m o y).1.1 ≤ 30 * (o + m) ∧ (qo (sMg1 S t path T) m o y).1.2 ≤ 30 * (o + m) ∧ (qo (sMg1 S t path T) m o y).2 ≤ o + m := by
  intro m
  induction m with
  | zero => intro o y h1 h2 h3; exact ⟨h1, h2, h3⟩
  | succ m ih =>
    intro o y h1 h2 h3
    have lz := sMs_le (g := mgG t T (othN S o (tOth t))) (ok := okC S path (rgX S (some t) path (some o)) T) (rk := sRk S path T) 30 none y.1
    have ez : sMs (mgG t T (othN S o (tOth t))) (okC S path (rgX S (some t) path (some o)) T) (sRk S path T) 30 none y.1 = (sMg1 S t path T o y).1 := rfl
    rw [ez] at lz
    have l2 : (sMg1 S t path T o y).2 ≤ y.2 + 1 := by
      unfold sMg1
      simp only
      split <;> omega
    have := ih (o + 1) (sMg1 S t path T o y) (by omega) (by omega) (by omega)
    have ew : qo (sMg1 S t path T) (m + 1) o y = qo (sMg1 S t path T) m (o + 1) (sMg1 S t path T o y) := rfl
    rw [ew]
    omega
theorem sPm_le {S : Scr} {t : Stm} {path : Nat} {T : Tab} (hO : ScrOK S) : (sPm S t path T).1.1 ≤ 300 ∧ (sPm S t path T).1.2 ≤ 300 ∧ (sPm S t path T).2 ≤ 10 := by
  have l10 := hO.2.2.2.2.2.1
  unfold sPm
  split
  · have := sMg_le (S := S) (t := t) (path := path) (T := T) (sOth S).length 0 ((0, 0), 0) (Nat.le_refl _) (Nat.le_refl _) (Nat.le_refl _)
    unfold sMeasM
    omega
  · have := sMs_le (g := fun p => sHolds S T (some p) t) (ok := okC S path (rgX S (some t) path none) T) (rk := sRk S path T) 30 none (0, 0)
    unfold sMeas
    simp only at this ⊢
    omega
theorem c61_fin {n : Nat} {C C1 : AmC} {s st r : Nat} {S : Scr} {t : Stm} {T : Tab} {y : (Nat × Nat) × Nat} (hK : PnK C s st r S t T) (K1 : PnK C1 s st r S t T) (F1 : Fr PnX C C1) (hy : PlV C1 y) (hn : 20 ≤ n) : ∀ (v w u : Int32) (rsn : Nat), u = nI rsn → rsn ≤ 7 → Rt (if ¬ cI (uI (uI (uI (uI (uI C1 102 4 v) 102 4 w) 102 4 u) 102 5 (0 : Int32)) 102 6 (0 : Int32)) 102 4 = 0 then (if cI (uI (uI (uI (uI (uI C1 102 4 v) 102 4 w) 102 4 u) 102 5 (0 : Int32)) 102 6 (0 : Int32)) 102 4 < (4 : Int32) then (if cI (uI (uI (uI (uI (uI C1 102 4 v) 102 4 w) 102 4 u) 102 5 (0 : Int32)) 102 6 (0 : Int32)) 102 4 < (2 : Int32) then (lp_61_85 n 102 s st (1 : Int32) (uI (uI (uI (uI (uI C1 102 4 v) 102 4 w) 102 4 u) 102 5 (0 : Int32)) 102 6 (0 : Int32))).bind (fun q => match q with | (_, C31) => some ((), C31)) else (lp_61_85 n 102 s st (2 : Int32) (uI (uI (uI (uI (uI C1 102 4 v) 102 4 w) 102 4 u) 102 5 (0 : Int32)) 102 6 (0 : Int32))).bind (fun q => match q with | (_, C31) => some ((), C31))) else (lp_61_85 n 102 s st (3 : Int32) (uI (uI (uI (uI (uI C1 102 4 v) 102 4 w) 102 4 u) 102 5 (0 : Int32)) 102 6 (0 : Int32))).bind (fun q => match q with | (_, C31) => some ((), C31))) else some ((), uI (uI (uI (uI (uI C1 102 4 v) 102 4 w) 102 4 u) 102 5 (0 : Int32)) 102 6 (0 : Int32))) (fun _ C' => PlV C' y ∧ cI C' 102 4 = nI rsn ∧ cI C' 102 5 = nI (sStg S t y rsn).1 ∧ cI C' 102 6 = nI (sStg S t y rsn).2 ∧ Fr PnX C C') := by
  intro v w u rsn hu hr
  have F2 : Fr PnX C1 (uI (uI (uI (uI (uI C1 102 4 v) 102 4 w) 102 4 u) 102 5 (0 : Int32)) 102 6 (0 : Int32)) := (((((Fr.refl PnX C1).uI (Or.inl rfl)).uI (Or.inl rfl)).uI (Or.inl rfl)).uI (Or.inl rfl)).uI (Or.inl rfl)
  have v4 : cI (uI (uI (uI (uI (uI C1 102 4 v) 102 4 w) 102 4 u) 102 5 (0 : Int32)) 102 6 (0 : Int32)) 102 4 = nI rsn := by
    rw [r_I, if_neg (by omega), r_I, if_neg (by omega), r_I, if_pos ⟨rfl, rfl⟩, hu]
  have v5 : cI (uI (uI (uI (uI (uI C1 102 4 v) 102 4 w) 102 4 u) 102 5 (0 : Int32)) 102 6 (0 : Int32)) 102 5 = nI 0 := by
    rw [r_I, if_neg (by omega), r_I, if_pos ⟨rfl, rfl⟩]; rfl
  have v6 : cI (uI (uI (uI (uI (uI C1 102 4 v) 102 4 w) 102 4 u) 102 5 (0 : Int32)) 102 6 (0 : Int32)) 102 6 = nI 0 := by
    rw [r_I, if_pos ⟨rfl, rfl⟩]; rfl
  have lo : ∀ j, j < 4 → cI (uI (uI (uI (uI (uI C1 102 4 v) 102 4 w) 102 4 u) 102 5 (0 : Int32)) 102 6 (0 : Int32)) 102 j = cI C1 102 j := fun j hj => by
    rw [r_I, if_neg (by omega), r_I, if_neg (by omega), r_I, if_neg (by omega), r_I, if_neg (by omega), r_I, if_neg (by omega)]
  generalize uI (uI (uI (uI (uI C1 102 4 v) 102 4 w) 102 4 u) 102 5 (0 : Int32)) 102 6 (0 : Int32) = C2 at F2 v4 v5 v6 lo
  have V2 : PlV C2 y := by
    obtain ⟨a1, a2, a3, a4⟩ := hy
    exact ⟨by rw [lo 1 (by omega)]; exact a1, by rw [lo 2 (by omega)]; exact a2, by rw [lo 3 (by omega)]; exact a3, a4⟩
  have K2 := K1.fr F2
  obtain ⟨hP, g2, g3, g4, g5, g6, g7, g8, g9, g10⟩ := K2
  have run : ∀ k, k = lstR rsn → ¬ rsn = 0 → Rt ((lp_61_85 n 102 s st (nI k) C2).bind (fun q => match q with | (_, C31) => some ((), C31))) (fun _ C' => PlV C' y ∧ cI C' 102 4 = nI rsn ∧ cI C' 102 5 = nI (sStg S t y rsn).1 ∧ cI C' 102 6 = nI (sStg S t y rsn).2 ∧ Fr PnX C C') := by
    intro k hk h0
    have k13 : 1 ≤ k ∧ k ≤ 3 := by
      rw [hk]
      unfold lstR
      split
      · omega
      · split <;> omega
    have L := c61_lp (y := y) g2 g3 g5 g7 (4 - k) k n C2 (0, 0) (by omega) (by omega) (by omega) hP g4 g6 V2 v5 v6 (by simp) (by simp)
    have es : sStg S t y rsn = qo (stF S t y) (4 - k) k (0, 0) := by rw [hk]; unfold sStg; rw [if_neg h0]
    rw [es]
    refine rt_bind (rt_mono L (fun z C3 H => rt_ret ⟨?_, ?_, H.1, H.2.1, F1.trans (F2.trans H.2.2.2)⟩))
    · obtain ⟨a1, a2, a3, a4⟩ := V2
      exact ⟨by rw [H.2.2.1 1 (by omega)]; exact a1, by rw [H.2.2.1 2 (by omega)]; exact a2, by rw [H.2.2.1 3 (by omega)]; exact a3, a4⟩
    · rw [H.2.2.1 4 (by omega)]; exact v4
  rw [v4]
  by_cases c0 : rsn = 0
  · have q0 : (nI rsn = 0) = True := by rw [c0]; decide
    simp only [↓reduceIte, q0, not_true, if_false]
    refine rt_ret ⟨V2, v4, ?_, ?_, F1.trans F2⟩
    · rw [v5]; simp [sStg, c0]
    · rw [v6]; simp [sStg, c0]
  · have q0 : ¬ nI rsn = 0 := by rw [x_eq0 (by omega)]; exact c0
    by_cases c4 : 4 ≤ rsn
    · have q4 : ¬ nI rsn < (4 : Int32) := by rw [n_4, x_lt (by omega) (by omega)]; omega
      simp only [↓reduceIte, q0, q4, not_false_iff, if_true, if_false]
      exact run 3 (by simp [lstR, c4]) c0
    · have q4 : nI rsn < (4 : Int32) := by rw [n_4, x_lt (by omega) (by omega)]; omega
      by_cases c2 : 2 ≤ rsn
      · have q2 : ¬ nI rsn < (2 : Int32) := by rw [n_2, x_lt (by omega) (by omega)]; omega
        simp only [↓reduceIte, q0, q4, q2, not_false_iff, if_true, if_false]
        exact run 2 (by simp [lstR, c4, c2]) c0
      · have q2 : nI rsn < (2 : Int32) := by rw [n_2, x_lt (by omega) (by omega)]; omega
        simp only [↓reduceIte, q0, q4, q2, not_false_iff, if_true]
        exact run 1 (by simp [lstR, c4, c2]) c0
theorem c61 {n : Nat} {C : AmC} {s st r path : Nat} {S : Scr} {t : Stm} {T : Tab} (hpa : PathOK S path) (hK : PnK C s st r S t T) (hn : 1500 ≤ n) : Rt (f_61 n 102 s st (nI path) r C) (fun _ C' => PlV C' (sPm S t path T) ∧ cI C' 102 4 = nI (sRsn S t path) ∧ cI C' 102 5 = nI (sPl S t path T).1 ∧ cI C' 102 6 = nI (sPl S t path T).2 ∧ Fr PnX C C') := by
  have hK0 := hK
  obtain ⟨hP, g2, g3, g4, g5, g6, g7, g8, g9, g10⟩ := hK
  have kt := st_of hP g3
  have st8 := stm_lt g3
  have n01 : ¬ (1 : Int32) = 0 := by decide
  obtain ⟨pl1, pl2, pl3⟩ := sPm_le (S := S) (t := t) (path := path) (T := T) g5
  have F0 : Fr PnX C (uI (uI (uI C 102 1 (0 : Int32)) 102 2 (0 : Int32)) 102 3 (0 : Int32)) := (((Fr.refl PnX C).uI (Or.inl rfl)).uI (Or.inl rfl)).uI (Or.inl rfl)
  have K0 := hK0.fr F0
  have z1 : cI (uI (uI (uI C 102 1 (0 : Int32)) 102 2 (0 : Int32)) 102 3 (0 : Int32)) 102 1 = 0 := by rw [r_I, if_neg (by omega), r_I, if_neg (by omega), r_I, if_pos ⟨rfl, rfl⟩]
  have z2 : cI (uI (uI (uI C 102 1 (0 : Int32)) 102 2 (0 : Int32)) 102 3 (0 : Int32)) 102 2 = 0 := by rw [r_I, if_neg (by omega), r_I, if_pos ⟨rfl, rfl⟩]
  have z3 : cI (uI (uI (uI C 102 1 (0 : Int32)) 102 2 (0 : Int32)) 102 3 (0 : Int32)) 102 3 = 0 := by rw [r_I, if_pos ⟨rfl, rfl⟩]
  unfold f_61
  generalize uI (uI (uI C 102 1 (0 : Int32)) 102 2 (0 : Int32)) 102 3 (0 : Int32) = C0 at F0 K0 z1 z2 z3
  by_cases c3 : tKd t = 3
  · have e0 : ¬ cI C0 st 0 = 0 := by rw [K0.2.2.2.2.2.1.1, if_pos c3]; decide
    simp only [↓reduceIte, k_102, kt.1, if_true, e0, if_false]
    refine rt_bind (rt_mono (c63 (n := n) hpa c3 K0 z1 z2 z3 (by omega)) (fun _ C1 H => ?_))
    have ep : sPm S t path T = sMeasM S t path T := by simp [sPm, c3]
    have F1 : Fr PnX C C1 := F0.trans H.2.2.2
    have K1 := hK0.fr F1
    have V1 : PlV C1 (sPm S t path T) := ⟨by rw [ep]; exact H.1, by rw [ep]; exact H.2.1, by rw [ep]; exact H.2.2.1, pl1, pl2, pl3⟩
    have kt1 := st_of K1.1 g3
    have ks1 := sc_of K1.1 g2
    have W65 := c65 (n := n) (path := path) ks1 K1.2.2.2.1 g5 hpa kt1 K1.2.2.2.2.2.1 g7
    have KF : ∀ C', Fr PnX C1 C' → f_67 n s st C' = some (if sTstAsk t = true then 1 else 0, C') ∧ f_68 n s st C' = some (if sMkAsk 4 t = true then 1 else 0, C') := by
      intro C' F'
      have K' := K1.fr F'
      exact ⟨c67 (sc_of K'.1 g2) (st_of K'.1 g3) K'.2.2.2.2.2.1 g5.2.1 g7 (by omega), c68 (sc_of K'.1 g2) (st_of K'.1 g3) K'.2.2.2.2.2.1 g5.2.1 g7 (by omega)⟩
    have W67 : ∀ v {β : Type} (k : Int32 × AmC → Option β), (f_67 n s st (uI C1 102 4 v)).bind k = k (if sTstAsk t = true then 1 else 0, uI C1 102 4 v) := fun v _ k => by
      rw [(KF _ ((Fr.refl PnX C1).uI (Or.inl rfl))).1]; rfl
    have W68 : ∀ v w {β : Type} (k : Int32 × AmC → Option β), (f_68 n s st (uI (uI C1 102 4 v) 102 4 w)).bind k = k (if sMkAsk 4 t = true then 1 else 0, uI (uI C1 102 4 v) 102 4 w) := fun v w _ k => by
      rw [(KF _ (((Fr.refl PnX C1).uI (Or.inl rfl)).uI (Or.inl rfl))).2]; rfl
    have FN := c61_fin (n := n) hK0 K1 F1 V1 (by omega)
    unfold sPl
    have er : sRsn S t path = (if sSelf S t path = true then 1 else 0) + (if sTstAsk t = true then 2 else 0) + (if sMkAsk 4 t = true then 4 else 0) := rfl
    rw [er]
    generalize sSelf S t path = A at W65
    generalize sTstAsk t = B at W67
    generalize sMkAsk 4 t = D at W68
    clear KF
    cases A <;> cases B <;> cases D <;> simp only [↓reduceIte, Bool.false_eq_true, if_true, if_false] at W65 W67 W68 <;> simp only [↓reduceIte, ↓bd1 W65, ↓W67, ↓W68, if_true, if_false, n01, Bool.false_eq_true]
    · exact FN _ _ _ 0 (by rw [r_I, if_pos ⟨rfl, rfl⟩, r_I, if_pos ⟨rfl, rfl⟩]; rfl) (by omega)
    · exact FN _ _ _ 4 (by rw [r_I, if_pos ⟨rfl, rfl⟩, r_I, if_pos ⟨rfl, rfl⟩]; rfl) (by omega)
    · exact FN _ _ _ 2 (by rw [r_I, if_pos ⟨rfl, rfl⟩, r_I, if_pos ⟨rfl, rfl⟩]; rfl) (by omega)
    · exact FN _ _ _ 6 (by rw [r_I, if_pos ⟨rfl, rfl⟩, r_I, if_pos ⟨rfl, rfl⟩]; rfl) (by omega)
    · exact FN _ _ _ 1 (by rw [r_I, if_pos ⟨rfl, rfl⟩, r_I, if_pos ⟨rfl, rfl⟩]; rfl) (by omega)
    · exact FN _ _ _ 5 (by rw [r_I, if_pos ⟨rfl, rfl⟩, r_I, if_pos ⟨rfl, rfl⟩]; rfl) (by omega)
    · exact FN _ _ _ 3 (by rw [r_I, if_pos ⟨rfl, rfl⟩, r_I, if_pos ⟨rfl, rfl⟩]; rfl) (by omega)
    · exact FN _ _ _ 7 (by rw [r_I, if_pos ⟨rfl, rfl⟩, r_I, if_pos ⟨rfl, rfl⟩]; rfl) (by omega)
  · have e0 : cI C0 st 0 = 0 := by rw [K0.2.2.2.2.2.1.1, if_neg c3]
    simp only [↓reduceIte, k_102, kt.1, if_true, e0]
    refine rt_bind (rt_mono (c62 (n := n) hpa c3 K0 z1 z2 (by omega)) (fun _ C1 H => ?_))
    have ep : sPm S t path T = (sMeas S t path T, 0) := by simp [sPm, c3]
    have F1 : Fr PnX C C1 := F0.trans H.2.2.2
    have K1 := hK0.fr F1
    have V1 : PlV C1 (sPm S t path T) := ⟨by rw [ep]; exact H.1, by rw [ep]; exact H.2.1, by rw [ep, H.2.2.1, z3]; rfl, pl1, pl2, pl3⟩
    have kt1 := st_of K1.1 g3
    have ks1 := sc_of K1.1 g2
    have W65 := c65 (n := n) (path := path) ks1 K1.2.2.2.1 g5 hpa kt1 K1.2.2.2.2.2.1 g7
    have KF : ∀ C', Fr PnX C1 C' → f_67 n s st C' = some (if sTstAsk t = true then 1 else 0, C') ∧ f_68 n s st C' = some (if sMkAsk 4 t = true then 1 else 0, C') := by
      intro C' F'
      have K' := K1.fr F'
      exact ⟨c67 (sc_of K'.1 g2) (st_of K'.1 g3) K'.2.2.2.2.2.1 g5.2.1 g7 (by omega), c68 (sc_of K'.1 g2) (st_of K'.1 g3) K'.2.2.2.2.2.1 g5.2.1 g7 (by omega)⟩
    have W67 : ∀ v {β : Type} (k : Int32 × AmC → Option β), (f_67 n s st (uI C1 102 4 v)).bind k = k (if sTstAsk t = true then 1 else 0, uI C1 102 4 v) := fun v _ k => by
      rw [(KF _ ((Fr.refl PnX C1).uI (Or.inl rfl))).1]; rfl
    have W68 : ∀ v w {β : Type} (k : Int32 × AmC → Option β), (f_68 n s st (uI (uI C1 102 4 v) 102 4 w)).bind k = k (if sMkAsk 4 t = true then 1 else 0, uI (uI C1 102 4 v) 102 4 w) := fun v w _ k => by
      rw [(KF _ (((Fr.refl PnX C1).uI (Or.inl rfl)).uI (Or.inl rfl))).2]; rfl
    have FN := c61_fin (n := n) hK0 K1 F1 V1 (by omega)
    unfold sPl
    have er : sRsn S t path = (if sSelf S t path = true then 1 else 0) + (if sTstAsk t = true then 2 else 0) + (if sMkAsk 4 t = true then 4 else 0) := rfl
    rw [er]
    generalize sSelf S t path = A at W65
    generalize sTstAsk t = B at W67
    generalize sMkAsk 4 t = D at W68
    clear KF
    cases A <;> cases B <;> cases D <;> simp only [↓reduceIte, Bool.false_eq_true, if_true, if_false] at W65 W67 W68 <;> simp only [↓reduceIte, ↓bd1 W65, ↓W67, ↓W68, if_true, if_false, n01, Bool.false_eq_true]
    · exact FN _ _ _ 0 (by rw [r_I, if_pos ⟨rfl, rfl⟩, r_I, if_pos ⟨rfl, rfl⟩]; rfl) (by omega)
    · exact FN _ _ _ 4 (by rw [r_I, if_pos ⟨rfl, rfl⟩, r_I, if_pos ⟨rfl, rfl⟩]; rfl) (by omega)
    · exact FN _ _ _ 2 (by rw [r_I, if_pos ⟨rfl, rfl⟩, r_I, if_pos ⟨rfl, rfl⟩]; rfl) (by omega)
    · exact FN _ _ _ 6 (by rw [r_I, if_pos ⟨rfl, rfl⟩, r_I, if_pos ⟨rfl, rfl⟩]; rfl) (by omega)
    · exact FN _ _ _ 1 (by rw [r_I, if_pos ⟨rfl, rfl⟩, r_I, if_pos ⟨rfl, rfl⟩]; rfl) (by omega)
    · exact FN _ _ _ 5 (by rw [r_I, if_pos ⟨rfl, rfl⟩, r_I, if_pos ⟨rfl, rfl⟩]; rfl) (by omega)
    · exact FN _ _ _ 3 (by rw [r_I, if_pos ⟨rfl, rfl⟩, r_I, if_pos ⟨rfl, rfl⟩]; rfl) (by omega)
    · exact FN _ _ _ 7 (by rw [r_I, if_pos ⟨rfl, rfl⟩, r_I, if_pos ⟨rfl, rfl⟩]; rfl) (by omega)
