/-! How a run ends, but for a clash; places that are written twice. -/
def EC (r : RS) : Prop := ¬ rE r = 5 ∧ ∀ p, rC r p ≤ (rL r).length
theorem EC.rEnd {r : RS} {e x y : Int32} (h : EC r) (he : ¬ e = 5) : EC (rEnd r e x y) := ⟨he, h.2⟩
theorem EC.write {t : Stm} {pl : Option Nat} {mk : Nat → Int32} {r : RS} (h : EC r) : EC (sWrite t pl mk r) := by
  unfold sWrite
  split
  · exact h.rEnd (by decide)
  · split
    · exact h.rEnd (by decide)
    · refine ⟨h.1, fun p => ?_⟩
      have := h.2 p
      show va_up (rC r) _ _ p ≤ (rL r ++ _).length
      rename_i q _ _
      have hq := h.2 q
      rw [List.length_append]
      unfold va_up
      split
      · simp; omega
      · simp; omega
theorem EC.mkW {S : Scr} {t : Stm} {pl o : Option Nat} {r : RS} (h : EC r) : EC (sMkW S t pl o r) := by
  unfold sMkW
  split
  · exact h.rEnd (by decide)
  · exact h.write
theorem EC.meet {S : Scr} {t : Stm} {stage : Nat} {pl o : Option Nat} {x : RS × List Itm} (h : EC x.1) : EC (sMeet S t stage pl o x).1 := by
  unfold sMeet
  split
  · exact h
  · split
    · exact h
    · split
      · exact h.mkW
      · split
        · split
          · exact h.rEnd (by decide)
          · exact h
        · exact h
theorem EC.read {S : Scr} {t : Stm} {stage path : Nat} : ∀ n last x, EC x.1 → EC (sRead S t stage path n last x).1 := by
  intro n
  induction n with
  | zero => intro last x h; exact h
  | succ n ih =>
    intro last x h
    unfold sRead
    split
    · split
      · exact h
      · exact ih _ _ h.meet
    · exact h
theorem EC.readO {S : Scr} {t : Stm} {stage path o : Nat} : ∀ n last b x, EC x.1 → EC (sReadO S t stage path o n last b x).1.1 := by
  intro n
  induction n with
  | zero => intro last b x h; exact h
  | succ n ih =>
    intro last b x h
    unfold sReadO
    split
    · split
      · exact h
      · split
        · exact ih _ _ _ h.meet
        · exact ih _ _ _ h
    · exact h
theorem EC.for {S : Scr} {t : Stm} {stage path o : Nat} {x : RS × List Itm} (h : EC x.1) : EC (sFor S t stage path o x).1 := by
  unfold sFor
  split
  · exact (EC.readO _ _ _ _ h).meet
  · exact EC.readO _ _ _ _ h
theorem EC.fors {S : Scr} {t : Stm} {stage path : Nat} : ∀ k o x, EC x.1 → EC (sFors S t stage path k o x).1 := by
  intro k
  induction k with
  | zero => intro o x h; exact h
  | succ k ih =>
    intro o x h
    unfold sFors
    split
    · exact ih _ _ h.for
    · exact h
theorem EC.item {S : Scr} {t : Stm} {stage : Nat} {q : Itm} {r : RS} (h : EC r) : EC (sItem S t stage r q) := by
  unfold sItem
  split
  · split
    · split
      · exact h
      · split
        · exact h.write
        · exact h.mkW
    · exact h
  · exact h
theorem EC.fold {S : Scr} {t : Stm} {stage : Nat} : ∀ (l : List Itm) r, EC r → EC (l.foldl (sItem S t stage) r) := by
  intro l
  induction l with
  | nil => intro r h; exact h
  | cons q l ih => intro r h; exact ih _ h.item
theorem EC.run {S : Scr} {t : Stm} {stage path : Nat} {T : Tab} : EC (sRun S t stage path T) := by
  have h0 : EC (sRun0 T) := ⟨show ¬ (0 : Int32) = 5 by decide, fun p => Nat.le_refl _⟩
  unfold sRun
  refine EC.fold _ _ ?_
  unfold sReads
  split
  · exact h0.rEnd (by decide)
  · split
    · exact EC.fors _ _ _ h0
    · exact EC.read _ _ _ h0
theorem sEnd_T {S : Scr} {r : RS} : rT (sEnd S r) = rT r ∧ rC (sEnd S r) = rC r ∧ rL (sEnd S r) = rL r := by
  unfold sEnd
  split
  · split
    · exact ⟨rfl, rfl, rfl⟩
    · exact ⟨rfl, rfl, rfl⟩
  · exact ⟨rfl, rfl, rfl⟩
theorem sEnd_E {S : Scr} {r : RS} (h : ¬ rE r = 5) : (if ¬ rE (sEnd S r) = (5 : Int32) then rE (sEnd S r) else 0) = rE r := by
  unfold sEnd
  by_cases e : rE r = 0
  · rw [if_pos e]
    split
    · rw [if_neg (by simp [rEnd, rE]), e]
    · rw [if_pos h]
  · rw [if_neg e, if_pos h]
theorem c46 {n a stage : Nat} {C : AmC} {S : Scr} {r : RS} (ha : isK a 3 = true) (h : ¬ rE r = 5) (hF : PsF C a S stage (sEnd S r)) : f_46 n a C = some (rE r, C) := by
  have e := sEnd_E (S := S) h
  unfold f_46
  rw [if_pos ha, hF.2.2.2.1]
  by_cases d : rE (sEnd S r) = 5
  · rw [if_neg (fun z => z d)] at e ⊢
    rw [← e]
  · rw [if_pos d] at e ⊢
    rw [e]
def sTwi (r : RS) : Nat := qo (fun p a => if 2 ≤ rC r p then a + 1 else a) 30 0 0
theorem c47_lp {a stage : Nat} {C : AmC} {S : Scr} {r : RS} (hP : PInv C) (ha : a ∈ pasL) (hF : PsF C a S stage r) (hc : ∀ p, rC r p ≤ 1000) : ∀ m j n x, j + m = 30 → m < n → lp_47_4 n a (nI x) (nI j) C = some (nI (qo (fun p a => if 2 ≤ rC r p then a + 1 else a) m j x), C) := by
  have kp := pa_of hP ha
  intro m
  induction m with
  | zero =>
    intro j n x h1 hn
    obtain ⟨n, rfl⟩ : ∃ m, n = m + 1 := ⟨n - 1, by omega⟩
    have b1 : 30 ≤ j := by omega
    simp (disch := omega) only [↓reduceIte, lp_47_4, n_30, x_le, b1, if_true, qo]
  | succ m ih =>
    intro j n x h1 hn
    obtain ⟨n, rfl⟩ : ∃ m, n = m + 1 := ⟨n - 1, by omega⟩
    have b1 : ¬ 30 ≤ j := by omega
    have j30 : j < 30 := by omega
    have e := hF.2.2.2.2.2.2 j j30
    have c := hc j
    rw [qo]
    by_cases d : 2 ≤ rC r j
    · have I := ih (j + 1) n (x + 1) (by omega) (by omega)
      have d' : ¬ rC r j < 2 := by omega
      simp (disch := omega) only [↓reduceIte, lp_47_4, n_30, n_2, x_le, x_lt, b1, if_true, if_false, kp.k, ↓bd1 kp.p5, kp.k7, kp.l7, x_in, x_cl, j30, e, d, d', x_a1]
      exact I
    · have I := ih (j + 1) n x (by omega) (by omega)
      have d' : rC r j < 2 := by omega
      simp (disch := omega) only [↓reduceIte, lp_47_4, n_30, n_2, x_le, x_lt, b1, if_true, if_false, kp.k, ↓bd1 kp.p5, kp.k7, kp.l7, x_in, x_cl, j30, e, d, d', x_a1]
      exact I
theorem c47 {n a stage : Nat} {C : AmC} {S : Scr} {r : RS} (hP : PInv C) (ha : a ∈ pasL) (hF : PsF C a S stage r) (hc : ∀ p, rC r p ≤ 1000) (hn : 31 ≤ n) : f_47 n a C = some (nI (sTwi r), C) := by
  have L := c47_lp hP ha hF hc 30 0 n 0 rfl (by omega)
  rw [x_0] at L
  unfold f_47
  rw [bd1 L]
  rfl
theorem m256_lp {C : AmC} {S : Scr} {t : Stm} {r : RS} (hP : PInv C) (hF : MrF C S t r) (hc : ∀ p, rC r p ≤ 1000) : ∀ m j n x, j + m = 30 → m < n → lp_256_4 n 145 (nI x) (nI j) C = some (nI (qo (fun p a => if 2 ≤ rC r p then a + 1 else a) m j x), C) := by
  intro m
  induction m with
  | zero =>
    intro j n x h1 hn
    obtain ⟨n, rfl⟩ : ∃ m, n = m + 1 := ⟨n - 1, by omega⟩
    have b1 : 30 ≤ j := by omega
    simp (disch := omega) only [↓reduceIte, lp_256_4, n_30, x_le, b1, if_true, qo]
  | succ m ih =>
    intro j n x h1 hn
    obtain ⟨n, rfl⟩ : ∃ m, n = m + 1 := ⟨n - 1, by omega⟩
    have b1 : ¬ 30 ≤ j := by omega
    have j30 : j < 30 := by omega
    have e := hF.2.2.2.2.2.2.1 j j30
    have c := hc j
    rw [qo]
    by_cases d : 2 ≤ rC r j
    · have I := ih (j + 1) n (x + 1) (by omega) (by omega)
      have d' : ¬ rC r j ≤ 1 := by omega
      have d2 : 1 < rC r j := by omega
      simp (disch := omega) only [↓reduceIte, lp_256_4, n_30, x_le, x_le1, x_1lt, b1, if_true, if_false, Option.bind_some, k_145, ↓bd1 (w_145_74 hP), k_186, l_186, x_in, x_cl, j30, e, d, d', d2, x_a1]
      exact I
    · have I := ih (j + 1) n x (by omega) (by omega)
      have d' : rC r j ≤ 1 := by omega
      have d2 : ¬ 1 < rC r j := by omega
      simp (disch := omega) only [↓reduceIte, lp_256_4, n_30, x_le, x_le1, x_1lt, b1, if_true, if_false, Option.bind_some, k_145, ↓bd1 (w_145_74 hP), k_186, l_186, x_in, x_cl, j30, e, d, d', d2, x_a1, x_a0]
      exact I
theorem m256 {n : Nat} {C : AmC} {S : Scr} {t : Stm} {r : RS} (hP : PInv C) (hF : MrF C S t r) (hc : ∀ p, rC r p ≤ 1000) (hn : 31 ≤ n) : f_256 n 145 C = some (nI (sTwi r), C) := by
  have L := m256_lp hP hF hc 30 0 n 0 rfl (by omega)
  rw [x_0] at L
  unfold f_256
  rw [bd1 L]
  rfl
theorem m255_lp {a b c : Int32} : ∀ k j n C, j + k = 150 → k < n → PInv C → Rt (lp_255_16 n 145 a b c (nI j) C) (fun z C' => z = (145, a, b, c) ∧ cP C' = cP C ∧ cJ C' = cJ C ∧ (∀ q, ¬ q = 181 → cI C' q = cI C q) ∧ ∀ m, cI C' 181 m = if j ≤ m ∧ m < 150 then cI C 180 m else cI C 181 m) := by
  intro k
  induction k with
  | zero =>
    intro j n C h1 hn hP
    obtain ⟨n, rfl⟩ : ∃ m, n = m + 1 := ⟨n - 1, by omega⟩
    have b1 : 150 ≤ j := by omega
    simp (disch := omega) only [↓reduceIte, lp_255_16, n_150, x_le, b1, if_true]
    exact rt_ret ⟨rfl, rfl, rfl, fun _ _ => rfl, fun m => by rw [if_neg (by omega)]⟩
  | succ k ih =>
    intro j n C h1 hn hP
    obtain ⟨n, rfl⟩ : ∃ m, n = m + 1 := ⟨n - 1, by omega⟩
    have b1 : ¬ 150 ≤ j := by omega
    have j5 : j < 150 := by omega
    have I := ih (j + 1) n (uI C 181 j (cI C 180 j)) (by omega) (by omega) (hP.of rfl)
    simp (disch := omega) only [↓reduceIte, lp_255_16, n_150, x_le, b1, if_true, if_false, Option.bind_some, k_145, ↓bd1 (w_145_58 hP), k_181, l_181, ↓bd1 (w_145_57 hP), k_180, l_180, x_in, x_cl, j5, x_a1]
    refine rt_mono I (fun _ C' H => ⟨H.1, H.2.1, H.2.2.1, fun q hq => by rw [H.2.2.2.1 q hq, r_In hq], fun m => ?_⟩)
    rw [H.2.2.2.2 m, r_In (show (180 : Nat) ≠ 181 by decide)]
    by_cases e : m = j
    · subst e
      rw [if_neg (by omega), r_I, if_pos ⟨rfl, rfl⟩, if_pos (by omega)]
    · by_cases g : j + 1 ≤ m ∧ m < 150
      · rw [if_pos g, if_pos (by omega)]
      · rw [if_neg g, if_neg (by omega), r_I, if_neg (by omega)]
