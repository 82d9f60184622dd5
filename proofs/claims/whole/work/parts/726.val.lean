/-! The class reads a value: its loop. -/
section
variable {n s i j N A B V W cols : Nat} {C C' : AmC} {x : Nat → Nat} {oth col : Bool}
/-- atoms were added above A -/
def FrA (s A : Nat) (C C' : AmC) : Prop := Fr (fun b => b = 109 ∨ b = s ∨ (s + 10 ≤ b ∧ b ≤ s + 12)) C C' ∧ (∀ f, f ≠ 11 → cI C' s f = cI C s f) ∧ (∀ k, k < A → cI C' (s + 10) k = cI C (s + 10) k ∧ cI C' (s + 11) k = cI C (s + 11) k ∧ cI C' (s + 12) k = cI C (s + 12) k) ∧ cI C' 109 11 = cI C 109 11 ∧ cI C' 109 12 = cI C 109 12
theorem FrA.trans {C1 C2 : AmC} (h : FrA s A C C1) (g : FrA s A C1 C2) : FrA s A C C2 := ⟨h.1.trans g.1, fun f z => (g.2.1 f z).trans (h.2.1 f z), fun k z => ⟨(g.2.2.1 k z).1.trans (h.2.2.1 k z).1, (g.2.2.1 k z).2.1.trans (h.2.2.1 k z).2.1, (g.2.2.1 k z).2.2.trans (h.2.2.1 k z).2.2⟩, g.2.2.2.1.trans h.2.2.2.1, g.2.2.2.2.trans h.2.2.2.2⟩
theorem FrPa.a (hs : s ∈ scrL) (h : FrPa C C') : FrA s A C C' := by
  have sl := scr_lt hs
  refine ⟨h.1.mono (fun a z => Or.inl z), fun f _ => by rw [h.1.2.1 s (by omega)], fun k _ => ?_, h.2⟩
  rw [h.1.2.1 (s + 10) (by omega), h.1.2.1 (s + 11) (by omega), h.1.2.1 (s + 12) (by omega)]
  exact ⟨rfl, rfl, rfl⟩
theorem c97_fr {a b c : Int32} (hs : s ∈ scrL) (hB : A ≤ B) : FrA s A C (c97C C s B a b c) := by
  have sl := scr_lt hs
  unfold c97C
  refine ⟨((((Fr.refl _ C).uI (by omega)).uI (by omega)).uI (by omega)).uI (by omega), fun f z => ?_, fun k z => ⟨?_, ?_, ?_⟩, ?_, ?_⟩
  · rw [r_I, if_neg (by omega), r_In (by omega), r_In (by omega), r_In (by omega)]
  · rw [r_In (by omega), r_In (by omega), r_In (by omega), r_I, if_neg (by omega)]
  · rw [r_In (by omega), r_In (by omega), r_I, if_neg (by omega), r_In (by omega)]
  · rw [r_In (by omega), r_I, if_neg (by omega), r_In (by omega), r_In (by omega)]
  · rw [r_In (by omega), r_In (by omega), r_In (by omega), r_In (by omega)]
  · rw [r_In (by omega), r_In (by omega), r_In (by omega), r_In (by omega)]
theorem c97_pc {a b c : Int32} (h : Pc C s x N i) : Pc (c97C C s B a b c) s x N i := by
  have sl := scr_lt h.2.1
  refine h.of rfl (fun b z1 z2 => ?_)
  unfold c97C
  rw [r_In (by omega), r_In (by omega), r_In (by omega), r_In (by omega)]
theorem c97_at {t : Atom} : AtC (c97C C s B t.1 (kC t.2.1) t.2.2) s B t := by
  unfold AtC c97C
  refine ⟨?_, ?_, ?_⟩
  · rw [r_In (by omega), r_In (by omega), r_In (by omega), r_I, if_pos ⟨rfl, rfl⟩]
  · rw [r_In (by omega), r_In (by omega), r_I, if_pos ⟨rfl, rfl⟩]
  · rw [r_In (by omega), r_I, if_pos ⟨rfl, rfl⟩]
theorem AtC.keep {k : Nat} {t : Atom} (h : AtC C s k t) (F : FrA s A C C') (hk : k < A) : AtC C' s k t := by
  unfold AtC
  rw [(F.2.2.1 k hk).1, (F.2.2.1 k hk).2.1, (F.2.2.1 k hk).2.2]
  exact h
theorem isOp_cs {k : Nat} (h : isOp k = true) : k = 43 ∨ k = 45 ∨ k = 42 := by
  unfold isOp at h
  simp only [Bool.or_eq_true, decide_eq_true_eq] at h
  omega
theorem isOp_no {k : Nat} (h : ¬ isOp k = true) : ¬ k = 43 ∧ ¬ k = 45 ∧ ¬ k = 42 := by
  refine ⟨fun e => h ?_, fun e => h ?_, fun e => h ?_⟩ <;> subst e <;> rfl
def ListC (C : AmC) (s A : Nat) (v : Val) : Prop := ∀ k (h : k < v.length), AtC C s (A + k) v[k]
theorem ListC.add {t : Atom} {v : Val} {C1 : AmC} (hs : s ∈ scrL) (h : ListC C s A v) (F : FrPa C C1) : ListC (c97C C1 s (A + v.length) t.1 (kC t.2.1) t.2.2) s A (v ++ [t]) := by
  intro k hk
  have sl := scr_lt hs
  by_cases d : k < v.length
  · rw [List.getElem_append_left d]
    exact (h k d).keep ((F.a (A := A + v.length) hs).trans (c97_fr hs (Nat.le_refl _))) (by omega)
  · have : k = v.length := by simp at hk; omega
    subst this
    rw [List.getElem_append_right (Nat.le_refl _)]
    simp only [Nat.sub_self, List.getElem_cons_zero]
    exact c97_at
theorem c42_lp (h1c : 1 ≤ cols) (h4 : cols ≤ 4) : ∀ f p sg i acc C n, f + p = 901 → 2 * p ≤ i → f < n → Pc C s x N i → cI C s 0 = nI cols → cI C 109 11 = (if oth = true then 1 else 0) → cI C 109 12 = (if col = true then 1 else 0) → cI C s 11 = nI (A + acc.length) → 2 * (A + acc.length) ≤ ps x N i → ListC C s A acc →
    Rt (lp_42_4 n 109 (nI sg) (nI p) C) (fun z C' => FrA s A C C' ∧ ((∃ k j, spV x N oth col cols f sg i acc = .inl (k, j) ∧ z = .inl () ∧ Flt C' x N k j) ∨ ∃ v j, spV x N oth col cols f sg i acc = .inr (v, j) ∧ z = .inr (.inl 109) ∧ Pc C' s x N j ∧ cI C' s 11 = nI (A + v.length) ∧ 2 * (A + v.length) ≤ ps x N j + 1 ∧ ListC C' s A v)) := by
  intro f
  induction f with
  | zero =>
    intro p sg i acc C n h1 h2 h3 h
    have := h.2.2.2.2.2.1.le h.2.2.2.2.2.2.2.2
    omega
  | succ f ih =>
    intro p sg i acc C n g1 g2 g3 h hc ho hl e b hL
    obtain ⟨n, rfl⟩ : ∃ m, n = m + 1 := ⟨n - 1, by omega⟩
    have N9 := h.2.2.2.2.2.2.2.2
    have i9 := h.2.2.2.2.2.1.le N9
    have sl := scr_lt h.2.1
    have hs := h.2.1
    rw [lp_42_4, n_900, if_neg (by rw [x_le (by omega) (by omega)]; omega), if_pos k_109]
    refine rt_bind (rt_mono (c43 (oth := oth) (col := col) h hc h4 ho hl e (fun z => by omega)) (fun z C1 H => ?_))
    rcases H with ⟨k, j, er, rfl, F, fl⟩ | ⟨a, j, C2, er, rfl, F, h2, rfl⟩
    · dsimp only
      rw [if_neg (fun q => q rfl)]
      exact rt_ret ⟨F.a hs, Or.inl ⟨k, j, by rw [spV, er], rfl, fl⟩⟩
    · obtain ⟨t1, t2, t3, _⟩ := spA_ps h1c er
      have FA : FrA s A C (c97C C2 s (A + acc.length) (nI sg) (kC a.1) a.2) := (F.a hs).trans (c97_fr hs (by omega))
      have h3 : Pc (c97C C2 s (A + acc.length) (nI sg) (kC a.1) a.2) s x N j := c97_pc h2
      have L3 : ListC (c97C C2 s (A + acc.length) (nI sg) (kC a.1) a.2) s A (acc ++ [(nI sg, a.1, a.2)]) := hL.add (t := (nI sg, a.1, a.2)) hs F
      have l1 : (acc ++ [(nI sg, a.1, a.2)]).length = acc.length + 1 := by simp
      have e3 : cI (c97C C2 s (A + acc.length) (nI sg) (kC a.1) a.2) s 11 = nI (A + (acc ++ [(nI sg, a.1, a.2)]).length) := by
        rw [l1]
        unfold c97C
        rw [r_I, if_pos ⟨rfl, rfl⟩]
        rfl
      dsimp only
      rw [if_pos (by decide), bd1 (c23 h3)]
      dsimp only
      have on : isOp (tK x N j) = true → Rt (lp_42_4 n 109 (nI (tK x N j)) (nI p + 1) (uI (c97C C2 s (A + acc.length) (nI sg) (kC a.1) a.2) 109 4 ((cI (c97C C2 s (A + acc.length) (nI sg) (kC a.1) a.2) 109 4) + 1))) (fun z C' => FrA s A C C' ∧ ((∃ k j, spV x N oth col cols (f + 1) sg i acc = .inl (k, j) ∧ z = .inl () ∧ Flt C' x N k j) ∨ ∃ v j, spV x N oth col cols (f + 1) sg i acc = .inr (v, j) ∧ z = .inr (.inl 109) ∧ Pc C' s x N j ∧ cI C' s 11 = nI (A + v.length) ∧ 2 * (A + v.length) ≤ ps x N j + 1 ∧ ListC C' s A v)) := by
        intro op
        have oc := isOp_cs op
        have t4 := ps_1 (x := x) (N := N) (i := j) (by omega)
        have F5 : FrPa (c97C C2 s (A + acc.length) (nI sg) (kC a.1) a.2) (uI (c97C C2 s (A + acc.length) (nI sg) (kC a.1) a.2) 109 4 ((cI (c97C C2 s (A + acc.length) (nI sg) (kC a.1) a.2) 109 4) + 1)) := (FrPa.refl _).u (by omega)
        have F6 := FA.trans (F5.a (A := A) hs)
        have ev : spV x N oth col cols (f + 1) sg i acc = spV x N oth col cols f (tK x N j) (j + 1) (acc ++ [(nI sg, a.1, a.2)]) := by
          rw [spV, er]
          show (if isOp (tK x N j) = true then _ else _) = _
          rw [if_pos op]
        rw [x_a1, ev]
        refine rt_mono (ih (p + 1) (tK x N j) (j + 1) (acc ++ [(nI sg, a.1, a.2)]) _ n (by omega) (by omega) (by omega) (h3.go (by omega)) (by rw [F6.2.1 0 (by omega)]; exact hc) (by rw [F6.2.2.2.1]; exact ho) (by rw [F6.2.2.2.2]; exact hl) (by rw [r_In (by omega)]; exact e3) (by rw [l1]; omega) (fun k hk => ?_)) (fun z D H => ⟨F6.trans H.1, H.2⟩)
        exact (L3 k hk).keep (F5.a (A := A + k + 1) hs) (by omega)
      by_cases op : isOp (tK x N j) = true
      · rcases isOp_cs op with q | q | q
        · rw [if_pos (tq_43.mpr q)]; exact on op
        · rw [if_neg (by rw [tq_43]; omega), if_pos (tq_45.mpr q)]; exact on op
        · rw [if_neg (by rw [tq_43]; omega), if_neg (by rw [tq_45]; omega), if_pos (tq_42.mpr q)]; exact on op
      · obtain ⟨o1, o2, o3⟩ := isOp_no op
        rw [if_neg (by rw [tq_43]; exact o1), if_neg (by rw [tq_45]; exact o2), if_neg (by rw [tq_42]; exact o3)]
        refine rt_ret ⟨FA, Or.inr ⟨acc ++ [(nI sg, a.1, a.2)], j, ?_, rfl, h3, e3, by rw [l1]; omega, L3⟩⟩
        rw [spV, er]
        show (if isOp (tK x N j) = true then _ else _) = _
        rw [if_neg op]
/-- how many atoms and values the script has -/
def AC (C : AmC) (s A V : Nat) : Prop := cI C s 11 = nI A ∧ cI C s 15 = nI V ∧ ((V = 0 ∧ A = 0) ∨ (0 < V ∧ cI C (s + 13) V = nI A ∧ ∀ k, k ≤ V → ∃ b, b ≤ A ∧ cI C (s + 13) k = nI b))
/-- atoms were added above A, values above V -/
def FrVa (s A V : Nat) (C C' : AmC) : Prop := Fr (fun b => b = 109 ∨ b = s ∨ (s + 10 ≤ b ∧ b ≤ s + 13)) C C' ∧ (∀ f, f ≠ 11 → f ≠ 15 → cI C' s f = cI C s f) ∧ (∀ k, k < A → cI C' (s + 10) k = cI C (s + 10) k ∧ cI C' (s + 11) k = cI C (s + 11) k ∧ cI C' (s + 12) k = cI C (s + 12) k) ∧ (0 < V → ∀ k, k ≤ V → cI C' (s + 13) k = cI C (s + 13) k) ∧ cI C' 109 11 = cI C 109 11 ∧ cI C' 109 12 = cI C 109 12
theorem FrA.v (hs : s ∈ scrL) (h : FrA s A C C') : FrVa s A V C C' := by
  have sl := scr_lt hs
  exact ⟨h.1.mono (fun a z => by omega), fun f z _ => h.2.1 f z, h.2.2.1, fun _ k _ => by rw [h.1.2.1 (s + 13) (by omega)], h.2.2.2⟩
theorem FrVa.trans {C1 C2 : AmC} (h : FrVa s A V C C1) (g : FrVa s B W C1 C2) (hB : A ≤ B) (hW : V ≤ W) : FrVa s A V C C2 := ⟨h.1.trans g.1, fun f z y => (g.2.1 f z y).trans (h.2.1 f z y), fun k z => ⟨(g.2.2.1 k (by omega)).1.trans (h.2.2.1 k z).1, (g.2.2.1 k (by omega)).2.1.trans (h.2.2.1 k z).2.1, (g.2.2.1 k (by omega)).2.2.trans (h.2.2.1 k z).2.2⟩, fun v k z => (g.2.2.2.1 (by omega) k (by omega)).trans (h.2.2.2.1 v k z), g.2.2.2.2.1.trans h.2.2.2.2.1, g.2.2.2.2.2.trans h.2.2.2.2.2⟩
theorem c98_fr (hs : s ∈ scrL) : FrVa s A V C (c98C C s V B) := by
  have sl := scr_lt hs
  unfold c98C
  refine ⟨?_, fun f z y => ?_, fun k z => ⟨?_, ?_, ?_⟩, fun v k z => ?_, ?_, ?_⟩
  · split
    · exact (((Fr.refl _ C).uI (by omega)).uI (by omega)).uI (by omega)
    · exact ((Fr.refl _ C).uI (by omega)).uI (by omega)
  · rw [r_In (by omega)]
    split
    · rw [r_In (by omega), r_I, if_neg (by omega)]
    · rw [r_I, if_neg (by omega)]
  · rw [r_In (by omega)]
    split
    · rw [r_In (by omega), r_In (by omega)]
    · rw [r_In (by omega)]
  · rw [r_In (by omega)]
    split
    · rw [r_In (by omega), r_In (by omega)]
    · rw [r_In (by omega)]
  · rw [r_In (by omega)]
    split
    · rw [r_In (by omega), r_In (by omega)]
    · rw [r_In (by omega)]
  · rw [r_I, if_neg (by omega), if_neg (by omega), r_In (by omega)]
  · rw [r_In (by omega)]
    split
    · rw [r_In (by omega), r_In (by omega)]
    · rw [r_In (by omega)]
  · rw [r_In (by omega)]
    split
    · rw [r_In (by omega), r_In (by omega)]
    · rw [r_In (by omega)]
theorem c98_o {b : Nat} (z1 : b ≠ s) (z2 : b ≠ s + 13) : cI (c98C C s V B) b = cI C b := by
  unfold c98C
  rw [r_In (by omega)]
  split
  · rw [r_In (by omega), r_In (by omega)]
  · rw [r_In (by omega)]
theorem c98_c (hs : s ∈ scrL) : (∀ f, f ≠ 15 → cI (c98C C s V B) s f = cI C s f) ∧ cI (c98C C s V B) s 15 = nI (V + 1) ∧ cI (c98C C s V B) (s + 13) (V + 1) = nI B ∧ (V = 0 → cI (c98C C s V B) (s + 13) 0 = nI 0) ∧ (0 < V → ∀ k, k ≤ V → cI (c98C C s V B) (s + 13) k = cI C (s + 13) k) := by
  have sl := scr_lt hs
  unfold c98C
  refine ⟨fun f z => ?_, ?_, ?_, fun z => ?_, fun z k hk => ?_⟩
  · rw [r_In (by omega)]
    split
    · rw [r_In (by omega), r_I, if_neg (by omega)]
    · rw [r_I, if_neg (by omega)]
  · rw [r_In (by omega)]
    split
    · rw [r_In (by omega), r_I, if_pos ⟨rfl, rfl⟩]
    · rw [r_I, if_pos ⟨rfl, rfl⟩]
  · rw [r_I, if_pos ⟨rfl, rfl⟩]
  · rw [r_I, if_neg (by omega), if_pos z, r_I, if_pos ⟨rfl, rfl⟩]
    rfl
  · rw [r_I, if_neg (by omega), if_neg (by omega), r_In (by omega)]
theorem VC.keep {k V2 : Nat} {v : Val} (h : VC C s k v) (hA : AC C s A V) (ha : ∀ k, k < A → cI C' (s + 10) k = cI C (s + 10) k ∧ cI C' (s + 11) k = cI C (s + 11) k ∧ cI C' (s + 12) k = cI C (s + 12) k) (hb : 0 < V → ∀ k, k ≤ V → cI C' (s + 13) k = cI C (s + 13) k) (h15 : cI C' s 15 = nI V2) (hv : V ≤ V2) (h4 : V2 ≤ 450) : VC C' s k v := by
  obtain ⟨vc, a, e1, e2, e3, e4, e5, e6, e7⟩ := h
  obtain ⟨a1, a2, a3⟩ := hA
  rw [a2] at e1
  have W4 : V < 2147483648 := by omega
  have ev : V = vc := (x_eq W4 (by omega)).mp e1
  subst ev
  rcases a3 with a3 | ⟨a3, _, a4⟩
  · omega
  · obtain ⟨b, b1, b2⟩ := a4 (k + 1) (by omega)
    refine ⟨V2, a, h15, h4, by omega, ?_, ?_, e6, fun i hi => ?_⟩
    · rw [hb a3 k (by omega)]; exact e4
    · rw [hb a3 (k + 1) (by omega)]; exact e5
    · rw [e5] at b2
      by_cases b3 : b < 2147483648
      · have := (x_eq (by omega) b3).mp b2
        unfold AtC
        have q := ha (a + i) (by omega)
        rw [q.1, q.2.1, q.2.2]
        exact e7 i hi
      · unfold AtC
        have q := ha (a + i) (by omega)
        rw [q.1, q.2.1, q.2.2]
        exact e7 i hi
/-! what a value is -/
theorem spV_ps (h1c : 1 ≤ cols) : ∀ f sg i acc v j, (sg = 43 ∨ sg = 45 ∨ sg = 42) → spV x N oth col cols f sg i acc = .inr (v, j) → tK x N i ≠ 132 ∧ ps x N i + 1 ≤ ps x N j ∧ i < j ∧ ∃ w, v = acc ++ w ∧ w ≠ [] ∧ 2 * w.length ≤ ps x N j + 1 - ps x N i ∧ ∀ a ∈ w, AtomOK cols a ∧ (a.2.1 = 2 → oth = true) ∧ (a.2.1 = 1 → col = true) := by
  intro f
  induction f with
  | zero => intro sg i acc v j _ h; cases h
  | succ f ih =>
    intro sg i acc v j hs h
    rw [spV] at h
    cases e : spA x N oth col cols i with
    | inl k => rw [e] at h; cases h
    | inr q =>
      obtain ⟨a, j1⟩ := q
      rw [e] at h
      have h : (if isOp (tK x N j1) = true then spV x N oth col cols f (tK x N j1) (j1 + 1) (acc ++ [(nI sg, a.1, a.2)]) else .inr (acc ++ [(nI sg, a.1, a.2)], j1)) = (.inr (v, j) : PE Val) := h
      obtain ⟨g1, g2, g3, g4, g5, g6⟩ := spA_ps h1c e
      have ok : AtomOK cols (nI sg, a.1, a.2) ∧ (a.1 = 2 → oth = true) ∧ (a.1 = 1 → col = true) := by
        refine ⟨⟨?_, g4⟩, g5, g6⟩
        rcases hs with z | z | z <;> subst z
        · exact Or.inr (Or.inl rfl)
        · exact Or.inr (Or.inr rfl)
        · exact Or.inl rfl
      by_cases op : isOp (tK x N j1) = true
      · rw [if_pos op] at h
        have oc := isOp_cs op
        obtain ⟨z1, z2, z3, w, z4, z5, z6, z7⟩ := ih _ _ _ _ _ oc h
        have := ps_1 (x := x) (N := N) (i := j1) (by omega)
        refine ⟨g1, by omega, by omega, (nI sg, a.1, a.2) :: w, by rw [z4]; simp, by simp, by rw [List.length_cons]; omega, fun b hb => ?_⟩
        rcases List.mem_cons.mp hb with rfl | hb
        · exact ok
        · exact z7 b hb
      · rw [if_neg op] at h
        cases h
        refine ⟨g1, g2, g3, [(nI sg, a.1, a.2)], rfl, by simp, by rw [List.length_singleton]; omega, fun b hb => ?_⟩
        rw [List.mem_singleton] at hb
        subst hb
        exact ok
theorem spW_ps (h1c : 1 ≤ cols) (N9 : N ≤ 900) {v : Val} (h : spW x N oth col cols i = .inr (v, j)) : tK x N i ≠ 132 ∧ ps x N i + 1 ≤ ps x N j ∧ i < j ∧ ValOK cols oth col v := by
  obtain ⟨z1, z2, z3, w, z4, z5, z6, z7⟩ := spV_ps h1c _ _ _ _ _ _ (Or.inl rfl) h
  have pj := ps_le (x := x) (N := N) j
  rw [List.nil_append] at z4
  subst z4
  exact ⟨z1, z2, z3, z5, by omega, z7⟩
theorem c42 (h1c : 1 ≤ cols) (h4 : cols ≤ 4) (h : Pc C s x N i) (hc : cI C s 0 = nI cols) (ho : cI C 109 11 = if oth = true then 1 else 0) (hl : cI C 109 12 = if col = true then 1 else 0) (hA : AC C s A V) (h2 : 2 * A ≤ ps x N i) (hV : V ≤ 440) (hn : 1000 ≤ n) : Rt (f_42 n 109 C) (fun z C' => FrVa s A V C C' ∧ PRc C' z s x N (spW x N oth col cols i) (fun v j => cI C' 109 10 = nI V ∧ VC C' s V v ∧ AC C' s (A + v.length) (V + 1) ∧ 2 * (A + v.length) ≤ ps x N j + 1)) := by
  have sl := scr_lt h.2.1
  have hs := h.2.1
  have L := c42_lp (s := s) (x := x) (N := N) (A := A) (oth := oth) (col := col) h1c h4 901 0 43 i [] C n rfl (by omega) (by omega) h hc ho hl hA.1 h2 (fun k hk => absurd hk (Nat.not_lt_zero k))
  unfold f_42 spW
  refine rt_bind (rt_mono L (fun z C1 H => ?_))
  obtain ⟨F, ⟨k, j, er, rfl, fl⟩ | ⟨v, j, er, rfl, h1, e1, b1, L1⟩⟩ := H
  · exact rt_ret ⟨F.v hs, Or.inl ⟨k, j, er, rfl, fl⟩⟩
  · dsimp only
    have N9 := h.2.2.2.2.2.2.2.2
    have pj := ps_le (x := x) (N := N) j
    have e15 : cI C1 s 15 = nI V := by rw [F.2.1 15 (by omega)]; exact hA.2.1
    rw [if_pos k_109, bd1 h1.2.2.1, if_pos (sc_of h1.1 h1.2.1).1, bd1 (c98 h1.1 hs e15 e1 (by omega))]
    dsimp only
    obtain ⟨q1, q2, q3, q4, q5⟩ := c98_c (C := C1) (s := s) (V := V) (B := A + v.length) hs
    have F2 : FrVa s A V C (c98C C1 s V (A + v.length)) := (F.v hs).trans (c98_fr hs) (Nat.le_refl A) (Nat.le_refl V)
    have F3 : FrVa s A V C (uI (c98C C1 s V (A + v.length)) 109 10 (nI V)) := F2.trans ((((FrPa.refl _).u (by omega)).a (A := A) hs).v hs) (Nat.le_refl A) (Nat.le_refl V)
    have p1 : Pc (c98C C1 s V (A + v.length)) s x N j := h1.of (by unfold c98C; rw [p_I]; split <;> rfl) (fun b z1 z2 => c98_o (by omega) (by omega))
    have ac : AC (uI (c98C C1 s V (A + v.length)) 109 10 (nI V)) s (A + v.length) (V + 1) := by
      refine ⟨by rw [r_In (by omega), q1 11 (by omega)]; exact e1, by rw [r_In (by omega)]; exact q2, Or.inr ⟨by omega, by rw [r_In (by omega)]; exact q3, fun k hk => ?_⟩⟩
      rw [r_In (by omega)]
      by_cases k1 : k = V + 1
      · subst k1; exact ⟨_, Nat.le_refl _, q3⟩
      · by_cases v0 : V = 0
        · have : k = 0 := by omega
          subst this
          exact ⟨0, by omega, q4 v0⟩
        · rw [q5 (by omega) k (by omega), F.1.2.1 (s + 13) (by omega)]
          rcases hA.2.2 with z | ⟨_, _, z⟩
          · omega
          · obtain ⟨b, b2, b3⟩ := z k (by omega)
            exact ⟨b, by omega, b3⟩
    refine rt_ret ⟨F3, Or.inr ⟨v, j, er, rfl, p1.set (by omega), by rw [r_I, if_pos ⟨rfl, rfl⟩], ?_, ac, b1⟩⟩
    have st : cI (uI (c98C C1 s V (A + v.length)) 109 10 (nI V)) (s + 13) V = nI A := by
      rw [r_In (by omega)]
      by_cases v0 : V = 0
      · subst v0
        rw [q4 rfl]
        rcases hA.2.2 with z | z
        · rw [z.2]
        · omega
      · rw [q5 (by omega) V (Nat.le_refl _), F.1.2.1 (s + 13) (by omega)]
        rcases hA.2.2 with z | z
        · omega
        · exact z.2.1
    refine ⟨V + 1, A, ac.2.1, by omega, by omega, st, by rw [r_In (by omega)]; exact q3, by omega, fun k hk => ?_⟩
    have a := L1 k hk
    unfold AtC at a ⊢
    rw [r_In (by omega), r_In (by omega), r_In (by omega)]
    rw [c98_o (by omega) (by omega), c98_o (by omega) (by omega), c98_o (by omega) (by omega)]
    exact a
end
