/-! see, forget. -/
theorem c150 {n : Nat} {C : AmC} {x : Int32} : f_150 n x C = some (if inR x = true then 1 else 0, C) := by
  have L3 : (-9999 : Int32).toInt = -9999 := by decide
  have L4 : (9999 : Int32).toInt = 9999 := by decide
  unfold f_150 inR
  by_cases a : x < -9999
  · rw [if_pos a]
    rw [Int32.lt_iff_toInt_lt, L3] at a
    simp only [↓reduceIte, show ¬ -9999 ≤ x.toInt by omega, decide_false, Bool.false_and, Bool.false_eq_true, if_false]
  · rw [if_neg a]
    rw [Int32.lt_iff_toInt_lt, L3] at a
    by_cases b : 9999 < x
    · rw [if_pos b]
      rw [Int32.lt_iff_toInt_lt, L4] at b
      simp only [↓reduceIte, show ¬ x.toInt ≤ 9999 by omega, decide_false, Bool.and_false, Bool.false_eq_true, if_false]
    · rw [if_neg b]
      rw [Int32.lt_iff_toInt_lt, L4] at b
      simp only [↓reduceIte, show -9999 ≤ x.toInt by omega, show x.toInt ≤ 9999 by omega, decide_true, Bool.and_true, if_true]
def sSeeB (B : Big) (p c v : Int32) : Bool := (ixO 30 p).isSome && (ixO (sCols (bS B)) c).isSome && (decide (v = -100000) || inR v) && decide ((zS (bZ B)).length < 8)
def sSeeA (B : Big) (p c v : Int32) : Int32 := if sSeeB B p c v = true then nI ((zS (bZ B)).length + 1) else -1
def zSee (z : Sta) (q : Nat × Nat × Int32) : Sta := (zT z, zH z, zS z ++ [q], zR z)
def sSeeZ (B : Big) (p c v : Int32) : Sta := if sSeeB B p c v = true then zSee (bZ B) (p.toNatClampNeg, c.toNatClampNeg, v) else zRef (bZ B) 2
theorem sSee_ok {B : Big} {p c v : Int32} (hB : BigOK B) : StaOK (bS B) (sSeeZ B p c v) := by
  have c4 := hB.1.2.1
  have hz := hB.2.2.2.1
  unfold sSeeZ
  split
  · rename_i h
    unfold sSeeB at h
    simp only [Bool.and_eq_true, decide_eq_true_eq] at h
    obtain ⟨⟨⟨h1, h2⟩, _⟩, h3⟩ := h
    refine ⟨hz.1, hz.2.1, hz.2.2.1, by show (zS (bZ B) ++ _).length ≤ 8; simp; omega, fun q hq => ?_⟩
    have hq : q ∈ zS (bZ B) ++ [(p.toNatClampNeg, c.toNatClampNeg, v)] := hq
    rcases List.mem_append.mp hq with hq | hq
    · exact hz.2.2.2.2 q hq
    · rw [List.mem_singleton] at hq
      subst hq
      rcases ix_c (N := 30) (by omega) p with ⟨_, e⟩ | ⟨k, hk, rfl, _⟩
      · rw [e] at h1; cases h1
      · rcases ix_c (N := sCols (bS B)) (by omega) c with ⟨_, e⟩ | ⟨j, hj, rfl, _⟩
        · rw [e] at h2; cases h2
        · simp only
          rw [x_cl (by omega), x_cl (by omega)]
          exact ⟨hk, hj⟩
  · exact hz.ref
section
variable {n : Nat} {C C' : AmC} {s h : Nat} {B : Big} {S : Scr}
theorem c111 {a b v : Int32} {L : Nat} (hP : PInv C) (e : cI C 82 5 = nI L) (hL : L < 8) : f_111 n 82 a b v C = some ((), uI (uI (uI (uI C 88 L a) 89 L b) 90 L v) 82 5 (nI (L + 1))) := by
  have P1 : ∀ x, PInv (uI C 88 L x) := fun x => hP.of rfl
  have P2 : ∀ x y, PInv (uI (uI C 88 L x) 89 L y) := fun x y => hP.of rfl
  have e1 : ∀ x, cI (uI C 88 L x) 82 5 = nI L := fun x => by rw [r_In (by decide)]; exact e
  have e2 : ∀ x y, cI (uI (uI C 88 L x) 89 L y) 82 5 = nI L := fun x y => by rw [r_In (by decide), r_In (by decide)]; exact e
  have e3 : ∀ x y z, cI (uI (uI (uI C 88 L x) 89 L y) 90 L z) 82 5 = nI L := fun x y z => by rw [r_In (by decide), r_In (by decide), r_In (by decide)]; exact e
  unfold f_111
  simp (disch := omega) only [↓reduceIte, k_82, if_true, if_false, e, x_lt0, n_8, x_lt, hL, ↓bd1 (w_82_2 hP), k_88, l_88, x_in, x_cl, ↓bd1 (w_82_3 (P1 a)), e1, k_89, l_89, ↓bd1 (w_82_4 (P2 a b)), e2, k_90, l_90, e3, x_a1]
theorem StaC.see {cols : Nat} {z : Sta} {q : Nat × Nat × Int32} (hz : StaC cols C 82 z) : StaC cols (uI (uI (uI (uI C 88 (zS z).length (nI q.1)) 89 (zS z).length (nI q.2.1)) 90 (zS z).length q.2.2) 82 5 (nI ((zS z).length + 1))) 82 (zSee z q) := by
  obtain ⟨h1, ⟨x, h2⟩, h3, h4, h5⟩ := hz
  have F : Fr (fun b => b = 82 ∨ b = 88 ∨ b = 89 ∨ b = 90) C (uI (uI (uI (uI C 88 (zS z).length (nI q.1)) 89 (zS z).length (nI q.2.1)) 90 (zS z).length q.2.2) 82 5 (nI ((zS z).length + 1))) := ((((Fr.refl _ C).uI (by omega)).uI (by omega)).uI (by omega)).uI (by omega)
  have e := F.2.1
  refine ⟨h1.of (e _ (by omega)) (e _ (by omega)), ⟨x, by rw [e _ (by omega), e _ (by omega), e _ (by omega)]; exact h2⟩, ?_, fun i hi => ?_, by rw [e _ (by omega)]; exact h5⟩
  · rw [r_I, if_pos ⟨rfl, rfl⟩]
    show nI ((zS z).length + 1) = nI (zS z ++ [q]).length
    simp
  · have hi : i < (zS z ++ [q]).length := hi
    have hl : (zS z ++ [q]).length = (zS z).length + 1 := by simp
    show cI _ 88 i = nI (zS z ++ [q])[i].1 ∧ cI _ 89 i = nI (zS z ++ [q])[i].2.1 ∧ cI _ 90 i = (zS z ++ [q])[i].2.2
    by_cases d : i < (zS z).length
    · rw [List.getElem_append_left d]
      obtain ⟨a1, a2, a3⟩ := h4 i d
      refine ⟨?_, ?_, ?_⟩
      · rw [r_In (by decide), r_In (by decide), r_In (by decide), r_I, if_neg (by omega)]; exact a1
      · rw [r_In (by decide), r_In (by decide), r_I, if_neg (by omega), r_In (by decide)]; exact a2
      · rw [r_In (by decide), r_I, if_neg (by omega), r_In (by decide), r_In (by decide)]; exact a3
    · have d : i = (zS z).length := by omega
      subst d
      have g : (zS z ++ [q])[(zS z).length] = q := by rw [List.getElem_append_right (by omega)]; simp
      rw [g]
      refine ⟨?_, ?_, ?_⟩
      · rw [r_In (by decide), r_In (by decide), r_In (by decide), r_I, if_pos ⟨rfl, rfl⟩]
      · rw [r_In (by decide), r_In (by decide), r_I, if_pos ⟨rfl, rfl⟩]
      · rw [r_In (by decide), r_I, if_pos ⟨rfl, rfl⟩]
theorem q135 (hC : CI C s B) (hB : BigOK B) (p c v : Int32) : Rt (f_135 n 0 p c v C) (fun z C' => z = sSeeA B p c v ∧ CI C' s (bUp B (sSeeZ B p c v)) ∧ (∀ b, 145 ≤ b → cI C' b = cI C b)) := by
  have c4 := hB.1.2.1
  have P := hC.1
  have Z := hC.2.2.2.2.2.2.2.2.1
  have l8 := hB.2.2.2.1.2.2.2.1
  have t2 : Int32.toNatClampNeg (2 : Int32) = 2 := by decide
  have i2 : amIn (2 : Int32) (aLen 91) = true := by decide
  have e5 : cI C 82 5 = nI (zS (bZ B)).length := Z.2.2.1
  have bad : sSeeB B p c v = false → ((-1 : Int32) = sSeeA B p c v ∧ CI (uI C 91 2 (cI C 91 2 + 1)) s (bUp B (sSeeZ B p c v)) ∧ (∀ b, 145 ≤ b → cI (uI C 91 2 (cI C 91 2 + 1)) b = cI C b)) := by
    intro hb
    unfold sSeeA sSeeZ
    simp only [↓reduceIte, hb, Bool.false_eq_true, if_false]
    exact ⟨trivial, hC.up hB (P.of rfl) rfl (fun b hb => r_In (by omega)) (Z.ref rfl (by omega)), fun b hb => r_In (by omega)⟩
  unfold f_135
  rcases ix_c (N := 30) (by omega) p with ⟨np, ep⟩ | ⟨i, hi, rfl, ep⟩
  · simp only [↓reduceIte, ↓bd1 (c148_f (n := n) (C := C) np), if_true, k_0, ↓bd1 (w_0_6 P), k_82, ↓bd1 (w_82_6 P), k_91, i2, t2]
    exact rt_ret (bad (by unfold sSeeB; rw [ep]; rfl))
  · rcases ix_c (N := sCols (bS B)) (by omega) c with ⟨nc, ec⟩ | ⟨j, hj, rfl, ec⟩
    · simp only [↓reduceIte, ↓bd1 (c148_t (n := n) (C := C) hi), n10f, if_true, if_false, k_0, ↓bd1 (c149_f (n := n) hC hB nc), ↓bd1 (w_0_6 P), k_82, ↓bd1 (w_82_6 P), k_91, i2, t2]
      exact rt_ret (bad (by unfold sSeeB; rw [ep, ec]; rfl))
    · have good : sSeeB B (nI i) (nI j) v = true → (zS (bZ B)).length < 8 → (cI (uI (uI (uI (uI C 88 (zS (bZ B)).length (nI i)) 89 (zS (bZ B)).length (nI j)) 90 (zS (bZ B)).length v) 82 5 (nI ((zS (bZ B)).length + 1))) 82 5 = sSeeA B (nI i) (nI j) v ∧ CI (uI (uI (uI (uI C 88 (zS (bZ B)).length (nI i)) 89 (zS (bZ B)).length (nI j)) 90 (zS (bZ B)).length v) 82 5 (nI ((zS (bZ B)).length + 1))) s (bUp B (sSeeZ B (nI i) (nI j) v)) ∧ (∀ b, 145 ≤ b → cI (uI (uI (uI (uI C 88 (zS (bZ B)).length (nI i)) 89 (zS (bZ B)).length (nI j)) 90 (zS (bZ B)).length v) 82 5 (nI ((zS (bZ B)).length + 1))) b = cI C b)) := by
        intro hb hl
        unfold sSeeA sSeeZ
        simp only [↓reduceIte, hb, if_true]
        rw [x_cl (by omega), x_cl (by omega)]
        have F : Fr (fun b => b = 82 ∨ b = 88 ∨ b = 89 ∨ b = 90) C (uI (uI (uI (uI C 88 (zS (bZ B)).length (nI i)) 89 (zS (bZ B)).length (nI j)) 90 (zS (bZ B)).length v) 82 5 (nI ((zS (bZ B)).length + 1))) := ((((Fr.refl _ C).uI (by omega)).uI (by omega)).uI (by omega)).uI (by omega)
        exact ⟨by rw [r_I, if_pos ⟨rfl, rfl⟩], hC.up hB (P.of rfl) rfl (fun b hb => F.2.1 b (by omega)) (StaC.see (q := (i, j, v)) Z), fun b hb => F.2.1 b (by omega)⟩
      have P2 : PInv (uI (uI (uI (uI C 88 (zS (bZ B)).length (nI i)) 89 (zS (bZ B)).length (nI j)) 90 (zS (bZ B)).length v) 82 5 (nI ((zS (bZ B)).length + 1))) := P.of rfl
      by_cases l : (zS (bZ B)).length < 8
      · have w := c111 (n := n) (a := nI i) (b := nI j) (v := v) P e5 l
        by_cases dv : v = -100000
        · have dv' : (v = -100000) = True := eq_true dv
          have hb : sSeeB B (nI i) (nI j) v = true := by unfold sSeeB; rw [ep, ec]; simp [dv, l]
          have O := good hb l
          generalize uI (uI (uI (uI C 88 (zS (bZ B)).length (nI i)) 89 (zS (bZ B)).length (nI j)) 90 (zS (bZ B)).length v) 82 5 (nI ((zS (bZ B)).length + 1)) = C2 at w O P2
          simp (disch := omega) only [↓reduceIte, ↓bd1 (c148_t (n := n) (C := C) hi), n10f, if_true, if_false, k_0, ↓bd1 (c149_t (n := n) hC hB hj), dv', ↓bd1 (w_0_6 P), k_82, e5, n_8, x_lt, l, ↓bd1 w, ↓bd1 (w_0_6 P2)]
          exact rt_ret O
        · rcases bcs (inR v) with r | r
          · have w1 := c150 (n := n) (C := C) (x := v)
            rw [r] at w1
            have w1 : f_150 n v C = some (0, C) := w1
            simp only [↓reduceIte, ↓bd1 (c148_t (n := n) (C := C) hi), n10f, if_true, if_false, k_0, ↓bd1 (c149_t (n := n) hC hB hj), dv, ↓bd1 w1, ↓bd1 (w_0_6 P), k_82, ↓bd1 (w_82_6 P), k_91, i2, t2]
            exact rt_ret (bad (by unfold sSeeB; rw [ep, ec, r]; simp [dv]))
          · have w1 := c150 (n := n) (C := C) (x := v)
            rw [r] at w1
            have w1 : f_150 n v C = some (1, C) := w1
            have hb : sSeeB B (nI i) (nI j) v = true := by unfold sSeeB; rw [ep, ec, r]; simp [l]
            have O := good hb l
            generalize uI (uI (uI (uI C 88 (zS (bZ B)).length (nI i)) 89 (zS (bZ B)).length (nI j)) 90 (zS (bZ B)).length v) 82 5 (nI ((zS (bZ B)).length + 1)) = C2 at w O P2
            simp (disch := omega) only [↓reduceIte, ↓bd1 (c148_t (n := n) (C := C) hi), n10f, if_true, if_false, k_0, ↓bd1 (c149_t (n := n) hC hB hj), dv, ↓bd1 w1, ↓bd1 (w_0_6 P), k_82, e5, n_8, x_lt, l, ↓bd1 w, ↓bd1 (w_0_6 P2)]
            exact rt_ret O
      · have hb : sSeeB B (nI i) (nI j) v = false := by unfold sSeeB; simp [l]
        by_cases dv : v = -100000
        · have dv' : (v = -100000) = True := eq_true dv
          simp (disch := omega) only [↓reduceIte, ↓bd1 (c148_t (n := n) (C := C) hi), n10f, if_true, if_false, k_0, ↓bd1 (c149_t (n := n) hC hB hj), dv', ↓bd1 (w_0_6 P), k_82, e5, n_8, x_lt, l, ↓bd1 (w_82_6 P), k_91, i2, t2]
          exact rt_ret (bad hb)
        · rcases bcs (inR v) with r | r
          · have w1 := c150 (n := n) (C := C) (x := v)
            rw [r] at w1
            have w1 : f_150 n v C = some (0, C) := w1
            simp only [↓reduceIte, ↓bd1 (c148_t (n := n) (C := C) hi), n10f, if_true, if_false, k_0, ↓bd1 (c149_t (n := n) hC hB hj), dv, ↓bd1 w1, ↓bd1 (w_0_6 P), k_82, ↓bd1 (w_82_6 P), k_91, i2, t2]
            exact rt_ret (bad hb)
          · have w1 := c150 (n := n) (C := C) (x := v)
            rw [r] at w1
            have w1 : f_150 n v C = some (1, C) := w1
            simp (disch := omega) only [↓reduceIte, ↓bd1 (c148_t (n := n) (C := C) hi), n10f, if_true, if_false, k_0, ↓bd1 (c149_t (n := n) hC hB hj), dv, ↓bd1 w1, ↓bd1 (w_0_6 P), k_82, e5, n_8, x_lt, l, ↓bd1 (w_82_6 P), k_91, i2, t2]
            exact rt_ret (bad hb)
theorem q138 (hC : CI C s B) (hB : BigOK B) : Rt (f_138 n 0 C) (fun _ C' => CI C' s (bUp B (zT (bZ B), zH (bZ B), [], zR (bZ B))) ∧ (∀ b, 145 ≤ b → cI C' b = cI C b)) := by
  have P := hC.1
  have Z := hC.2.2.2.2.2.2.2.2.1
  unfold f_138
  simp only [↓reduceIte, k_0, if_true, ↓bd1 (w_0_6 P), k_82]
  refine rt_ret ⟨hC.up hB (P.of rfl) rfl (fun b hb => r_In (by omega)) ?_, fun b hb => r_In (by omega)⟩
  obtain ⟨h1, ⟨x, h2⟩, h3, h4, h5⟩ := Z
  have e : ∀ b, ¬ b = 82 → cI (uI C 82 5 0) b = cI C b := fun b hb => r_In hb
  exact ⟨h1.of (e _ (by omega)) (e _ (by omega)), ⟨x, by rw [e _ (by omega), e _ (by omega), e _ (by omega)]; exact h2⟩, by rw [r_I, if_pos ⟨rfl, rfl⟩]; rfl, fun i hi => absurd hi (Nat.not_lt_zero i), by rw [e _ (by omega)]; exact h5⟩
theorem q283 (hM : MI C h B) (hB : BigOK B) : Rt (f_283 n 145 C) (fun _ C' => MI C' h (bUp B (zT (bZ B), zH (bZ B), [], zR (bZ B))) ∧ cP C' = cP C ∧ ∀ b, b < 145 ∨ (151 ≤ b ∧ b ≤ 177) → cI C' b = cI C b) := by
  obtain ⟨M0, t0, F0⟩ := hM.t0 hB
  have c4 := hB.1.2.1
  unfold f_283
  rw [if_pos k_145]
  generalize hC0 : uI C 145 5 0 = C0 at M0 t0 F0
  refine rt_ret ⟨?_, F0.1, fun b hb => by rw [r_In (by omega)]; exact F0.o b hb⟩
  have e : ∀ b, ¬ b = 145 → cI (uI C0 145 8 0) b = cI C0 b := fun b hb => r_In hb
  have f : ∀ j, ¬ j = 8 → cI (uI C0 145 8 0) 145 j = cI C0 145 j := fun j hj => by rw [r_I, if_neg (by omega)]
  refine M0.up hB rfl (fun b z1 z2 => e b (by omega)) (fun j z1 z2 => f j (by omega)) (fun j _ => by rw [e 146 (by omega)]) (fun j _ => ⟨by rw [e 147 (by omega)], by rw [e 148 (by omega)], by rw [e 149 (by omega)]⟩) (fun j _ => by rw [e 150 (by omega)]) ?_
  obtain ⟨h1, ⟨x, h2, h3, h5, h6⟩, h7, h8, h9⟩ := M0.2.2.2.2.1
  exact ⟨h1.of c4 (fun j _ _ => by rw [e 146 (by omega)]), ⟨x, h2, by rw [f _ (by omega)]; exact h3, by rw [f _ (by omega)]; exact h5, fun k hk => (h6 k hk).of c4 (fun j _ _ => by rw [e 146 (by omega)])⟩, by rw [r_I, if_pos ⟨rfl, rfl⟩]; rfl, fun i hi => absurd hi (Nat.not_lt_zero i), by rw [e 150 (by omega)]; exact h9⟩
theorem StaM.see {cols : Nat} {z : Sta} {q : Nat × Nat × Int32} (h4 : cols ≤ 4) (hz : StaM cols C 0 300 6 0 0 z) : StaM cols (uI (uI (uI (uI C 147 (zS z).length (nI q.1)) 148 (zS z).length (nI q.2.1)) 149 (zS z).length q.2.2) 145 8 (nI ((zS z).length + 1))) 0 300 6 0 0 (zSee z q) := by
  obtain ⟨h1, ⟨x, h2, h3, h5, h6⟩, h7, h8, h9⟩ := hz
  have F : Fr (fun b => b = 145 ∨ b = 147 ∨ b = 148 ∨ b = 149) C (uI (uI (uI (uI C 147 (zS z).length (nI q.1)) 148 (zS z).length (nI q.2.1)) 149 (zS z).length q.2.2) 145 8 (nI ((zS z).length + 1))) := ((((Fr.refl _ C).uI (by omega)).uI (by omega)).uI (by omega)).uI (by omega)
  have e := F.2.1
  have f : ∀ j, ¬ j = 8 → cI (uI (uI (uI (uI C 147 (zS z).length (nI q.1)) 148 (zS z).length (nI q.2.1)) 149 (zS z).length q.2.2) 145 8 (nI ((zS z).length + 1))) 145 j = cI C 145 j := fun j hj => by rw [r_I, if_neg (by omega), r_In (by decide), r_In (by decide), r_In (by decide)]
  refine ⟨h1.of h4 (fun j _ _ => by rw [e 146 (by omega)]), ⟨x, h2, by rw [f _ (by omega)]; exact h3, by rw [f _ (by omega)]; exact h5, fun k hk => (h6 k hk).of h4 (fun j _ _ => by rw [e 146 (by omega)])⟩, ?_, fun i hi => ?_, by rw [e 150 (by omega)]; exact h9⟩
  · rw [r_I, if_pos ⟨rfl, rfl⟩]
    show nI ((zS z).length + 1) = nI (zS z ++ [q]).length
    simp
  · have hi : i < (zS z ++ [q]).length := hi
    have hl : (zS z ++ [q]).length = (zS z).length + 1 := by simp
    show cI _ 147 (0 + i) = nI (zS z ++ [q])[i].1 ∧ cI _ 148 (0 + i) = nI (zS z ++ [q])[i].2.1 ∧ cI _ 149 (0 + i) = (zS z ++ [q])[i].2.2
    by_cases d : i < (zS z).length
    · rw [List.getElem_append_left d]
      obtain ⟨a1, a2, a3⟩ := h8 i d
      refine ⟨?_, ?_, ?_⟩
      · rw [r_In (by decide), r_In (by decide), r_In (by decide), r_I, if_neg (by omega)]; exact a1
      · rw [r_In (by decide), r_In (by decide), r_I, if_neg (by omega), r_In (by decide)]; exact a2
      · rw [r_In (by decide), r_I, if_neg (by omega), r_In (by decide), r_In (by decide)]; exact a3
    · have d : i = (zS z).length := by omega
      subst d
      have g : (zS z ++ [q])[(zS z).length] = q := by rw [List.getElem_append_right (by omega)]; simp
      rw [g]
      refine ⟨?_, ?_, ?_⟩
      · rw [r_In (by decide), r_In (by decide), r_In (by decide), r_I, if_pos ⟨rfl, by omega⟩]
      · rw [r_In (by decide), r_In (by decide), r_I, if_pos ⟨rfl, by omega⟩]
      · rw [r_In (by decide), r_I, if_pos ⟨rfl, by omega⟩]
theorem q277 (hM : MI C h B) (hB : BigOK B) (p c v : Int32) : Rt (f_277 n 145 p c v C) (fun z C' => z = sSeeA B p c v ∧ MI C' h (bUp B (sSeeZ B p c v)) ∧ cP C' = cP C ∧ ∀ b, b < 145 ∨ (151 ≤ b ∧ b ≤ 177) → cI C' b = cI C b) := by
  have c4 := hB.1.2.1
  have l8 := hB.2.2.2.1.2.2.2.1
  obtain ⟨M0, t0, F0⟩ := hM.t0 hB
  generalize hC0 : uI C 145 5 0 = C0 at M0 t0 F0
  have P := M0.1.1
  have Z := M0.2.2.2.2.1
  have hh := M0.1.2.2.1.1
  have eh := M0.1.2.1
  have ecl := M0.1.2.2.1.2.1
  have e8 : cI C0 145 8 = nI (zS (bZ B)).length := Z.2.2.1
  have t2 : Int32.toNatClampNeg (2 : Int32) = 2 := by decide
  have i2 : amIn (2 : Int32) (aLen 150) = true := by decide
  have bad : sSeeB B p c v = false → ((-1 : Int32) = sSeeA B p c v ∧ MI (uI C0 150 2 (cI C0 150 2 + 1)) h (bUp B (sSeeZ B p c v)) ∧ cP (uI C0 150 2 (cI C0 150 2 + 1)) = cP C ∧ (∀ b, b < 145 ∨ (151 ≤ b ∧ b ≤ 177) → cI (uI C0 150 2 (cI C0 150 2 + 1)) b = cI C b)) := by
    intro hb
    unfold sSeeA sSeeZ
    simp only [↓reduceIte, hb, Bool.false_eq_true, if_false]
    exact ⟨trivial, M0.ref hB rfl (by omega), F0.1, fun b hb => by rw [r_In (by omega)]; exact F0.o b hb⟩
  unfold f_277
  rw [hC0]
  by_cases l : (zS (bZ B)).length = 8
  · have e8' : (cI C0 145 8 = (8 : Int32)) = True := eq_true (by rw [e8, l]; rfl)
    simp only [↓reduceIte, k_145, if_true, e8', ↓bd1 (w_145_4 P), k_150, i2, t2]
    exact rt_ret (bad (by unfold sSeeB; simp [l]))
  · have e8' : ¬ cI C0 145 8 = (8 : Int32) := by rw [e8, n_8, x_eq (by omega) (by omega)]; exact l
    rcases ix_c (N := 30) (by omega) p with ⟨np, ep⟩ | ⟨i, hi, rfl, ep⟩
    · have w1 : f_163 n p 0 (29 : Int32) C0 = some (0, C0) := m163_f (N := 30) (by omega) np
      simp only [↓reduceIte, k_145, if_true, if_false, e8', ↓bd1 w1, ↓bd1 (w_145_4 P), k_150, i2, t2]
      exact rt_ret (bad (by unfold sSeeB; rw [ep]; rfl))
    · have w1 : f_163 n (nI i) 0 (29 : Int32) C0 = some (1, C0) := m163_t (N := 30) (by omega) hi
      rcases ix_c (N := sCols (bS B)) (by omega) c with ⟨nc, ec⟩ | ⟨j, hj, rfl, ec⟩
      · have w2 : f_163 n c 0 (cI C0 159 (Int32.toNatClampNeg (cI C0 145 40)) - 1) C0 = some (0, C0) := by
          rw [eh, x_cl (by omega), ecl]
          exact m163_f (by omega) nc
        have a1 : amIn (cI C0 145 40) (aLen 159) = true := by rw [eh, l_159, x_in (by omega)]; exact hh
        simp only [↓reduceIte, k_145, if_true, if_false, e8', ↓bd1 w1, n10f, ↓bd1 (w_145_21 P), k_159, a1, ↓bd1 w2, ↓bd1 (w_145_4 P), k_150, i2, t2]
        exact rt_ret (bad (by unfold sSeeB; rw [ep, ec]; rfl))
      · have w2 : f_163 n (nI j) 0 (cI C0 159 (Int32.toNatClampNeg (cI C0 145 40)) - 1) C0 = some (1, C0) := by
          rw [eh, x_cl (by omega), ecl]
          exact m163_t (by omega) hj
        have a1 : amIn (cI C0 145 40) (aLen 159) = true := by rw [eh, l_159, x_in (by omega)]; exact hh
        have l16 : (zS (bZ B)).length < 16 := by omega
        have P1 : ∀ x, PInv (uI C0 147 (zS (bZ B)).length x) := fun x => P.of rfl
        have P2 : ∀ x y, PInv (uI (uI C0 147 (zS (bZ B)).length x) 148 (zS (bZ B)).length y) := fun x y => P.of rfl
        have e1 : ∀ x, cI (uI C0 147 (zS (bZ B)).length x) 145 8 = nI (zS (bZ B)).length := fun x => by rw [r_In (by decide)]; exact e8
        have e2 : ∀ x y, cI (uI (uI C0 147 (zS (bZ B)).length x) 148 (zS (bZ B)).length y) 145 8 = nI (zS (bZ B)).length := fun x y => by rw [r_In (by decide), r_In (by decide)]; exact e8
        have e3 : ∀ x y z, cI (uI (uI (uI C0 147 (zS (bZ B)).length x) 148 (zS (bZ B)).length y) 149 (zS (bZ B)).length z) 145 8 = nI (zS (bZ B)).length := fun x y z => by rw [r_In (by decide), r_In (by decide), r_In (by decide)]; exact e8
        have good : sSeeB B (nI i) (nI j) v = true → (cI (uI (uI (uI (uI C0 147 (zS (bZ B)).length (nI i)) 148 (zS (bZ B)).length (nI j)) 149 (zS (bZ B)).length v) 145 8 (nI ((zS (bZ B)).length + 1))) 145 8 = sSeeA B (nI i) (nI j) v ∧ MI (uI (uI (uI (uI C0 147 (zS (bZ B)).length (nI i)) 148 (zS (bZ B)).length (nI j)) 149 (zS (bZ B)).length v) 145 8 (nI ((zS (bZ B)).length + 1))) h (bUp B (sSeeZ B (nI i) (nI j) v)) ∧ cP (uI (uI (uI (uI C0 147 (zS (bZ B)).length (nI i)) 148 (zS (bZ B)).length (nI j)) 149 (zS (bZ B)).length v) 145 8 (nI ((zS (bZ B)).length + 1))) = cP C ∧ (∀ b, b < 145 ∨ (151 ≤ b ∧ b ≤ 177) → cI (uI (uI (uI (uI C0 147 (zS (bZ B)).length (nI i)) 148 (zS (bZ B)).length (nI j)) 149 (zS (bZ B)).length v) 145 8 (nI ((zS (bZ B)).length + 1))) b = cI C b)) := by
          intro hb
          have F : Fr (fun b => b = 145 ∨ b = 147 ∨ b = 148 ∨ b = 149) C0 (uI (uI (uI (uI C0 147 (zS (bZ B)).length (nI i)) 148 (zS (bZ B)).length (nI j)) 149 (zS (bZ B)).length v) 145 8 (nI ((zS (bZ B)).length + 1))) := ((((Fr.refl _ C0).uI (by omega)).uI (by omega)).uI (by omega)).uI (by omega)
          have e := F.2.1
          unfold sSeeA sSeeZ
          simp only [↓reduceIte, hb, if_true]
          rw [x_cl (by omega), x_cl (by omega)]
          refine ⟨by rw [r_I, if_pos ⟨rfl, rfl⟩], ?_, F0.1, fun b hb => by rw [e b (by omega)]; exact F0.o b hb⟩
          refine M0.up hB rfl (fun b z1 z2 => e b (by omega)) (fun j z1 z2 => by rw [r_I, if_neg (by omega), r_In (by decide), r_In (by decide), r_In (by decide)]) (fun j _ => by rw [e 146 (by omega)]) (fun j hj => ⟨?_, ?_, ?_⟩) (fun j _ => by rw [e 150 (by omega)]) (StaM.see (q := (i, j, v)) c4 Z)
          · rw [r_In (by decide), r_In (by decide), r_In (by decide), r_I, if_neg (by omega)]
          · rw [r_In (by decide), r_In (by decide), r_I, if_neg (by omega), r_In (by decide)]
          · rw [r_In (by decide), r_I, if_neg (by omega), r_In (by decide), r_In (by decide)]
        have l7 : (zS (bZ B)).length < 8 := by omega
        by_cases dv : v = -100000
        · have dv' : (v = -100000) = True := eq_true dv
          have O := good (by unfold sSeeB; rw [ep, ec]; simp [dv, l7])
          simp only [↓reduceIte, k_145, if_true, if_false, e8', ↓bd1 w1, n10f, ↓bd1 (w_145_21 P), k_159, a1, ↓bd1 w2, dv']
          simp (disch := omega) only [↓reduceIte, k_145, if_true, ↓bd1 (w_145_1 P), k_147, l_147, e8, x_in, x_cl, l16, ↓bd1 (w_145_2 (P1 (nI i))), k_148, l_148, e1, ↓bd1 (w_145_3 (P2 (nI i) (nI j))), k_149, l_149, e2, e3, x_a1]
          exact rt_ret O
        · rcases bcs (inR v) with r | r
          · have w3 := m163 (n := n) (C := C0) (x := v)
            rw [r] at w3
            have w3 : f_163 n v (-9999) 9999 C0 = some (0, C0) := w3
            simp only [↓reduceIte, k_145, if_true, if_false, e8', ↓bd1 w1, n10f, ↓bd1 (w_145_21 P), k_159, a1, ↓bd1 w2, dv, ↓bd1 w3, not_true, ↓bd1 (w_145_4 P), k_150, i2, t2]
            exact rt_ret (bad (by unfold sSeeB; rw [ep, ec, r]; simp [dv]))
          · have w3 := m163 (n := n) (C := C0) (x := v)
            rw [r] at w3
            have w3 : f_163 n v (-9999) 9999 C0 = some (1, C0) := w3
            have O := good (by unfold sSeeB; rw [ep, ec, r]; simp [l7])
            simp only [↓reduceIte, k_145, if_true, if_false, e8', ↓bd1 w1, n10f, ↓bd1 (w_145_21 P), k_159, a1, ↓bd1 w2, dv, ↓bd1 w3, not_false_iff]
            simp (disch := omega) only [↓reduceIte, k_145, if_true, ↓bd1 (w_145_1 P), k_147, l_147, e8, x_in, x_cl, l16, ↓bd1 (w_145_2 (P1 (nI i))), k_148, l_148, e1, ↓bd1 (w_145_3 (P2 (nI i) (nI j))), k_149, l_149, e2, e3, x_a1]
            exact rt_ret O
end
