/-! The class's cursor is narrowed. -/
def rgB (c : Nat) (q : Tst) (x : Int32) : Bool := match rgT c q with
  | none => true
  | some (sg, b) => sSo x sg b
theorem rgB_n {c : Nat} {q : Tst} {x : Int32} (h : rgT c q = none) : rgB c q x = true := by unfold rgB; rw [h]
theorem rgB_s {c : Nat} {q : Tst} {x sg b : Int32} (h : rgT c q = some (sg, b)) : rgB c q x = sSo x sg b := by unfold rgB; rw [h]
theorem rgT_l {c : Nat} {q : Tst} (h : ¬ (q.1.length = 1 ∧ q.2.2.length = 1)) : rgT c q = none := by
  unfold rgT
  obtain ⟨v, sg, w⟩ := q
  match v, w with
  | [], _ => rfl
  | [a], [] => rfl
  | [a], [b] => exact absurd ⟨rfl, rfl⟩ h
  | [a], b :: b' :: w => rfl
  | a :: a' :: v, _ => rfl
theorem rgT_1 {c : Nat} {q : Tst} {a d : Atom} (h1 : q.1 = [a]) (h2 : q.2.2 = [d]) : rgT c q = if a.2.1 = 1 ∧ a.2.2 = nI c ∧ d.2.1 = 0 then some (q.2.1, d.2.2) else none := by
  unfold rgT
  rw [h1, h2]
theorem len1 {v : Val} (h : v.length = 1) : ∃ a, v = [a] := List.length_eq_one_iff.mp h
theorem c3 {n : Nat} {C : AmC} {a s k path : Nat} {S : Scr} {R : Int32 → Bool} {last : Option Int} {q : Tst} (hP : PInv C) (hs : s ∈ scrL) (hO : ScrOK S) (hpa : PathOK S path) (hp0 : ¬ path = 0) (ha : isK a 0 = true) (K : CurC C a S path R last) (v1 : VC C s k q.1) (v2 : VC C s (k + 1) q.2.2) (o1 : ValOK (sCols S) false true q.1) (o2 : q.2.1 = 60 ∨ q.2.1 = 61 ∨ q.2.1 = 62) (o3 : ValOK (sCols S) false true q.2.2) : Rt (f_3 n a s (nI k) q.2.1 C) (fun _ C' => CurC C' a S path (fun x => R x && rgB (ix1 S ((path - 1) / 2)) q x) last ∧ Fr (fun b => b = a) C C') := by
  have h := sc_of hP hs
  have h4 := hO.2.1
  have hk := v2.lt
  obtain ⟨a1, l1, t1, c1, d1⟩ := vc_at h v1
  obtain ⟨a2, l2, t2, c2, d2⟩ := vc_at h v2
  have p1 : 0 < q.1.length := List.length_pos_iff.mpr o1.1
  have p2 : 0 < q.2.2.length := List.length_pos_iff.mpr o3.1
  have w1 : f_101 n s (nI k) 0 C = some (nI a1, C) := by have := d1 n 0 (by omega); rw [if_pos p1, x_0] at this; exact this
  have w2 : f_101 n s (nI k + 1) 0 C = some (nI a2, C) := by have := d2 n 0 (by omega); rw [if_pos p2, x_0, ← x_a1] at this; exact this
  have w3 := c1 n
  have w4 : f_100 n s (nI k + 1) C = some (nI q.2.2.length, C) := by rw [x_a1]; exact c2 n
  have m1 : ¬ nI a1 = (-1 : Int32) := by rw [x_eqm (by omega)]; exact id
  have m2 : ¬ nI a2 = (-1 : Int32) := by rw [x_eqm (by omega)]; exact id
  have keep : rgT (ix1 S ((path - 1) / 2)) q = none → Rt (some ((), C)) (fun _ C' => CurC C' a S path (fun x => R x && rgB (ix1 S ((path - 1) / 2)) q x) last ∧ Fr (fun b => b = a) C C') := fun e => by
    refine rt_ret ⟨⟨K.1, K.2.1, K.2.2.1, fun e0 x hx => ?_, K.2.2.2.2⟩, Fr.refl _ _⟩
    simp only [rgB_n e, Bool.and_true]
    exact K.2.2.2.1 e0 x hx
  unfold f_3
  by_cases g1 : q.1.length = 1
  · by_cases g2 : q.2.2.length = 1
    · obtain ⟨b1, e1⟩ := len1 g1
      obtain ⟨b2, e2⟩ := len1 g2
      have y1 := t1 0 p1
      have y2 := t2 0 p2
      simp only [Nat.add_zero, e1, e2, List.getElem_cons_zero] at y1 y2
      obtain ⟨y11, y12, y13⟩ := y1
      obtain ⟨y21, y22, y23⟩ := y2
      have ok1 := (o1.2.2 b1 (by rw [e1]; exact List.mem_cons_self)).1
      have ok2 := (o3.2.2 b2 (by rw [e2]; exact List.mem_cons_self)).1
      have k1 : b1.2.1 ≤ 6 := by rcases ok1.2 with ⟨z, _⟩ | ⟨_, z, _⟩ <;> omega
      have k2 : b2.2.1 ≤ 6 := by rcases ok2.2 with ⟨z, _⟩ | ⟨_, z, _⟩ <;> omega
      have K1 := kC_ne b1.2.1 k1
      have K2 := kC_ne b2.2.1 k2
      have i1 : a1 < 450 := by omega
      have i2 : a2 < 450 := by omega
      rw [g1] at w3
      rw [g2] at w4
      have r := rgT_1 (c := ix1 S ((path - 1) / 2)) e1 e2
      have n1 : nI 1 = (1 : Int32) := rfl
      rw [n1] at w3 w4
      have K0 := K.1
      rw [if_neg hp0] at K0
      by_cases q1 : b1.2.1 = 1
      · by_cases q2 : b1.2.2 = nI (ix1 S ((path - 1) / 2))
        · by_cases q3 : b2.2.1 = 0
          · rw [if_pos ⟨q1, q2, q3⟩] at r
            have okb : okN b2.2.2 := by
              rcases ok2.2 with ⟨_, z⟩ | ⟨z, _⟩
              · exact z
              · omega
            obtain ⟨z1, z2⟩ := okN_p okb
            have KR := K.2.2.2.1 hp0
            rcases o2 with s6 | s6 | s6
            · simp (disch := omega) only [↓reduceIte, h.k, if_true, if_false, ↓bd1 w1, ↓bd1 w2, ↓bd1 w3, ↓bd1 w4, m1, m2, not_true, not_false_iff, ↓bd1 h.p13, h.k11, h.l11, ↓bd1 h.p14, h.k12, h.l12, x_in, x_cl, i1, i2, y12, y13, y22, y23, K1.2.1, K2.1, ha, K0, q1, q2, q3, s6, show ¬ (60 : Int32) = 62 from by decide]
              have E : uI C a 4 (if b2.2.2 - 1 < cI C a 4 then b2.2.2 - 1 else cI C a 4) = uI (uI C a 3 (cI C a 3)) a 4 (if b2.2.2 - 1 < cI C a 4 then b2.2.2 - 1 else cI C a 4) := by rw [uI_self]
              rw [E]
              refine rt_ret ⟨cur_sub K (fun x hx => ?_), ((Fr.refl (fun b => b = a) C).uI (a := a) rfl).uI (a := a) rfl⟩
              rw [rgB_s r, ← KR x hx, s6]
              simp only [↓reduceIte, sSo, if_true]
              rw [Bool.eq_iff_iff]
              simp only [Bool.and_eq_true, decide_eq_true_eq, Int32.le_iff_toInt_le, Int32.lt_iff_toInt_lt]
              split <;> omega
            · simp (disch := omega) only [↓reduceIte, h.k, if_true, if_false, ↓bd1 w1, ↓bd1 w2, ↓bd1 w3, ↓bd1 w4, m1, m2, not_true, not_false_iff, ↓bd1 h.p13, h.k11, h.l11, ↓bd1 h.p14, h.k12, h.l12, x_in, x_cl, i1, i2, y12, y13, y22, y23, K1.2.1, K2.1, ha, K0, q1, q2, q3, s6, show ¬ (61 : Int32) = 62 from by decide, show ¬ (61 : Int32) = 60 from by decide]
              refine rt_ret ⟨cur_sub K (fun x hx => ?_), ((Fr.refl (fun b => b = a) C).uI (a := a) rfl).uI (a := a) rfl⟩
              rw [rgB_s r, ← KR x hx, s6]
              rw [r_I]
              simp only [↓reduceIte, sSo, show ¬ (61 : Int32) = 62 from by decide, show ¬ (61 : Int32) = 60 from by decide, if_false, show ¬ (4 : Nat) = 3 from by decide, and_false]
              rw [Bool.eq_iff_iff]
              simp only [Bool.and_eq_true, decide_eq_true_eq, Int32.le_iff_toInt_le, Int32.lt_iff_toInt_lt, i_eqT x]
              split <;> split <;> omega
            · simp (disch := omega) only [↓reduceIte, h.k, if_true, if_false, ↓bd1 w1, ↓bd1 w2, ↓bd1 w3, ↓bd1 w4, m1, m2, not_true, not_false_iff, ↓bd1 h.p13, h.k11, h.l11, ↓bd1 h.p14, h.k12, h.l12, x_in, x_cl, i1, i2, y12, y13, y22, y23, K1.2.1, K2.1, ha, K0, q1, q2, q3, s6, show ¬ (62 : Int32) = 60 from by decide]
              have E : ∀ v, uI C a 3 v = uI (uI C a 3 v) a 4 (cI C a 4) := fun v => by
                have := uI_self (uI C a 3 v) a 4
                rw [r_I] at this
                simp only [↓reduceIte, show ¬ (4 : Nat) = 3 from by decide, and_false, if_false] at this
                exact this.symm
              rw [E]
              refine rt_ret ⟨cur_sub K (fun x hx => ?_), ((Fr.refl (fun b => b = a) C).uI (a := a) rfl).uI (a := a) rfl⟩
              rw [rgB_s r, ← KR x hx, s6]
              simp only [↓reduceIte, sSo, show ¬ (62 : Int32) = 60 from by decide, if_false, if_true]
              rw [Bool.eq_iff_iff]
              simp only [Bool.and_eq_true, decide_eq_true_eq, Int32.le_iff_toInt_le, Int32.lt_iff_toInt_lt]
              split <;> omega
          · rw [if_neg (fun z => q3 z.2.2)] at r
            simp (disch := omega) only [↓reduceIte, h.k, if_true, if_false, ↓bd1 w1, ↓bd1 w2, ↓bd1 w3, ↓bd1 w4, m1, m2, not_true, not_false_iff, ↓bd1 h.p13, h.k11, h.l11, ↓bd1 h.p14, h.k12, h.l12, x_in, x_cl, i1, i2, y12, y13, y22, y23, K1.2.1, K2.1, ha, K0, q1, q2, q3]
            exact keep r
        · rw [if_neg (fun z => q2 z.2.1)] at r
          simp (disch := omega) only [↓reduceIte, h.k, if_true, if_false, ↓bd1 w1, ↓bd1 w2, ↓bd1 w3, ↓bd1 w4, m1, m2, not_true, not_false_iff, ↓bd1 h.p13, h.k11, h.l11, ↓bd1 h.p14, h.k12, h.l12, x_in, x_cl, i1, i2, y12, y13, y22, y23, K1.2.1, K2.1, ha, K0, q1, q2]
          exact keep r
      · rw [if_neg (fun z => q1 z.1)] at r
        simp (disch := omega) only [↓reduceIte, h.k, if_true, if_false, ↓bd1 w1, ↓bd1 w2, ↓bd1 w3, ↓bd1 w4, m1, m2, not_true, not_false_iff, ↓bd1 h.p13, h.k11, h.l11, ↓bd1 h.p14, h.k12, h.l12, x_in, x_cl, i1, i2, y12, y13, y22, y23, K1.2.1, K2.1, ha, K0, q1]
        exact keep r
    · have m3 : ¬ nI q.2.2.length = (1 : Int32) := by rw [x_eq1 (by omega)]; exact g2
      have n1 : nI 1 = (1 : Int32) := rfl
      rw [g1, n1] at w3
      simp only [↓reduceIte, h.k, if_true, if_false, ↓bd1 w1, ↓bd1 w2, ↓bd1 w3, ↓bd1 w4, m1, m2, m3, not_true]
      exact keep (rgT_l (fun z => g2 z.2))
  · have m3 : ¬ nI q.1.length = (1 : Int32) := by rw [x_eq1 (by omega)]; exact g1
    simp only [↓reduceIte, h.k, if_true, if_false, ↓bd1 w1, ↓bd1 w2, ↓bd1 w3, m1, m2, m3, not_false_iff]
    exact keep (rgT_l (fun z => g1 z.1))
theorem c2_lp {C0 : AmC} {a s path f N : Nat} {S : Scr} {last : Option Int} (hP : PInv C0) (hs : s ∈ scrL) (hO : ScrOK S) (hpa : PathOK S path) (hp0 : ¬ path = 0) (ha : isK a 0 = true) (ha2 : 82 ≤ a) (hN : f + N ≤ 450) : ∀ (l : List Tst) (j n : Nat) (C : AmC) (R : Int32 → Bool), Fr (fun b => b = a) C0 C → CurC C a S path R last → (∀ i (g : i < l.length), ∃ k, cI C0 (s + 14) (j + i) = l[i].2.1 ∧ cI C0 (s + 15) (j + i) = nI k ∧ VC C0 s k l[i].1 ∧ VC C0 s (k + 1) l[i].2.2) → (∀ q ∈ l, ValOK (sCols S) false true q.1 ∧ (q.2.1 = 60 ∨ q.2.1 = 61 ∨ q.2.1 = 62) ∧ ValOK (sCols S) false true q.2.2) → l.length < n → f + N = j + l.length → Rt (lp_2_22 n a s (nI (f + N)) (nI j) C) (fun _ C' => CurC C' a S path (fun x => R x && l.all (fun q => rgB (ix1 S ((path - 1) / 2)) q x)) last ∧ Fr (fun b => b = a) C0 C') := by
  intro l
  induction l with
  | nil =>
    intro j n C R hF K _ _ hn hj
    obtain ⟨n, rfl⟩ : ∃ m, n = m + 1 := ⟨n - 1, by omega⟩
    simp only [List.length_nil, Nat.add_zero] at hj
    have h1 : f + N ≤ j := by omega
    simp (disch := omega) only [↓reduceIte, lp_2_22, x_le, h1, if_true]
    refine rt_ret ⟨?_, hF⟩
    simpa using K
  | cons q l ih =>
    intro j n C R hF K hat hok hn hj
    obtain ⟨n, rfl⟩ : ∃ m, n = m + 1 := ⟨n - 1, by omega⟩
    simp only [List.length_cons] at hj hn
    have h1 : ¬ f + N ≤ j := by omega
    have hj4 : j < 450 := by omega
    have hb := hat 0 (by simp)
    simp only [Nat.add_zero, List.getElem_cons_zero] at hb
    obtain ⟨k, b1, b2, b3, b4⟩ := hb
    obtain ⟨o1, o2, o3⟩ := hok q List.mem_cons_self
    have hP1 := hP.of hF.1
    have h := sc_of hP1 hs
    obtain ⟨s1, s2⟩ := scr_lt hs
    have fr : ∀ b, s ≤ b → b < s + 16 → cI C b = cI C0 b := fun b g1 g2 => hF.2.1 b (by omega)
    rw [← fr (s + 14) (by omega) (by omega)] at b1
    rw [← fr (s + 15) (by omega) (by omega)] at b2
    simp (disch := omega) only [↓reduceIte, lp_2_22, x_le, h1, h.k, if_true, if_false, ↓bd1 h.p19, h.k15, h.l15, ↓bd1 h.p18, h.k14, h.l14, x_in, x_cl, hj4, ha, b1, b2, x_a1]
    refine rt_bind (rt_mono (c3 (n := n) hP1 hs hO hpa hp0 ha K (b3.of fr) (b4.of fr) o1 o2 o3) (fun _ C1 H => ?_))
    dsimp only
    refine rt_mono (ih (j + 1) n C1 _ (hF.trans H.2) H.1 (fun i g => by
      have := hat (i + 1) (by simpa using g)
      simpa [Nat.add_assoc, Nat.add_comm 1 i] using this) (fun b hb => hok b (List.mem_cons_of_mem _ hb)) (by omega) (by omega)) (fun _ C2 H2 => ⟨?_, H2.2⟩)
    simpa [Bool.and_assoc] using H2.1
theorem c2 {n : Nat} {C : AmC} {a s st path : Nat} {S : Scr} {t : Stm} (hP : PInv C) (hs : s ∈ scrL) (hS : ScrC C s S) (hO : ScrOK S) (hpa : PathOK S path) (ha : isK a 0 = true) (ha2 : 82 ≤ a) (hst : isK st 8 = true) (hst2 : st < 82) (ht : StmC (sCols S) C s st t) (hto : StmOK (sCols S) t) (h3 : ¬ tKd t = 3) (hn : 500 ≤ n) : Rt (f_2 n a s st (nI path) C) (fun _ C' => CurC C' a S path (rgX S (some t) path none) none ∧ Fr (fun b => b = a) C C') := by
  have h4 := hO.2.1
  have F := c1_fr C a S path
  have K := c1_cur C a S path
  obtain ⟨f, e1, e2, h1, h2⟩ := ht.2.2.2.2.2.2.2
  unfold f_2
  rw [if_pos ha, bd1 (c1 hP hs hS hO hpa ha ha2)]
  dsimp only
  rw [K.1]
  by_cases e : path = 0
  · rw [if_pos e]
    simp only [↓reduceIte, not_true, if_false]
    exact rt_ret ⟨⟨K.1, K.2.1, K.2.2.1, fun z => absurd e z, K.2.2.2.2⟩, F⟩
  · have hi := hpa.ix e
    have g1 := (ix_lt hO hi).1
    have em : ¬ nI (ix1 S ((path - 1) / 2)) = (-1 : Int32) := by rw [x_eqm (by omega)]; exact id
    have f1 : cI (c1C C a S path) st = cI C st := F.2.1 st (by omega)
    have q1 : ¬ 450 < f + (tTst t).length := by omega
    simp (disch := omega) only [e, if_false, em, not_false_iff, if_true, hst, f1, e1, e2, ↓reduceIte, n_2, n_3, n_4, n_5, n_6, n_7, n_8, n_10, n_12, n_20, n_30, n_40, n_100, n_120, n_150, n_200, n_230, n_320, n_450, n_900, x_le, x_lt, x_eq, x_lt0, x_le0, x_0le, x_0lt, x_eq0, x_eq1, x_1lt, x_le1, x_lt1, x_1le, x_eqm, x_add, x_a1, x_1a, x_a0, x_0a, x_mul, x_sub, x_s1, x_1s, x_div, x_cl, x_cl0, x_cl1, x_in, x_in0, x_in1, x_ofNat, q1]
    refine rt_bind (rt_mono (c2_lp (N := (tTst t).length) (f := f) hP hs hO hpa e ha ha2 h1 (tTst t) f n _ _ F K h2 hto.2.2.2.2.2.2.2.2.2.2.2.2.2 (by omega) rfl) (fun _ C2 H => ?_))
    refine rt_ret ⟨⟨H.1.1, H.1.2.1, H.1.2.2.1, fun e0 x hx => ?_, H.1.2.2.2.2⟩, H.2⟩
    rw [H.1.2.2.2.1 e0 x hx]
    simp only [↓reduceIte, Bool.true_and, rgX, h3, if_false]
    rfl
