/-! The reference reads a value. -/
def WA (h A b j : Nat) : Prop := W0 b j ∨ (151 ≤ b ∧ b ≤ 153 ∧ 460 * h + A ≤ j ∧ j < 460 * h + 460) ∨ (b = 164 ∧ j = h)
def WV (h A V b j : Nat) : Prop := WA h A b j ∨ ((b = 154 ∨ b = 155) ∧ 320 * h + V ≤ j ∧ j < 320 * h + 320) ∨ (b = 165 ∧ j = h)
theorem FrZ.a {C C' : AmC} {h A : Nat} (F : FrZ W0 C C') : FrZ (WA h A) C C' := F.mono (fun _ _ z => Or.inl z)
theorem FrZ.v {C C' : AmC} {h A V : Nat} (F : FrZ (WA h A) C C') : FrZ (WV h A V) C C' := F.mono (fun _ _ z => Or.inl z)
theorem n_460 : (460 : Int32) = nI 460 := rfl
theorem n_43 : (43 : Int32) = nI 43 := rfl
section
variable {n h i j N A V cols : Nat} {C C' : AmC} {x : Nat → Nat} {oth col : Bool}
theorem m177 {a b c : Int32} (hp : Pm C h x N j) (hA : cI C 164 h = nI A) (A4 : A < 460) : Rt (f_177 n 145 a b c C) (fun _ C' => FrZ (WA h A) C C' ∧ Pm C' h x N j ∧ (cI C' 151 (460 * h + A) = a ∧ cI C' 152 (460 * h + A) = b ∧ cI C' 153 (460 * h + A) = c) ∧ cI C' 164 h = nI (A + 1)) := by
  have P := hp.1
  have hh := hp.2.1
  have e41 := hp.2.2.1
  unfold f_177
  have k9 : 460 * h + A < 920 := by omega
  rw [if_pos k_145, if_pos hp.2.2.2.2.2.1, bd1 (w_145_26 P), if_pos k_164, e41, l_164, if_pos ((x_in (by omega)).mpr hh), x_cl (by omega), hA, n_460, x_mul, x_add, bd1 (w_145_13 P), if_pos k_151, l_151, if_pos ((x_in (by omega)).mpr k9), x_cl (by omega)]
  rw [bd1 (show cP (uI C 151 (460 * h + A) a) 145 14 = some 152 from w_145_14 P), if_pos k_152, l_152, if_pos ((x_in (by omega)).mpr k9)]
  rw [bd1 (show cP (uI (uI C 151 (460 * h + A) a) 152 (460 * h + A) b) 145 15 = some 153 from w_145_15 P), if_pos k_153, l_153, if_pos ((x_in (by omega)).mpr k9)]
  rw [bd1 (show cP (uI (uI (uI C 151 (460 * h + A) a) 152 (460 * h + A) b) 153 (460 * h + A) c) 145 26 = some 164 from w_145_26 P), if_pos k_164]
  have e41' : cI (uI (uI (uI C 151 (460 * h + A) a) 152 (460 * h + A) b) 153 (460 * h + A) c) 145 41 = nI h := by rw [r_In (by omega), r_In (by omega), r_In (by omega)]; exact e41
  have hA' : cI (uI (uI (uI C 151 (460 * h + A) a) 152 (460 * h + A) b) 153 (460 * h + A) c) 164 h = nI A := by rw [r_In (by omega), r_In (by omega), r_In (by omega)]; exact hA
  rw [e41', l_164, if_pos ((x_in (by omega)).mpr hh), if_pos ((x_in (by omega)).mpr hh), x_cl (by omega), hA', x_a1]
  refine rt_ret ⟨?_, ?_, ⟨?_, ?_, ?_⟩, ?_⟩
  · exact ((((FrZ.refl C).u (by unfold WA W0; omega)).u (by unfold WA W0; omega)).u (by unfold WA W0; omega)).u (by unfold WA W0; omega)
  · exact hp.of rfl (fun j _ _ => by rw [r_In (by omega), r_In (by omega), r_In (by omega), r_In (by omega)]) (by rw [r_In (by omega), r_In (by omega), r_In (by omega), r_In (by omega)])
  · rw [r_In (by omega), r_In (by omega), r_In (by omega), r_I, if_pos ⟨rfl, rfl⟩]
  · rw [r_In (by omega), r_In (by omega), r_I, if_pos ⟨rfl, rfl⟩]
  · rw [r_In (by omega), r_I, if_pos ⟨rfl, rfl⟩]
  · rw [r_I, if_pos ⟨rfl, rfl⟩]
def QA (C' : AmC) (h A : Nat) (sg : Int32) (a : Nat × Int32) : Prop := AtM C' (460 * h + A) (sg, a.1, a.2) ∧ cI C' 164 h = nI (A + 1)
def RA (h A : Nat) (x : Nat → Nat) (N : Nat) (sg : Int32) (C : AmC) (r : PE (Nat × Int32)) (C' : AmC) : Prop := FrZ (WA h A) C C' ∧ PRm C' h x N r (fun a _ => QA C' h A sg a)
theorem RA.pre {sg : Int32} {C1 : AmC} {r : PE (Nat × Int32)} (F : FrZ W0 C C1) (H : RA h A x N sg C1 r C') : RA h A x N sg C r C' := ⟨F.a.trans H.1, H.2⟩
theorem mCA {kd : Nat} {sg kv : Int32} (hn : 1100 ≤ n) (hp : Pm C h x N i) (hc : cI C 159 h = nI cols) (h4 : cols ≤ 4) (hA : cI C 164 h = nI A) (A4 : A < 460) (ek : kv = nI kd) : Rt ((f_176 n 145 C).bind (fun z => match z with | (q34, C35) => (f_177 n 145 sg kv q34 C35).bind (fun z => match z with | (_, C38) => some ((), C38)))) (fun _ C' => RA h A x N sg C (spM kd (spC x N cols i)) C') := by
  have hh := hp.2.1
  refine rt_bind (rt_mono (m176 hn hp hc h4) (fun z D H => ?_))
  obtain ⟨F, ⟨k, j, er, fl⟩ | ⟨c, j, er, p, rfl⟩⟩ := H
  · dsimp only
    rw [bd1 (b177 fl.bd)]
    exact rt_ret ⟨F.a, Or.inl ⟨k, j, by rw [er]; rfl, fl⟩⟩
  · dsimp only
    refine rt_bind (rt_mono (m177 (A := A) p (by rw [F.2 164 h (by unfold W0; omega)]; exact hA) A4) (fun _ D2 H => ?_))
    obtain ⟨F2, p2, ⟨q1, q2, q3⟩, q4⟩ := H
    exact rt_ret ⟨F.a.trans F2, Or.inr ⟨(kd, nI c), j, by rw [er]; rfl, p2, ⟨q1, by rw [q2, ek], q3⟩, q4⟩⟩
theorem mSA {sg : Int32} (hn : 1100 ≤ n) (hp : Pm C h x N i) (hA : cI C 164 h = nI A) (A4 : A < 460) : Rt ((f_174 n 145 C).bind (fun z => match z with | (q34, C35) => (f_177 n 145 sg 0 q34 C35).bind (fun z => match z with | (_, C38) => some ((), C38)))) (fun _ C' => RA h A x N sg C (spM0 (spS x N i)) C') := by
  have hh := hp.2.1
  refine rt_bind (rt_mono (m174 hn hp) (fun z D H => ?_))
  obtain ⟨F, ⟨k, j, er, fl⟩ | ⟨c, j, er, p, rfl⟩⟩ := H
  · dsimp only
    rw [bd1 (b177 fl.bd)]
    exact rt_ret ⟨F.a, Or.inl ⟨k, j, by rw [er]; rfl, fl⟩⟩
  · dsimp only
    refine rt_bind (rt_mono (m177 (A := A) p (by rw [F.2 164 h (by unfold W0; omega)]; exact hA) A4) (fun _ D2 H => ?_))
    obtain ⟨F2, p2, ⟨q1, q2, q3⟩, q4⟩ := H
    exact rt_ret ⟨F.a.trans F2, Or.inr ⟨(0, z), j, by rw [er]; rfl, p2, ⟨q1, q2, q3⟩, q4⟩⟩
theorem m163w (hp : Pm C h x N i) : f_163 n (cI C 145 50) 13 15 C = some (if 211 ≤ tK x N i ∧ tK x N i ≤ 213 then 1 else 0, C) := by
  obtain ⟨a1, a2, a3, a4, a5⟩ := at_1 hp.at
  have n13 : (13 : Int32) = nI 13 := rfl
  have n15 : (15 : Int32) = nI 15 := rfl
  unfold f_163
  by_cases g : 200 ≤ tK x N i
  · obtain ⟨k, ek⟩ : ∃ k, tK x N i = 200 + k := ⟨tK x N i - 200, by omega⟩
    obtain ⟨k1, k2⟩ := a4 k ek
    have mk := mp_lt k1
    rw [k2, n13, n15]
    by_cases l1 : mp k < 13
    · rw [if_pos ((x_lt (by omega) (by omega)).mpr l1), if_neg]
      intro z
      unfold mp at l1
      rw [if_neg (by omega), if_pos (by omega)] at l1
      omega
    · rw [if_neg (by rw [x_lt (by omega) (by omega)]; exact l1)]
      by_cases l2 : 15 < mp k
      · rw [if_pos ((x_lt (by omega) (by omega)).mpr l2), if_neg]
        intro z
        unfold mp at l2
        rw [if_neg (by omega), if_pos (by omega)] at l2
        omega
      · rw [if_neg (by rw [x_lt (by omega) (by omega)]; exact l2), if_pos]
        unfold mp at l1 l2
        split at l1
        · omega
        · split at l1
          · rw [if_neg (by omega), if_pos (by omega)] at l2
            omega
          · omega
  · rw [if_neg (show ¬ (211 ≤ tK x N i ∧ tK x N i ≤ 213) by omega)]
    by_cases e : tK x N i = 130
    · obtain ⟨b1, b2⟩ := a3 e
      rw [b2, n13, n15, if_neg (by rw [x_lt (by omega) (by omega)]; omega), if_pos ((x_lt (by omega) (by omega)).mpr (by omega))]
    · rw [a5 e g, if_pos (by decide)]
theorem mLast {sg cl : Int32} (hn : 1100 ≤ n) (hp : Pm C h x N i) (hc : cI C 159 h = nI cols) (h4 : cols ≤ 4) (hl : cl = if col = true then 1 else 0) (hA : cI C 164 h = nI A) (A4 : A < 460) (e1 : ¬ tK x N i = 202) (e2 : ¬ (211 ≤ tK x N i ∧ tK x N i ≤ 214)) (e3 : ¬ tK x N i = 45) (e4 : ¬ tK x N i = 128) (e5 : ¬ tK x N i = 129) :
    Rt ((f_175 n 145 C).bind (fun z => match z with | (q23, C24) => (f_170 n 145 q23 (1 : Int32) C24).bind (fun z => match z with | (q26, C27) => (if q26 = 0 then some ((), C27) else (f_170 n 145 cl (3 : Int32) C27).bind (fun z => match z with | (q30, C31) => (if ¬ q30 = 0 then (f_176 n 145 C31).bind (fun z => match z with | (q34, C35) => (f_177 n 145 sg (1 : Int32) q34 C35).bind (fun z => match z with | (_, C38) => some ((), C38))) else some ((), C31))))))) (fun _ C' => RA h A x N sg C (spA x N oth col cols i) C') := by
  rw [bd1 (m175 hp)]
  dsimp only
  unfold spA
  by_cases e : tK x N i = 130
  · rw [if_pos e, if_pos e, bd1 (m170t hp (by decide))]
    dsimp only
    rw [if_neg (by decide), hl]
    cases col
    · obtain ⟨q1, q2, q3⟩ := m170f (n := n) (k := 3) (v := 3) hp (by omega) rfl
      rw [if_neg (by decide), bd1 q1]
      dsimp only
      rw [if_neg (fun z => z rfl), if_neg (by decide)]
      exact rt_ret ⟨q3.a, Or.inl ⟨3, i, rfl, q2⟩⟩
    · rw [if_pos rfl, bd1 (m170t hp (by decide))]
      dsimp only
      rw [if_pos (by decide), if_pos rfl]
      exact mCA hn hp hc h4 hA A4 rfl
  · obtain ⟨q1, q2, q3⟩ := m170f (n := n) (k := 1) (v := 1) hp (by omega) rfl
    rw [if_neg e, if_neg e, bd1 q1]
    dsimp only
    rw [if_pos rfl]
    refine rt_ret ⟨q3.a, Or.inl ⟨1, i, ?_, q2⟩⟩
    rw [if_neg e1, if_neg (by omega), if_neg (by omega), if_neg (by omega), if_neg (by omega)]
    unfold spS
    rw [if_neg e3]
    unfold spN
    rw [if_neg e5, if_neg e4]
    rfl
theorem m178 {sg ot cl : Int32} (hn : 1100 ≤ n) (hp : Pm C h x N i) (hc : cI C 159 h = nI cols) (h4 : cols ≤ 4) (ho : ot = if oth = true then 1 else 0) (hl : cl = if col = true then 1 else 0) (hA : cI C 164 h = nI A) (A4 : A < 460) : Rt (f_178 n 145 sg ot cl C) (fun _ C' => RA h A x N sg C (spA x N oth col cols i) C') := by
  obtain ⟨a1, a2, a3, a4, a5⟩ := at_1 hp.at
  obtain ⟨d1, d2, d3⟩ := at_2 hp.at
  have hh := hp.2.1
  unfold f_178
  rw [if_pos k_145, if_pos hp.2.2.2.2.2.1]
  by_cases s2 : cI C 145 48 = 2
  · rw [if_pos s2]
    have er : spA x N oth col cols i = spM0 (spS x N i) := by
      have := d1.mp s2
      unfold spA
      rw [if_neg (by omega), if_neg (by omega), if_neg (by omega), if_neg (by omega), if_neg (by omega), if_neg (by omega)]
    rw [er]
    exact mSA hn hp hA A4
  · have n8 : ¬ tK x N i = 128 := fun z => s2 (d1.mpr (Or.inl z))
    have n9 : ¬ tK x N i = 129 := fun z => s2 (d1.mpr (Or.inr z))
    rw [if_neg s2, bd1 (mSg (c := 45) (v := 45) hp (by decide) rfl)]
    dsimp only
    by_cases e45 : tK x N i = 45
    · rw [if_pos e45, if_neg (by decide)]
      have er : spA x N oth col cols i = spM0 (spS x N i) := by
        unfold spA
        rw [if_neg (by omega), if_neg (by omega), if_neg (by omega), if_neg (by omega), if_neg (by omega), if_neg (by omega)]
      rw [er]
      exact mSA hn hp hA A4
    · rw [if_neg e45, if_pos rfl, bd1 (mIs (w := 14) (v := 16) hp (by omega) rfl)]
      dsimp only
      by_cases e14 : tK x N i = 200 + 14
      · rw [if_pos e14, if_neg (by decide)]
        have er : spA x N oth col cols i = .inr ((6, 0), i + 1) := by
          unfold spA
          rw [if_neg (by omega), if_neg (by omega), if_neg (by omega), if_neg (by omega), if_neg (by omega), if_pos (by omega)]
        rw [er]
        refine rt_bind (rt_mono (hp.go hn) (fun _ D H => ?_))
        dsimp only
        refine rt_bind (rt_mono (m177 (A := A) H.1 (by rw [H.2.2 164 h (by unfold W0; omega)]; exact hA) A4) (fun z D2 H2 => ?_))
        obtain ⟨F2, p2, ⟨q1, q2, q3⟩, q4⟩ := H2
        exact rt_ret ⟨H.2.a.trans F2, Or.inr ⟨(6, 0), i + 1, rfl, p2, ⟨q1, q2, q3⟩, q4⟩⟩
      · rw [if_neg e14, if_pos rfl, bd1 (mIs (w := 2) (v := 2) hp (by omega) rfl)]
        dsimp only
        by_cases e2 : tK x N i = 200 + 2
        · rw [if_pos e2, if_neg (by decide), ho]
          cases oth
          · obtain ⟨q1, q2, q3⟩ := m170f (n := n) (k := 3) (v := 3) hp (by omega) rfl
            rw [if_neg (by decide), bd1 q1]
            dsimp only
            rw [if_neg (fun z => z rfl)]
            refine rt_ret ⟨q3.a, Or.inl ⟨3, i, ?_, q2⟩⟩
            unfold spA
            rw [if_neg (by omega), if_pos e2, if_neg (by decide)]
          · rw [if_pos rfl, bd1 (m170t hp (by decide))]
            dsimp only
            rw [if_pos (by decide)]
            have er : spA x N true col cols i = spM 2 (spC x N cols (i + 1)) := by
              unfold spA
              rw [if_neg (by omega), if_pos e2, if_pos rfl]
            rw [er]
            refine rt_bind (rt_mono (hp.go hn) (fun _ D H => ?_))
            dsimp only
            exact rt_mono (mCA hn H.1 (by rw [H.2.2 159 h (by unfold W0; omega)]; exact hc) h4 (by rw [H.2.2 164 h (by unfold W0; omega)]; exact hA) A4 rfl) (fun z D2 H2 => H2.pre H.2)
        · rw [if_neg e2, if_pos rfl]
          by_cases s1 : cI C 145 48 = 1
          · rw [if_neg (fun z => z s1), bd1 (m163w (n := n) hp)]
            dsimp only
            by_cases w : 211 ≤ tK x N i ∧ tK x N i ≤ 213
            · rw [if_pos w, if_neg (by decide)]
              refine rt_bind (rt_mono (hp.go hn) (fun _ D H => ?_))
              dsimp only
              obtain ⟨k, ek⟩ : ∃ k, tK x N i = 200 + k := ⟨tK x N i - 200, by omega⟩
              obtain ⟨k1, k2⟩ := a4 k ek
              have km : mp k = k + 2 := by unfold mp; rw [if_neg (by omega), if_pos (by omega)]
              have n13 : (13 : Int32) = nI 13 := rfl
              have er : spA x N oth col cols i = spM (k - 8) (spC x N cols (i + 1)) := by
                have : k = 11 ∨ k = 12 ∨ k = 13 := by omega
                unfold spA
                rw [if_neg (by omega), if_neg (by omega)]
                rcases this with rfl | rfl | rfl
                · rw [if_pos ek]
                · rw [if_neg (by omega), if_pos ek]
                · rw [if_neg (by omega), if_neg (by omega), if_pos ek]
              rw [k2, km, n13, n_3, x_sub (by omega), x_add, er]
              exact rt_mono (mCA (kd := k - 8) hn H.1 (by rw [H.2.2 159 h (by unfold W0; omega)]; exact hc) h4 (by rw [H.2.2 164 h (by unfold W0; omega)]; exact hA) A4 (by rw [show k + 2 - 13 + 3 = k - 8 by omega])) (fun z D2 H2 => H2.pre H.2)
            · rw [if_neg w, if_pos rfl]
              exact mLast hn hp hc h4 hl hA A4 e2 (by omega) e45 n8 n9
          · rw [if_pos s1]
            have g2 : ¬ 200 ≤ tK x N i := fun z => s1 (a2 (Or.inl z))
            exact mLast hn hp hc h4 hl hA A4 e2 (by omega) e45 n8 n9
/-! a value -/
def spVl (x : Nat → Nat) (N : Nat) (oth col : Bool) (cols f j : Nat) (acc : Val) : PE Val := if isOp (tK x N j) = true then spV x N oth col cols f (tK x N j) (j + 1) acc else .inr (acc, j)
def ListM (C : AmC) (a : Nat) (v : Val) : Prop := ∀ k (h : k < v.length), AtM C (a + k) v[k]
theorem AtM.of {k : Nat} {t : Atom} (h : AtM C k t) (e1 : cI C' 151 k = cI C 151 k) (e2 : cI C' 152 k = cI C 152 k) (e3 : cI C' 153 k = cI C 153 k) : AtM C' k t := by
  unfold AtM
  rw [e1, e2, e3]
  exact h
theorem ListM.add {v : Val} {t : Atom} (hv : ListM C (460 * h + A) v) (F : FrZ (WA h (A + v.length)) C C') (ht : AtM C' (460 * h + (A + v.length)) t) : ListM C' (460 * h + A) (v ++ [t]) := by
  intro k hk
  by_cases e : k < v.length
  · rw [List.getElem_append_left e]
    exact (hv k e).of (F.2 _ _ (by unfold WA W0; omega)) (F.2 _ _ (by unfold WA W0; omega)) (F.2 _ _ (by unfold WA W0; omega))
  · have : k = v.length := by simp at hk; omega
    subst this
    rw [show 460 * h + A + v.length = 460 * h + (A + v.length) by omega]
    simpa using ht
theorem b179l {a b q : Int32} (g : Bd C) (hn : 1 ≤ n) : lp_179_11 n 145 a b q C = some ((145, q), C) := by
  obtain ⟨n, rfl⟩ : ∃ m, n = m + 1 := ⟨n - 1, by omega⟩
  rw [lp_179_11, if_pos k_145, bd1 (b172 g)]
  dsimp only
  rw [if_neg (fun z => z rfl), bd1 (b172 g)]
  dsimp only
  rw [if_neg (fun z => z rfl), bd1 (b172 g)]
  dsimp only
  rw [if_pos rfl]
theorem at_sg {K v : Nat} (g : AtT C K v) (hs : isSg K = true) : cI C 145 49 = nI K := by
  have := sg_ne hs
  rcases g with ⟨a, _⟩ | ⟨a, _⟩ | ⟨a, _⟩ | ⟨a, _⟩ | ⟨k, d, a, _⟩ | ⟨a, _⟩ | ⟨a, b, e, _⟩
  · omega
  · omega
  · omega
  · omega
  · omega
  · omega
  · exact e
def RV (h A : Nat) (x : Nat → Nat) (N : Nat) (C : AmC) (r : PE Val) (C' : AmC) : Prop := FrZ (WA h A) C C' ∧ PRm C' h x N r (fun v j => ListM C' (460 * h + A) v ∧ cI C' 164 h = nI (A + v.length) ∧ 2 * (A + v.length) ≤ ps x N j + 1)
theorem m179_lp {ot cl q : Int32} (h1c : 1 ≤ cols) (h4 : cols ≤ 4) (N9 : N ≤ 900) (ho : ot = if oth = true then 1 else 0) (hl : cl = if col = true then 1 else 0) : ∀ f j acc C n, 901 ≤ f + ps x N j → f + 1200 < n → Pm C h x N j → cI C 159 h = nI cols → cI C 164 h = nI (A + acc.length) → 2 * (A + acc.length) ≤ ps x N j + 1 → ListM C (460 * h + A) acc → Rt (lp_179_11 n 145 ot cl q C) (fun z C' => z = (145, q) ∧ RV h A x N C (spVl x N oth col cols f j acc) C') := by
  intro f
  induction f with
  | zero =>
    intro j acc C n h1
    have := ps_le (x := x) (N := N) j
    omega
  | succ f ih =>
    intro j acc C n h1 h2 hp hc hA b1 hL
    obtain ⟨n, rfl⟩ : ∃ m, n = m + 1 := ⟨n - 1, by omega⟩
    have hh := hp.2.1
    have pj := ps_le (x := x) (N := N) j
    -- a sign, an atom, and on
    have step : isSg (tK x N j) = true → isOp (tK x N j) = true → Rt ((f_169 n 145 C).bind (fun z => match z with | (_, C15) => (f_178 n 145 (cI C 145 49) ot cl C15).bind (fun z => match z with | (_, C18) => lp_179_11 n 145 ot cl q C18))) (fun z C' => z = (145, q) ∧ RV h A x N C (spVl x N oth col cols (f + 1) j acc) C') := by
      intro sg op
      have p1 : ps x N j + 1 ≤ ps x N (j + 1) := ps_1 (by have := sg_ne sg; omega)
      refine rt_bind (rt_mono (hp.go (by omega)) (fun _ D H => ?_))
      obtain ⟨pD, FD⟩ := H
      dsimp only
      rw [at_sg hp.at sg]
      refine rt_bind (rt_mono (m178 (sg := nI (tK x N j)) (A := A + acc.length) (by omega) pD (by rw [FD.2 159 h (by unfold W0; omega)]; exact hc) h4 ho hl (by rw [FD.2 164 h (by unfold W0; omega)]; exact hA) (by omega)) (fun _ D2 H => ?_))
      obtain ⟨F2, ⟨k, j2, er, fl⟩ | ⟨a, j2, er, p2, q1, q2⟩⟩ := H
      · dsimp only
        rw [b179l fl.bd (by omega)]
        refine rt_ret ⟨rfl, FD.a.trans (F2.mono (fun b j z => by unfold WA W0 at z ⊢; omega)), Or.inl ⟨k, j2, ?_, fl⟩⟩
        unfold spVl
        rw [if_pos op, spV, er]
      · obtain ⟨_, t2, _⟩ := spA_ps h1c er
        dsimp only
        have FC : FrZ (WA h (A + acc.length)) C D2 := FD.a.trans F2
        have FC' : FrZ (WA h A) C D2 := FC.mono (fun b j z => by unfold WA W0 at z ⊢; omega)
        have es : spVl x N oth col cols (f + 1) j acc = spVl x N oth col cols f j2 (acc ++ [(nI (tK x N j), a.1, a.2)]) := by
          unfold spVl
          rw [if_pos op, spV, er]
        rw [es]
        refine rt_mono (ih j2 (acc ++ [(nI (tK x N j), a.1, a.2)]) D2 n (by omega) (by omega) p2 (by rw [FC.2 159 h (by unfold WA W0; omega)]; exact hc) (by rw [q2]; simp; rfl) (by simp; omega) (hL.add FC q1)) (fun z D3 H => ⟨H.1, FC'.trans H.2.1, H.2.2⟩)
    rw [lp_179_11, if_pos k_145, bd1 (mSg (c := 43) (v := 43) hp (by decide) rfl)]
    dsimp only
    by_cases e3 : tK x N j = 43
    · rw [if_pos e3, if_pos (by decide)]
      exact step (by rw [e3]; decide) (by rw [e3]; decide)
    · rw [if_neg e3, if_neg (fun z => z rfl), bd1 (mSg (c := 45) (v := 45) hp (by decide) rfl)]
      dsimp only
      by_cases e5 : tK x N j = 45
      · rw [if_pos e5, if_pos (by decide)]
        exact step (by rw [e5]; decide) (by rw [e5]; decide)
      · rw [if_neg e5, if_neg (fun z => z rfl), bd1 (mSg (c := 42) (v := 42) hp (by decide) rfl)]
        dsimp only
        by_cases e2 : tK x N j = 42
        · rw [if_pos e2, if_neg (by decide)]
          exact step (by rw [e2]; decide) (by rw [e2]; decide)
        · rw [if_neg e2, if_pos rfl]
          refine rt_ret ⟨rfl, FrZ.refl C, Or.inr ⟨acc, j, ?_, hp, hL, hA, b1⟩⟩
          unfold spVl isOp
          rw [decide_eq_false e3, decide_eq_false e5, decide_eq_false e2]
          rfl
end
