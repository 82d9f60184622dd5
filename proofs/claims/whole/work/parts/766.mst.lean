/-! The reference reads a statement. -/
def WQ (h A V T s b j : Nat) : Prop := WV h A V b j ∨ (156 ≤ b ∧ b ≤ 158 ∧ 160 * h + T ≤ j ∧ j < 160 * h + 160) ∨ (b = 166 ∧ j = h) ∨ (170 ≤ b ∧ b ≤ 175 ∧ j = s) ∨ ((b = 176 ∨ b = 177) ∧ 4 * s ≤ j ∧ j < 4 * s + 4) ∨ (b = 163 ∧ j = h)
/-- statement s of half h is t -/
def StmL (C : AmC) (h A V T s : Nat) (t : Stm) : Prop :=
  cI C 170 s = nI (tKd t) ∧ cI C 171 s = nI (tHow t) ∧ (tKd t = 3 → cI C 172 s = nI (tOwn t) ∧ cI C 173 s = nI (tOth t)) ∧ SetM C h A V 176 (4 * s) (tSet t) ∧ SetM C h A V 177 (4 * s) (tNew t)
  ∧ ∃ f, cI C 174 s = nI f ∧ cI C 175 s = nI (tTst t).length ∧ 160 * h ≤ f ∧ f + (tTst t).length ≤ 160 * h + T ∧ TstM C h A V f (tTst t)
section
variable {n h i j N A V B U cols s T b m : Nat} {C C' : AmC} {x : Nat → Nat} {oth col : Bool}
theorem W0.q (z : W0 b j) : WQ h A V T s b j := Or.inl (Or.inl (Or.inl z))
theorem WS.q {a : Nat} (ha : a = 176 ∨ a = 177) (z : WS h A V a (4 * s) b j) : WQ h A V T s b j := by
  rcases z with z | z
  · exact Or.inl z
  · exact Or.inr (Or.inr (Or.inr (Or.inr (Or.inl (by omega)))))
theorem WM.q (z : WM h A V s b j) : WQ h A V T s b j := by
  rcases z with z | z | z
  · exact Or.inl z
  · exact Or.inr (Or.inr (Or.inr (Or.inl (by omega))))
  · exact Or.inr (Or.inr (Or.inr (Or.inr (Or.inl z))))
theorem WX.q (z : WX h A V T s b j) : WQ h A V T s b j := by
  rcases z with z | z | z | z
  · exact Or.inl z
  · exact Or.inr (Or.inl z)
  · exact Or.inr (Or.inr (Or.inl z))
  · exact Or.inr (Or.inr (Or.inr (Or.inl (by omega))))
theorem WQ.le {T2 : Nat} (hA : A ≤ B) (hV : V ≤ U) (hT : T ≤ T2) (z : WQ h B U T2 s b j) : WQ h A V T s b j := by
  rcases z with z | z | z | z | z | z
  · exact Or.inl (WV.le hA hV z)
  · exact Or.inr (Or.inl (by omega))
  · exact Or.inr (Or.inr (Or.inl z))
  · exact Or.inr (Or.inr (Or.inr (Or.inl z)))
  · exact Or.inr (Or.inr (Or.inr (Or.inr (Or.inl z))))
  · exact Or.inr (Or.inr (Or.inr (Or.inr (Or.inr z))))
def WL (s b j : Nat) : Prop := (b = 176 ∨ b = 177) ∧ 4 * s ≤ j ∧ j < 4 * s + 4
theorem m183_l (s16 : s < 16) : ∀ k j n C, j + k = 4 → k < n → PInv C → Rt (lp_183_60 n 145 (nI s) (nI j) C) (fun z C' => z = (145, nI s) ∧ FrZ (WL s) C C' ∧ (∀ c, c < j → cI C' 176 (4 * s + c) = cI C 176 (4 * s + c) ∧ cI C' 177 (4 * s + c) = cI C 177 (4 * s + c)) ∧ ∀ c, j ≤ c → c < 4 → cI C' 176 (4 * s + c) = -1 ∧ cI C' 177 (4 * s + c) = -1) := by
  intro k
  induction k with
  | zero =>
    intro j n C h1 h2 P
    obtain ⟨n, rfl⟩ : ∃ m, n = m + 1 := ⟨n - 1, by omega⟩
    rw [lp_183_60, n_4, if_pos ((x_le (by omega) (by omega)).mpr (by omega))]
    exact rt_ret ⟨rfl, FrZ.refl C, fun _ _ => ⟨rfl, rfl⟩, fun c z1 z2 => by omega⟩
  | succ k ih =>
    intro j n C h1 h2 P
    obtain ⟨n, rfl⟩ : ∃ m, n = m + 1 := ⟨n - 1, by omega⟩
    rw [lp_183_60, n_4, if_neg (by rw [x_le (by omega) (by omega)]; omega), if_pos k_145, bd1 (w_145_38 P), if_pos k_176, x_mul, x_add, l_176, if_pos ((x_in (by omega)).mpr (by omega)), x_cl (by omega), bd1 (show cP (uI C 176 (4 * s + j) (-1)) 145 39 = some 177 by rw [p_I]; exact w_145_39 P), if_pos k_177, l_177, if_pos ((x_in (by omega)).mpr (by omega)), x_a1]
    have F1 : FrZ (WL s) C (uI (uI C 176 (4 * s + j) (-1)) 177 (4 * s + j) (-1)) := ((FrZ.refl C).u (by unfold WL; omega)).u (by unfold WL; omega)
    refine rt_mono (ih (j + 1) n _ (by omega) (by omega) (P.of F1.1)) (fun z D H => ?_)
    obtain ⟨H1, H2, H3, H4⟩ := H
    refine ⟨H1, F1.trans H2, fun c hc => ?_, fun c z1 z2 => ?_⟩
    · rw [(H3 c (by omega)).1, (H3 c (by omega)).2, r_In (by omega), r_I, if_neg (by omega), r_I, if_neg (by omega), r_In (by omega)]
      exact ⟨rfl, rfl⟩
    · by_cases e : c = j
      · subst e
        rw [(H3 c (by omega)).1, (H3 c (by omega)).2, r_In (by omega), r_I, if_pos ⟨rfl, rfl⟩, r_I, if_pos ⟨rfl, rfl⟩]
        exact ⟨rfl, rfl⟩
      · exact H4 c (by omega) z2
theorem b182f {s : Int32} (g : Bd C) : f_182 n 145 s C = some ((), C) := by
  unfold f_182
  rw [if_pos k_145, bd1 (b171 g)]
  dsimp only
  rw [if_neg (fun z => z rfl)]
def RSt (h A V T m : Nat) (x : Nat → Nat) (N : Nat) (C : AmC) (r : PE Stm) (C' : AmC) : Prop := FrZ (WQ h A V T (8 * h + m)) C C' ∧ PRm C' h x N r (fun t j => ∃ A' V' T', CntL C' h A V x N j A' V' ∧ T ≤ T' ∧ cI C' 166 h = nI T' ∧ 6 * T' ≤ ps x N j ∧ cI C' 163 h = nI (m + 1) ∧ StmL C' h A' V' T' (8 * h + m) t)
/-- the tests, and the end -/
theorem m183_w {D : AmC} {kd : Nat} {g g2 : Nat → Option Val} {r : PE Stm} (hn : 3500 ≤ n) (h1c : 1 ≤ cols) (h4 : cols ≤ 4) (hm : m < 8) (es : s = 8 * h + m) (k3 : kd ≠ 3) (F : FrZ (WQ h A V T s) C D) (hp : Pm D h x N j) (hc : cI D 159 h = nI cols) (hAB : A ≤ B) (hVU : V ≤ U) (hA : AM D h B U) (b1 : 2 * B ≤ ps x N j + 1) (b2 : 3 * U ≤ ps x N j) (b3 : 6 * T ≤ ps x N j) (eT : cI D 166 h = nI T) (e3 : cI D 163 h = nI (m + 1)) (e0 : cI D 170 s = nI kd) (e1 : cI D 171 s = 0) (e4 : cI D 174 s = nI (160 * h + T)) (e5 : cI D 175 s = 0) (hG : SetM D h B U 176 (4 * s) g) (hN : SetM D h B U 177 (4 * s) g2) (er : r = match spX x N cols j with
    | .inl e => .inl e
    | .inr (ts, j2) => .inr (((kd, 0, 0, 0), g, g2, ts), j2)) : Rt ((f_182 n 145 (nI s) D).bind (fun z => match z with | (_, C161) => some ((), C161))) (fun _ C' => RSt h A V T m x N C r C') := by
  have hh := hp.2.1
  subst es
  refine rt_bind (rt_mono (m182 (T := T) hn h1c h4 (by omega) hp hc hA b1 b2 b3 eT e5) (fun _ D2 H => ?_))
  obtain ⟨F2, H⟩ := H
  refine rt_ret ⟨F.trans (F2.mono (fun _ _ z => WQ.le hAB hVU (Nat.le_refl T) (WX.q z))), ?_⟩
  rcases H with ⟨k, j2, e, fl⟩ | ⟨ts, j2, e, p2, A', V', ⟨c1, c2, c3⟩, q1, q2, q3, q4⟩
  · exact Or.inl ⟨k, j2, by rw [er, e], fl⟩
  · refine Or.inr ⟨((kd, 0, 0, 0), g, g2, ts), j2, by rw [er, e], p2, A', V', T + ts.length, ⟨by omega, by omega, c3⟩, by omega, q1, q2, ?_, ?_, ?_, fun z => absurd z k3, ?_, ?_, 160 * h + T, ?_, q3, by omega, by show 160 * h + T + ts.length ≤ _; omega, q4⟩
    · rw [F2.2 163 _ (by unfold WX WV WA W0; omega)]; exact e3
    · rw [F2.2 170 _ (by unfold WX WV WA W0; omega)]; exact e0
    · rw [F2.2 171 _ (by unfold WX WV WA W0; omega)]; exact e1
    · exact hG.of (F2.kp (fun b j z => by unfold WX WV WA W0; omega)) (fun c hc => F2.2 176 _ (by unfold WX WV WA W0; omega)) c1 c2
    · exact hN.of (F2.kp (fun b j z => by unfold WX WV WA W0; omega)) (fun c hc => F2.2 177 _ (by unfold WX WV WA W0; omega)) c1 c2
    · rw [F2.2 174 _ (by unfold WX WV WA W0; omega)]; exact e4
theorem m183_8 (hp : Pm C h x N i) (em : cI C 163 h = nI m) (hm : ¬ m < 8) (m9 : m ≤ 8) : Rt (f_183 n 145 C) (fun _ C' => FrZ W0 C C' ∧ FltM C' x N 2 i) := by
  have hh := hp.2.1
  obtain ⟨q1, q2, q3⟩ := m170f (n := n) (k := 2) (v := 2) hp (by omega) rfl
  unfold f_183
  rw [if_pos k_145, bd1 (w_145_25 hp.1), if_pos k_163, hp.2.2.1, l_163, if_pos ((x_in (by omega)).mpr hh), x_cl (by omega), em, n_8, if_pos ((x_le (by omega) (by omega)).mpr (by omega)), bd1 q1]
  dsimp only
  rw [if_neg (fun z => z rfl)]
  exact rt_ret ⟨q3, q2⟩
theorem m183 (hn : 3600 ≤ n) (h1c : 1 ≤ cols) (h4 : cols ≤ 4) (hm : m < 8) (hk : 205 ≤ tK x N i ∧ tK x N i ≤ 208) (hp : Pm C h x N i) (hc : cI C 159 h = nI cols) (hA : AM C h A V) (b1 : 2 * A ≤ ps x N i) (b2 : 3 * V ≤ ps x N i) (b3 : 6 * T ≤ ps x N i) (eT : cI C 166 h = nI T) (em : cI C 163 h = nI m) : Rt (f_183 n 145 C) (fun _ C' => RSt h A V T m x N C (spStm x N cols i) C') := by
  have P := hp.1
  have hh := hp.2.1
  have e41 := hp.2.2.1
  have N9 := hp.2.2.2.1.1
  have pi := ps_le (x := x) (N := N) i
  obtain ⟨_, _, _, a4, _⟩ := at_1 hp.at
  obtain ⟨kd, ek⟩ : ∃ kd, tK x N i = 200 + (5 + kd) := ⟨tK x N i - 205, by omega⟩
  obtain ⟨_, k2⟩ := a4 (5 + kd) ek
  have kd3 : kd ≤ 3 := by omega
  have mk : mp (5 + kd) = 5 + kd := by unfold mp; rw [if_pos (by omega)]
  rw [mk] at k2
  have up : ps x N i + 5 ≤ ps x N (i + 1) := by
    have w := ps_w (x := x) (N := N) (i := i) (k := 5 + kd) (by omega) ek
    have : kd = 0 ∨ kd = 1 ∨ kd = 2 ∨ kd = 3 := by omega
    rcases this with rfl | rfl | rfl | rfl
    · have l : (wlC.getD (5 + 0) []).length = 6 := by decide
      omega
    · have l : (wlC.getD (5 + 1) []).length = 6 := by decide
      omega
    · have l : (wlC.getD (5 + 2) []).length = 6 := by decide
      omega
    · have l : (wlC.getD (5 + 3) []).length = 5 := by decide
      omega
  have up7 : kd = 2 → ps x N i + 6 ≤ ps x N (i + 1) := by
    rintro rfl
    have w := ps_w (x := x) (N := N) (i := i) (k := 5 + 2) (by omega) ek
    have l : (wlC.getD (5 + 2) []).length = 6 := by decide
    omega
  obtain ⟨s, es⟩ : ∃ s, s = 8 * h + m := ⟨_, rfl⟩
  have s16 : s < 16 := by omega
  unfold f_183
  rw [if_pos k_145, bd1 (w_145_25 P), if_pos k_163, e41, l_163, if_pos ((x_in (by omega)).mpr hh), x_cl (by omega), em, n_8, if_neg (by rw [x_le (by omega) (by omega)]; omega), bd1 (m170t hp (by decide))]
  dsimp only
  rw [if_pos (by decide), bd1 (w_145_25 P), if_pos k_163, e41, l_163, if_pos ((x_in (by omega)).mpr hh), bd1 (w_145_32 P), if_pos k_170, x_cl (by omega), em, x_mul, x_add, ← es, l_170, if_pos ((x_in (by omega)).mpr s16), x_cl (by omega), k2, n_5, x_sub (by omega), show 5 + kd - 5 = kd by omega]
  have q41 : cI (uI C 170 s (nI kd)) 145 41 = nI h := by rw [r_In (by omega)]; exact e41
  have q66 : cI (uI C 170 s (nI kd)) 166 h = nI T := by rw [r_In (by omega)]; exact eT
  rw [bd1 (show cP (uI C 170 s (nI kd)) 145 36 = some 174 by rw [p_I]; exact w_145_36 P), bd1 (show cP (uI C 170 s (nI kd)) 145 28 = some 166 by rw [p_I]; exact w_145_28 P), if_pos k_166, q41, l_166, if_pos ((x_in (by omega)).mpr hh), if_pos k_174, l_174, if_pos ((x_in (by omega)).mpr s16), x_cl (by omega), q66, n_160, x_mul, x_add]
  rw [bd1 (show cP (uI (uI C 170 s (nI kd)) 174 s (nI (160 * h + T))) 145 37 = some 175 by rw [p_I, p_I]; exact w_145_37 P), if_pos k_175, l_175, if_pos ((x_in (by omega)).mpr s16)]
  rw [bd1 (show cP (uI (uI (uI C 170 s (nI kd)) 174 s (nI (160 * h + T))) 175 s 0) 145 33 = some 171 by rw [p_I, p_I, p_I]; exact w_145_33 P), if_pos k_171, l_171, if_pos ((x_in (by omega)).mpr s16)]
  have FU : FrZ (WQ h A V T s) C (uI (uI (uI (uI C 170 s (nI kd)) 174 s (nI (160 * h + T))) 175 s 0) 171 s 0) := ((((FrZ.refl C).u (by unfold WQ; omega)).u (by unfold WQ; omega)).u (by unfold WQ; omega)).u (by unfold WQ; omega)
  have u0 : cI (uI (uI (uI (uI C 170 s (nI kd)) 174 s (nI (160 * h + T))) 175 s 0) 171 s 0) 170 s = nI kd := by rw [r_In (by omega), r_In (by omega), r_In (by omega), r_I, if_pos ⟨rfl, rfl⟩]
  have u1 : cI (uI (uI (uI (uI C 170 s (nI kd)) 174 s (nI (160 * h + T))) 175 s 0) 171 s 0) 171 s = 0 := by rw [r_I, if_pos ⟨rfl, rfl⟩]
  have u4 : cI (uI (uI (uI (uI C 170 s (nI kd)) 174 s (nI (160 * h + T))) 175 s 0) 171 s 0) 174 s = nI (160 * h + T) := by rw [r_In (by omega), r_In (by omega), r_I, if_pos ⟨rfl, rfl⟩]
  have u5 : cI (uI (uI (uI (uI C 170 s (nI kd)) 174 s (nI (160 * h + T))) 175 s 0) 171 s 0) 175 s = 0 := by rw [r_In (by omega), r_I, if_pos ⟨rfl, rfl⟩]
  have uo : ∀ b, b ≠ 170 → b ≠ 171 → b ≠ 174 → b ≠ 175 → cI (uI (uI (uI (uI C 170 s (nI kd)) 174 s (nI (160 * h + T))) 175 s 0) 171 s 0) b = cI C b := fun b z1 z2 z3 z4 => by rw [r_In z2, r_In z4, r_In z3, r_In z1]
  generalize uI (uI (uI (uI C 170 s (nI kd)) 174 s (nI (160 * h + T))) 175 s 0) 171 s 0 = C4 at FU u0 u1 u4 u5 uo
  have L := m183_l (s := s) s16 4 0 n C4 rfl (by omega) (P.of FU.1)
  rw [x_0] at L
  refine rt_bind (rt_mono L (fun z C5 H => ?_))
  obtain ⟨rfl, F5, _, H5⟩ := H
  have P5 : PInv C5 := (P.of FU.1).of F5.1
  have o5 : ∀ b, b ≠ 170 → b ≠ 171 → b ≠ 174 → b ≠ 175 → b ≠ 176 → b ≠ 177 → cI C5 b = cI C b := fun b z1 z2 z3 z4 z5 z6 => by
    funext j
    rw [F5.2 b j (by unfold WL; omega), uo b z1 z2 z3 z4]
  have q41 : cI C5 145 41 = nI h := by rw [o5 145 (by omega) (by omega) (by omega) (by omega) (by omega) (by omega)]; exact e41
  have q63 : cI C5 163 h = nI m := by rw [o5 163 (by omega) (by omega) (by omega) (by omega) (by omega) (by omega)]; exact em
  dsimp only
  rw [if_pos k_145, bd1 (w_145_25 P5), if_pos k_163, q41, l_163, if_pos ((x_in (by omega)).mpr hh), if_pos ((x_in (by omega)).mpr hh), x_cl (by omega), q63, x_a1]
  have F6 : FrZ (WQ h A V T s) C (uI C5 163 h (nI (m + 1))) := (FU.trans (F5.mono (W' := WQ h A V T s) (fun b j z => by unfold WL at z; unfold WQ; omega))).u (by unfold WQ; omega)
  have p6 : Pm (uI C5 163 h (nI (m + 1))) h x N i := hp.of F6.1 (fun _ _ _ => by rw [r_In (by omega), o5 145 (by omega) (by omega) (by omega) (by omega) (by omega) (by omega)]) (by rw [r_In (by omega), o5 178 (by omega) (by omega) (by omega) (by omega) (by omega) (by omega)])
  refine rt_bind (rt_mono (p6.go (by omega)) (fun _ D H => ?_))
  obtain ⟨pD, FD⟩ := H
  have dF : FrZ (WQ h A V T s) C D := F6.trans (FD.mono (fun _ _ z => W0.q z))
  have od : ∀ b j, ¬ W0 b j → b ≠ 163 → cI D b j = cI C5 b j := fun b j z1 z2 => by rw [FD.2 b j z1, r_In z2]
  have d3 : cI D 163 h = nI (m + 1) := by rw [FD.2 163 _ (by unfold W0; omega), r_I, if_pos ⟨rfl, rfl⟩]
  have d0 : cI D 170 s = nI kd := by rw [od 170 _ (by unfold W0; omega) (by omega), F5.2 170 _ (by unfold WL; omega)]; exact u0
  have d1 : cI D 171 s = 0 := by rw [od 171 _ (by unfold W0; omega) (by omega), F5.2 171 _ (by unfold WL; omega)]; exact u1
  have d4 : cI D 174 s = nI (160 * h + T) := by rw [od 174 _ (by unfold W0; omega) (by omega), F5.2 174 _ (by unfold WL; omega)]; exact u4
  have d5 : cI D 175 s = 0 := by rw [od 175 _ (by unfold W0; omega) (by omega), F5.2 175 _ (by unfold WL; omega)]; exact u5
  have dc : cI D 159 h = nI cols := by rw [dF.2 159 _ (by unfold WQ WV WA W0; omega)]; exact hc
  have dA : AM D h A V := ⟨by rw [od 164 _ (by unfold W0; omega) (by omega), o5 164 (by omega) (by omega) (by omega) (by omega) (by omega) (by omega)]; exact hA.1, by rw [od 165 _ (by unfold W0; omega) (by omega), o5 165 (by omega) (by omega) (by omega) (by omega) (by omega) (by omega)]; exact hA.2⟩
  have dT : cI D 166 h = nI T := by rw [od 166 _ (by unfold W0; omega) (by omega), o5 166 (by omega) (by omega) (by omega) (by omega) (by omega) (by omega)]; exact eT
  have dG : SetM D h A V 176 (4 * s) no4 := fun c hc => by
    show cI D 176 (4 * s + c) = -1
    rw [od 176 _ (by unfold W0; omega) (by omega)]
    exact (H5 c (by omega) hc).1
  have dN : SetM D h A V 177 (4 * s) no4 := fun c hc => by
    show cI D 177 (4 * s + c) = -1
    rw [od 177 _ (by unfold W0; omega) (by omega)]
    exact (H5 c (by omega) hc).2
  clear F6 p6 FD od F5 o5 H5 uo u0 u1 u4 u5 FU L
  dsimp only
  rw [bd1 (w_145_32 pD.1), if_pos k_170, l_170, if_pos ((x_in (by omega)).mpr s16), x_cl (by omega), d0, n_3]
  by_cases k3 : kd = 3
  · rw [if_neg (fun z => z (by rw [k3]))]
    have er : spStm x N cols i = spG x N cols i := by unfold spStm; rw [if_neg (by omega), if_neg (by omega), if_neg (by omega)]
    rw [er]
    refine rt_bind (rt_mono (m184 (by omega) h1c h4 (by omega) pD dc dA (by omega) (by omega) dG dN) (fun _ D2 H => ?_))
    obtain ⟨F2, H⟩ := H
    subst es
    refine rt_ret ⟨dF.trans (F2.mono (fun _ _ z => WM.q z)), ?_⟩
    rcases H with H | ⟨t, j, e, p2, A', V', ⟨c1, c2, c3, c4, c5⟩, g1, g2, g3, g4, g5, g6, g7⟩
    · exact Or.inl H
    · refine Or.inr ⟨t, j, e, p2, A', V', T, ⟨c1, c2, c3, c4, c5⟩, Nat.le_refl _, ?_, ?_, ?_, ?_, g3, fun _ => ⟨g4, g5⟩, g6, g7, 160 * h + T, ?_, ?_, by omega, by rw [g2]; exact Nat.le_refl _, by rw [g2]; exact fun q hq => absurd hq (Nat.not_lt_zero q)⟩
      · rw [F2.2 166 _ (by unfold WM WV WA W0; omega)]; exact dT
      · have := spStm_up h1c N9 hk (by rw [er]; exact e)
        omega
      · rw [F2.2 163 _ (by unfold WM WV WA W0; omega)]; exact d3
      · rw [F2.2 170 _ (by unfold WM WV WA W0; omega), g1, d0, k3]
      · rw [F2.2 174 _ (by unfold WM WV WA W0; omega)]; exact d4
      · rw [F2.2 175 _ (by unfold WM WV WA W0; omega), g2]; exact d5
  · rw [if_pos (by rw [x_eq (by omega) (by omega)]; exact k3), bd1 (w_145_32 pD.1), if_pos k_170, l_170, if_pos ((x_in (by omega)).mpr s16), d0]
    by_cases k0 : kd = 0
    · subst k0
      rw [if_neg (fun z => z rfl)]
      have er : spStm x N cols i = spU x N cols i := by unfold spStm; rw [if_pos ek]
      rw [er]
      refine rt_bind (rt_mono (m180 (oth := false) (by omega) h1c h4 (by omega) rfl (by decide) pD dc dA (by omega) (by omega) dG) (fun _ D2 H => ?_))
      obtain ⟨F2, H⟩ := H
      have F2' : FrZ (WQ h A V T s) C D2 := dF.trans (F2.mono (fun _ _ z => WS.q (Or.inl rfl) z))
      have P2 : PInv D2 := P.of F2'.1
      have q0 : cI D2 170 s = nI 0 := by rw [F2.2 170 _ (by unfold WS WV WA W0; omega)]; exact d0
      dsimp only
      rw [bd1 (w_145_32 P2), if_pos k_170, l_170, if_pos ((x_in (by omega)).mpr s16), q0, if_pos (by decide)]
      rcases H with ⟨k, j, e, fl⟩ | ⟨g, j, e, p2, A', V', ⟨c1, c2, c3, c4, c5⟩, hG⟩
      · rw [bd1 (b182f fl.bd)]
        subst es
        exact rt_ret ⟨F2', Or.inl ⟨k, j, by unfold spU; rw [e], fl⟩⟩
      · have := spT_up h1c N9 _ _ _ _ _ e
        refine m183_w (B := A') (U := V') (kd := 0) (g := g) (g2 := no4) (by omega) h1c h4 hm es (by decide) F2' p2 (by rw [F2'.2 159 _ (by unfold WQ WV WA W0; omega)]; exact hc) c1 c2 c3 c4 c5 (by omega) ?_ ?_ q0 ?_ ?_ ?_ hG (dN.of (F2.kp (fun b j z => by unfold WS WV WA W0; omega)) (fun c hc => F2.2 177 _ (by unfold WS WV WA W0; omega)) c1 c2) ?_
        · rw [F2.2 166 _ (by unfold WS WV WA W0; omega)]; exact dT
        · rw [F2.2 163 _ (by unfold WS WV WA W0; omega)]; exact d3
        · rw [F2.2 171 _ (by unfold WS WV WA W0; omega)]; exact d1
        · rw [F2.2 174 _ (by unfold WS WV WA W0; omega)]; exact d4
        · rw [F2.2 175 _ (by unfold WS WV WA W0; omega)]; exact d5
        · unfold spU; rw [e]; rfl
    · rw [if_pos (by rw [x_eq0 (by omega)]; exact k0), bd1 (w_145_32 pD.1), if_pos k_170, l_170, if_pos ((x_in (by omega)).mpr s16), d0, n_2]
      by_cases k2' : kd = 2
      · have up7 := up7 k2'
        subst k2'
        rw [if_neg (fun z => z rfl)]
        have er : spStm x N cols i = spI x N cols i := by unfold spStm; rw [if_neg (by omega), if_neg (by omega), if_pos (by omega)]
        rw [er]
        refine rt_bind (rt_mono (m181 (oth := false) (by omega) h1c h4 (by omega) rfl pD dc dA (by omega) (by omega) dN) (fun _ D2 H => ?_))
        obtain ⟨F2, H⟩ := H
        have F2' : FrZ (WQ h A V T s) C D2 := dF.trans (F2.mono (fun _ _ z => WS.q (Or.inr rfl) z))
        dsimp only
        rcases H with ⟨k, j, e, fl⟩ | ⟨g, j, e, p2, A', V', ⟨c1, c2, c3, c4, c5⟩, hN⟩
        · have e : spF x N false true cols cols 0 (i + 1) no4 = .inl (k, j) := e
          rw [bd1 (b182f fl.bd)]
          subst es
          exact rt_ret ⟨F2', Or.inl ⟨k, j, by unfold spI; rw [e], fl⟩⟩
        · have e : spF x N false true cols cols 0 (i + 1) no4 = .inr (g, j) := e
          have := spF_up h1c N9 _ _ _ _ _ _ e
          refine m183_w (B := A') (U := V') (kd := 2) (g := no4) (g2 := g) (by omega) h1c h4 hm es (by decide) F2' p2 (by rw [F2'.2 159 _ (by unfold WQ WV WA W0; omega)]; exact hc) c1 c2 c3 c4 c5 (by omega) ?_ ?_ ?_ ?_ ?_ ?_ (dG.of (F2.kp (fun b j z => by unfold WS WV WA W0; omega)) (fun c hc => F2.2 176 _ (by unfold WS WV WA W0; omega)) c1 c2) hN ?_
          · rw [F2.2 166 _ (by unfold WS WV WA W0; omega)]; exact dT
          · rw [F2.2 163 _ (by unfold WS WV WA W0; omega)]; exact d3
          · rw [F2.2 170 _ (by unfold WS WV WA W0; omega)]; exact d0
          · rw [F2.2 171 _ (by unfold WS WV WA W0; omega)]; exact d1
          · rw [F2.2 174 _ (by unfold WS WV WA W0; omega)]; exact d4
          · rw [F2.2 175 _ (by unfold WS WV WA W0; omega)]; exact d5
          · unfold spI; rw [e]; rfl
      · have k1 : kd = 1 := by omega
        subst k1
        rw [if_pos (by decide)]
        have er : spStm x N cols i = spD x N cols i := by unfold spStm; rw [if_neg (by omega), if_pos (by omega)]
        rw [er]
        exact m183_w (B := A) (U := V) (kd := 1) (g := no4) (g2 := no4) (by omega) h1c h4 hm es (by decide) dF pD dc (Nat.le_refl _) (Nat.le_refl _) dA (by omega) (by omega) (by omega) dT d3 d0 d1 d4 d5 dG dN rfl
end
