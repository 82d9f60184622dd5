/-! The reference reads a merge. -/
def WM (h A V s b j : Nat) : Prop := WV h A V b j ∨ (171 ≤ b ∧ b ≤ 173 ∧ j = s) ∨ ((b = 176 ∨ b = 177) ∧ 4 * s ≤ j ∧ j < 4 * s + 4)
section
variable {n h i j N A V B U cols s T b : Nat} {C C' : AmC} {x : Nat → Nat} {oth col : Bool}
theorem W0.m (z : W0 b j) : WM h A V s b j := Or.inl (Or.inl (Or.inl z))
theorem WS.m {a : Nat} (ha : a = 176 ∨ a = 177) (z : WS h A V a (4 * s) b j) : WM h A V s b j := by
  rcases z with z | z
  · exact Or.inl z
  · exact Or.inr (Or.inr (by omega))
theorem WM.le (hA : A ≤ B) (hV : V ≤ U) (z : WM h B U s b j) : WM h A V s b j := by
  rcases z with z | z | z
  · exact Or.inl (WV.le hA hV z)
  · exact Or.inr (Or.inl z)
  · exact Or.inr (Or.inr z)
theorem SetM.of {g : Nat → Option Val} {a : Nat} (G : SetM C h A V a (4 * s) g) (K : KpV h A V C C') (e : ∀ c, c < 4 → cI C' a (4 * s + c) = cI C a (4 * s + c)) (hA : A ≤ B) (hV : V ≤ U) : SetM C' h B U a (4 * s) g := fun c hc => by
  rw [e c hc]
  exact (G c hc).keep K hA hV
/-- rows that are inserted, where none match -/
theorem m184_i (hn : 2400 ≤ n) (h1c : 1 ≤ cols) (h4 : cols ≤ 4) (hs : 8 * h ≤ s ∧ s < 8 * h + 8) (hp : Pm C h x N j) (hc : cI C 159 h = nI cols) (hA : AM C h A V) (b1 : 2 * A ≤ ps x N j + 1) (b2 : 3 * V ≤ ps x N j) (hG : SetM C h A V 177 (4 * s) no4) : Rt ((f_171 n 145 (7 : Int32) C).bind (fun z => match z with | (q44, C45) => (if ¬ q44 = 0 then (f_169 n 145 C45).bind (fun z => match z with | (_, C49) => (f_181 n 145 (nI s) (1 : Int32) C49).bind (fun z => match z with | (_, C52) => some ((), C52))) else some ((), C45)))) (fun _ C' => RF h A V s x N C (spG2 x N cols j) C') := by
  have hh := hp.2.1
  rw [bd1 (mIs (w := 7) (v := 7) hp (by omega) rfl)]
  dsimp only
  by_cases e : tK x N j = 200 + 7
  · have w6 := ps_w (x := x) (N := N) (i := j) (k := 7) (by omega) e
    have l : (wlC.getD 7 []).length = 6 := by decide
    rw [if_pos e, if_pos (by decide)]
    refine rt_bind (rt_mono (hp.go (by omega)) (fun _ D H => ?_))
    obtain ⟨pD, FD⟩ := H
    dsimp only
    have es : spG2 x N cols j = spF x N true (!true) cols cols 0 (j + 1) no4 := by unfold spG2; rw [if_pos e]; rfl
    rw [es]
    refine rt_bind (rt_mono (m181 (oth := true) (A := A) (V := V) hn h1c h4 hs rfl pD (by rw [FD.2 159 h (by unfold W0; omega)]; exact hc) (hA.of FD (by unfold W0; omega) (by unfold W0; omega)) (by omega) (by omega) (hG.of FD.k0 (fun c hc => FD.2 177 _ (by unfold W0; omega)) (Nat.le_refl _) (Nat.le_refl _))) (fun _ D2 H => ?_))
    exact rt_ret ⟨(FD.mono (fun _ _ z => Or.inl (Or.inl (Or.inl z)))).trans H.1, H.2⟩
  · rw [if_neg e, if_neg (fun z => z rfl)]
    exact rt_ret ⟨FrZ.refl C, Or.inr ⟨no4, j, by unfold spG2; rw [if_neg e], hp, A, V, ⟨Nat.le_refl _, Nat.le_refl _, hA, b1, b2⟩, hG⟩⟩
theorem b184_i {s : Int32} (g : Bd C) : (f_171 n 145 (7 : Int32) C).bind (fun z => match z with | (q44, C45) => (if ¬ q44 = 0 then (f_169 n 145 C45).bind (fun z => match z with | (_, C49) => (f_181 n 145 s (1 : Int32) C49).bind (fun z => match z with | (_, C52) => some ((), C52))) else some ((), C45))) = some ((), C) := by
  rw [bd1 (b171 g)]
  dsimp only
  rw [if_neg (fun z => z rfl)]
/-- what a merge's statement bears -/
def MgM (C' : AmC) (h A' V' s : Nat) (t : Stm) : Prop := tKd t = 3 ∧ tTst t = [] ∧ cI C' 171 s = nI (tHow t) ∧ cI C' 172 s = nI (tOwn t) ∧ cI C' 173 s = nI (tOth t) ∧ SetM C' h A' V' 176 (4 * s) (tSet t) ∧ SetM C' h A' V' 177 (4 * s) (tNew t)
def RM (h A V s : Nat) (x : Nat → Nat) (N : Nat) (C : AmC) (r : PE Stm) (C' : AmC) : Prop := FrZ (WM h A V s) C C' ∧ PRm C' h x N r (fun t j => ∃ A' V', CntL C' h A V x N j A' V' ∧ MgM C' h A' V' s t)
/-- behind what is set -/
theorem m184_e {D : AmC} {hw a b : Nat} {g : Nat → Option Val} {r : PE Stm} (hn : 2400 ≤ n) (h1c : 1 ≤ cols) (h4 : cols ≤ 4) (hs : 8 * h ≤ s ∧ s < 8 * h + 8) (F : FrZ (WM h A V s) C D) (hp : Pm D h x N j) (hc : cI D 159 h = nI cols) (hAB : A ≤ B) (hVU : V ≤ U) (hA : AM D h B U) (b1 : 2 * B ≤ ps x N j + 1) (b2 : 3 * U ≤ ps x N j) (e1 : cI D 171 s = nI hw) (e2 : cI D 172 s = nI a) (e3 : cI D 173 s = nI b) (hG : SetM D h B U 176 (4 * s) g) (hN : SetM D h B U 177 (4 * s) no4) (er : r = match spG2 x N cols j with
    | .inl e => .inl e
    | .inr (g2, j4) => .inr (((3, hw, a, b), g, g2, []), j4)) : Rt ((f_171 n 145 (7 : Int32) D).bind (fun z => match z with | (q44, C45) => (if ¬ q44 = 0 then (f_169 n 145 C45).bind (fun z => match z with | (_, C49) => (f_181 n 145 (nI s) (1 : Int32) C49).bind (fun z => match z with | (_, C52) => some ((), C52))) else some ((), C45)))) (fun _ C' => RM h A V s x N C r C') := by
  refine rt_mono (m184_i hn h1c h4 hs hp hc hA b1 b2 hN) (fun _ D2 H => ?_)
  obtain ⟨F2, H⟩ := H
  refine ⟨F.trans (F2.mono (fun _ _ z => WM.le hAB hVU (WS.m (Or.inr rfl) z))), ?_⟩
  rcases H with ⟨k, j2, e, fl⟩ | ⟨g2, j2, e, p2, A', V', ⟨c1, c2, c3⟩, hG2⟩
  · exact Or.inl ⟨k, j2, by rw [er, e], fl⟩
  · refine Or.inr ⟨((3, hw, a, b), g, g2, []), j2, by rw [er, e], p2, A', V', ⟨by omega, by omega, c3⟩, rfl, rfl, ?_, ?_, ?_, ?_, hG2⟩
    · rw [F2.2 171 _ (by unfold WS WV WA W0; omega)]; exact e1
    · rw [F2.2 172 _ (by unfold WS WV WA W0; omega)]; exact e2
    · rw [F2.2 173 _ (by unfold WS WV WA W0; omega)]; exact e3
    · exact hG.of (F2.kp (fun b j z => by unfold WS WV WA W0; omega)) (fun c hc => F2.2 176 _ (by unfold WS WV WA W0; omega)) c1 c2
theorem m184 (hn : 2500 ≤ n) (h1c : 1 ≤ cols) (h4 : cols ≤ 4) (hs : 8 * h ≤ s ∧ s < 8 * h + 8) (hp : Pm C h x N (i + 1)) (hc : cI C 159 h = nI cols) (hA : AM C h A V) (b1 : 2 * A ≤ ps x N (i + 1) + 1) (b2 : 3 * V ≤ ps x N (i + 1)) (hG : SetM C h A V 176 (4 * s) no4) (hN : SetM C h A V 177 (4 * s) no4) : Rt (f_184 n 145 (nI s) C) (fun _ C' => RM h A V s x N C (spG x N cols i) C') := by
  have P := hp.1
  have hh := hp.2.1
  have s16 : s < 16 := by omega
  unfold f_184
  rw [if_pos k_145, bd1 (w_145_34 P)]
  refine rt_bind (rt_mono (m176 (cols := cols) (by omega) hp hc h4) (fun a1 D1 H => ?_))
  obtain ⟨F1, H1⟩ := H
  dsimp only
  rw [if_pos k_172, l_172, if_pos ((x_in (by omega)).mpr s16), x_cl (by omega)]
  have F1' : FrZ (WM h A V s) C (uI D1 172 s a1) := (F1.mono (W' := WM h A V s) (fun _ _ z => W0.m z)).u (by unfold WM; omega)
  have o1 : ∀ b, b ≠ 172 → cI (uI D1 172 s a1) b = cI D1 b := fun b hb => r_In hb
  have PD1 : PInv (uI D1 172 s a1) := P.of F1'.1
  rw [bd1 (w_145_35 PD1)]
  have key : Rt (f_176 n 145 (uI D1 172 s a1)) (fun a2 D2 => FrZ W0 (uI D1 172 s a1) D2 ∧ ((∃ k j, spG x N cols i = .inl (k, j) ∧ FltM D2 x N k j) ∨ ∃ a b j, a1 = nI a ∧ a2 = nI b ∧ Pm D2 h x N j ∧ ps x N (i + 1) + 2 ≤ ps x N j ∧ spG x N cols i = (match spG1 x N cols j with
      | .inl e => .inl e
      | .inr (h', j3) => match spG2 x N cols j3 with
        | .inl e => .inl e
        | .inr (g, j4) => .inr (((3, h'.1, a, b), h'.2, g, []), j4)))) := by
    rcases H1 with ⟨k, j, er, fl⟩ | ⟨a, j, er, p1, e1⟩
    · have fl1 : FltM (uI D1 172 s a1) x N k j := fl.of (by rw [o1 145 (by omega)]) (by rw [o1 145 (by omega)])
      rw [b176 fl1.bd]
      exact rt_ret ⟨FrZ.refl _, Or.inl ⟨k, j, by unfold spG; rw [er], fl1⟩⟩
    · have q1 : Pm (uI D1 172 s a1) h x N j := p1.of rfl (fun _ _ _ => by rw [o1 145 (by omega)]) (o1 178 (by omega))
      refine rt_mono (m176 (cols := cols) (by omega) q1 (by rw [o1 159 (by omega), F1.2 159 h (by unfold W0; omega)]; exact hc) h4) (fun a2 D2 H => ⟨H.1, ?_⟩)
      obtain ⟨t1, _, _, rfl⟩ := spC_ps er
      have u1 := ps_1 (x := x) (N := N) (i := i + 1) (by omega)
      rcases H.2 with ⟨k, j, er2, fl⟩ | ⟨b, j, er2, p2, e2⟩
      · exact Or.inl ⟨k, j, by unfold spG; rw [er]; dsimp only; rw [er2], fl⟩
      · obtain ⟨t2, _, _, rfl⟩ := spC_ps er2
        have u2 := ps_1 (x := x) (N := N) (i := i + 1 + 1) (by omega)
        exact Or.inr ⟨a, b, _, e1, e2, p2, by omega, by unfold spG; rw [er]; dsimp only; rw [er2]; rfl⟩
  refine rt_bind (rt_mono key (fun a2 D2 H => ?_))
  obtain ⟨F2, H2⟩ := H
  dsimp only
  rw [if_pos k_173, l_173, if_pos ((x_in (by omega)).mpr s16)]
  have F2' : FrZ (WM h A V s) C (uI D2 173 s a2) := (F1'.trans (F2.mono (fun _ _ z => W0.m z))).u (by unfold WM; omega)
  have o2 : ∀ b, b ≠ 173 → cI (uI D2 173 s a2) b = cI D2 b := fun b hb => r_In hb
  rcases H2 with ⟨k, j, er, fl⟩ | ⟨a, b, j, rfl, rfl, p2, up, er⟩
  · have fl2 : FltM (uI D2 173 s a2) x N k j := fl.of (by rw [o2 145 (by omega)]) (by rw [o2 145 (by omega)])
    rw [bd1 (b171 fl2.bd)]
    dsimp only
    rw [if_neg (fun z => z rfl), bd1 (b171 fl2.bd)]
    dsimp only
    rw [if_neg (fun z => z rfl), bd1 (b171 fl2.bd)]
    dsimp only
    rw [if_pos rfl, bd1 (b170 fl2.bd)]
    dsimp only
    rw [if_neg (fun z => z rfl)]
    exact rt_ret ⟨F2', Or.inl ⟨k, j, er, fl2⟩⟩
  · have pX : Pm (uI D2 173 s (nI b)) h x N j := p2.of rfl (fun _ _ _ => by rw [o2 145 (by omega)]) (o2 178 (by omega))
    have x2 : cI (uI D2 173 s (nI b)) 172 s = nI a := by rw [o2 172 (by omega), F2.2 172 _ (by unfold W0; omega), r_I, if_pos ⟨rfl, rfl⟩]
    have x3 : cI (uI D2 173 s (nI b)) 173 s = nI b := by rw [r_I, if_pos ⟨rfl, rfl⟩]
    have oX : ∀ b' j, ¬ W0 b' j → b' ≠ 172 → b' ≠ 173 → cI (uI D2 173 s (nI b)) b' j = cI C b' j := fun b' j z1 z2 z3 => by rw [o2 b' z3, F2.2 b' j z1, o1 b' z2, F1.2 b' j z1]
    have xc : cI (uI D2 173 s (nI b)) 159 h = nI cols := by rw [oX 159 h (by unfold W0; omega) (by omega) (by omega)]; exact hc
    have xA : AM (uI D2 173 s (nI b)) h A V := ⟨by rw [oX 164 h (by unfold W0; omega) (by omega) (by omega)]; exact hA.1, by rw [oX 165 h (by unfold W0; omega) (by omega) (by omega)]; exact hA.2⟩
    have xK : KpV h A V C (uI D2 173 s (nI b)) := ⟨fun b' j _ _ _ _ => oX b' j (by unfold W0; omega) (by omega) (by omega), fun b' j _ _ _ => oX b' j (by unfold W0; omega) (by omega) (by omega)⟩
    have xG : SetM (uI D2 173 s (nI b)) h A V 176 (4 * s) no4 := hG.of xK (fun c _ => oX 176 _ (by unfold W0; omega) (by omega) (by omega)) (Nat.le_refl _) (Nat.le_refl _)
    have xN : SetM (uI D2 173 s (nI b)) h A V 177 (4 * s) no4 := hN.of xK (fun c _ => oX 177 _ (by unfold W0; omega) (by omega) (by omega)) (Nat.le_refl _) (Nat.le_refl _)
    generalize uI D2 173 s (nI b) = X at F2' pX x2 x3 xc xA xG xN
    have PX := pX.1
    -- how it is, and on
    have hows : ∀ hw, FrZ (WM h A V s) C (uI X 171 s (nI hw)) ∧ Pm (uI X 171 s (nI hw)) h x N j := fun hw => ⟨F2'.u (by unfold WM; omega), pX.of rfl (fun _ _ _ => by rw [r_In (by omega)]) (r_In (by omega))⟩
    have keep : ∀ hw Z, FrZ W0 (uI X 171 s (nI hw)) Z → cI Z 159 h = nI cols ∧ AM Z h A V ∧ cI Z 171 s = nI hw ∧ cI Z 172 s = nI a ∧ cI Z 173 s = nI b ∧ SetM Z h A V 176 (4 * s) no4 ∧ SetM Z h A V 177 (4 * s) no4 := by
      intro hw Z FZ
      have oZ : ∀ b' j, ¬ W0 b' j → b' ≠ 171 → cI Z b' j = cI X b' j := fun b' j z1 z2 => by rw [FZ.2 b' j z1, r_In z2]
      have zK : KpV h A V X Z := ⟨fun b' j _ _ _ _ => oZ b' j (by unfold W0; omega) (by omega), fun b' j _ _ _ => oZ b' j (by unfold W0; omega) (by omega)⟩
      refine ⟨by rw [oZ 159 h (by unfold W0; omega) (by omega)]; exact xc, ⟨by rw [oZ 164 h (by unfold W0; omega) (by omega)]; exact xA.1, by rw [oZ 165 h (by unfold W0; omega) (by omega)]; exact xA.2⟩, ?_, by rw [oZ 172 s (by unfold W0; omega) (by omega)]; exact x2, by rw [oZ 173 s (by unfold W0; omega) (by omega)]; exact x3, xG.of zK (fun c _ => oZ 176 _ (by unfold W0; omega) (by omega)) (Nat.le_refl _) (Nat.le_refl _), xN.of zK (fun c _ => oZ 177 _ (by unfold W0; omega) (by omega)) (Nat.le_refl _) (Nat.le_refl _)⟩
      rw [FZ.2 171 s (by unfold W0; omega), r_I, if_pos ⟨rfl, rfl⟩]
    rw [bd1 (mIs (w := 9) (v := 9) pX (by omega) rfl)]
    dsimp only
    by_cases e9 : tK x N j = 200 + 9
    · have u3 := ps_1 (x := x) (N := N) (i := j) (by omega)
      rw [if_pos e9, if_pos (by decide), bd1 (m170t pX (by decide))]
      dsimp only
      rw [if_pos (by decide), bd1 (w_145_33 PX), bd1 (mIs (w := 9) (v := 9) pX (by omega) rfl)]
      dsimp only
      rw [if_pos e9, if_neg (by decide), if_pos k_171, l_171, if_pos ((x_in (by omega)).mpr s16)]
      obtain ⟨Fh, ph⟩ := hows 0
      refine rt_bind (rt_mono (ph.go (by omega)) (fun _ Z H => ?_))
      obtain ⟨pZ, FZ⟩ := H
      obtain ⟨zc, zA, z1, z2, z3, zG, zN⟩ := keep 0 Z FZ
      have FZ' : FrZ (WM h A V s) C Z := Fh.trans (FZ.mono (fun _ _ z => W0.m z))
      dsimp only
      rw [bd1 (w_145_33 pZ.1), if_pos k_171, l_171, if_pos ((x_in (by omega)).mpr s16), z1, if_neg (fun z => z rfl)]
      refine rt_bind (rt_mono (m180 (oth := true) (by omega) h1c h4 hs rfl (by decide) pZ zc zA (by omega) (by omega) zG) (fun _ Y H => ?_))
      obtain ⟨FY, H⟩ := H
      have FY' : FrZ (WM h A V s) C Y := FZ'.trans (FY.mono (fun _ _ z => WS.m (Or.inl rfl) z))
      dsimp only
      rcases H with ⟨k, j2, er2, fl⟩ | ⟨g, j2, er2, pY, A', V', ⟨c1, c2, c3, c4, c5⟩, yG⟩
      · rw [b184_i fl.bd]
        exact rt_ret ⟨FY', Or.inl ⟨k, j2, by rw [er]; unfold spG1; rw [if_pos e9, er2], fl⟩⟩
      · refine m184_e (B := A') (U := V') (hw := 0) (a := a) (b := b) (g := g) (by omega) h1c h4 hs FY' pY (by rw [FY.2 159 h (by unfold WS WV WA W0; omega)]; exact zc) c1 c2 c3 c4 c5 (by rw [FY.2 171 s (by unfold WS WV WA W0; omega)]; exact z1) (by rw [FY.2 172 s (by unfold WS WV WA W0; omega)]; exact z2) (by rw [FY.2 173 s (by unfold WS WV WA W0; omega)]; exact z3) yG (zN.of (FY.kp (fun b j z => by unfold WS WV WA W0; omega)) (fun c hc => FY.2 177 _ (by unfold WS WV WA W0; omega)) c1 c2) ?_
        rw [er]
        unfold spG1
        rw [if_pos e9, er2]
    · rw [if_neg e9, if_neg (fun z => z rfl), bd1 (mIs (w := 6) (v := 6) pX (by omega) rfl)]
      dsimp only
      by_cases e6 : tK x N j = 200 + 6
      · have u3 := ps_1 (x := x) (N := N) (i := j) (by omega)
        rw [if_pos e6, if_pos (by decide), bd1 (m170t pX (by decide))]
        dsimp only
        rw [if_pos (by decide), bd1 (w_145_33 PX), bd1 (mIs (w := 9) (v := 9) pX (by omega) rfl)]
        dsimp only
        rw [if_neg e9, if_pos rfl, bd1 (mIs (w := 6) (v := 6) pX (by omega) rfl)]
        dsimp only
        rw [if_pos e6, if_neg (by decide), if_pos k_171, l_171, if_pos ((x_in (by omega)).mpr s16)]
        obtain ⟨Fh, ph⟩ := hows 1
        refine rt_bind (rt_mono (ph.go (by omega)) (fun _ Z H => ?_))
        obtain ⟨pZ, FZ⟩ := H
        obtain ⟨zc, zA, z1, z2, z3, zG, zN⟩ := keep 1 Z FZ
        have FZ' : FrZ (WM h A V s) C Z := Fh.trans (FZ.mono (fun _ _ z => W0.m z))
        dsimp only
        rw [bd1 (w_145_33 pZ.1), if_pos k_171, l_171, if_pos ((x_in (by omega)).mpr s16), z1, if_pos (by decide)]
        refine m184_e (B := A) (U := V) (hw := 1) (a := a) (b := b) (g := no4) (by omega) h1c h4 hs FZ' pZ zc (Nat.le_refl _) (Nat.le_refl _) zA (by omega) (by omega) z1 z2 z3 zG zN ?_
        rw [er]
        unfold spG1
        rw [if_neg e9, if_pos e6]
      · rw [if_neg e6, if_neg (fun z => z rfl), bd1 (mIs (w := 10) (v := 10) pX (by omega) rfl)]
        dsimp only
        by_cases e10 : tK x N j = 200 + 10
        · have u3 := ps_1 (x := x) (N := N) (i := j) (by omega)
          rw [if_pos e10, if_neg (by decide), bd1 (m170t pX (by decide))]
          dsimp only
          rw [if_pos (by decide), bd1 (w_145_33 PX), bd1 (mIs (w := 9) (v := 9) pX (by omega) rfl)]
          dsimp only
          rw [if_neg e9, if_pos rfl, bd1 (mIs (w := 6) (v := 6) pX (by omega) rfl)]
          dsimp only
          rw [if_neg e6, if_pos rfl, if_pos k_171, l_171, if_pos ((x_in (by omega)).mpr s16)]
          obtain ⟨Fh, ph⟩ := hows 2
          refine rt_bind (rt_mono (ph.go (by omega)) (fun _ Z H => ?_))
          obtain ⟨pZ, FZ⟩ := H
          obtain ⟨zc, zA, z1, z2, z3, zG, zN⟩ := keep 2 Z FZ
          have FZ' : FrZ (WM h A V s) C Z := Fh.trans (FZ.mono (fun _ _ z => W0.m z))
          dsimp only
          rw [bd1 (w_145_33 pZ.1), if_pos k_171, l_171, if_pos ((x_in (by omega)).mpr s16), z1, if_pos (by decide)]
          refine m184_e (B := A) (U := V) (hw := 2) (a := a) (b := b) (g := no4) (by omega) h1c h4 hs FZ' pZ zc (Nat.le_refl _) (Nat.le_refl _) zA (by omega) (by omega) z1 z2 z3 zG zN ?_
          rw [er]
          unfold spG1
          rw [if_neg e9, if_neg e6, if_pos e10]
        · obtain ⟨q1, q2, q3⟩ := m170f (n := n) (k := 1) (v := 1) pX (by omega) rfl
          rw [if_neg e10, if_pos rfl, bd1 q1]
          dsimp only
          rw [if_neg (fun z => z rfl)]
          refine rt_ret ⟨F2'.trans (q3.mono (fun _ _ z => W0.m z)), Or.inl ⟨1, j, ?_, q2⟩⟩
          rw [er]
          unfold spG1
          rw [if_neg e9, if_neg e6, if_neg e10]
end
