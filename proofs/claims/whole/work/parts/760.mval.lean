/-! The reference reads a value, what is set, what a new row is. -/
theorem WA.le {h A B b j : Nat} (hA : A ≤ B) (z : WA h B b j) : WA h A b j := by
  rcases z with z | z | z
  · exact Or.inl z
  · exact Or.inr (Or.inl (by omega))
  · exact Or.inr (Or.inr z)
theorem WV.le {h A B V U b j : Nat} (hA : A ≤ B) (hV : V ≤ U) (z : WV h B U b j) : WV h A V b j := by
  rcases z with z | z | z
  · exact Or.inl (WA.le hA z)
  · exact Or.inr (Or.inl (by omega))
  · exact Or.inr (Or.inr z)
/-- value number k of half h, of A atoms and V values, is v -/
def VL (C : AmC) (h A V k : Nat) (v : Val) : Prop := 320 * h ≤ k ∧ k < 320 * h + V ∧ ∃ a, cI C 154 k = nI a ∧ cI C 155 k = nI v.length ∧ 460 * h ≤ a ∧ a + v.length ≤ 460 * h + A ∧ ListM C a v
def VOL (C : AmC) (h A V : Nat) (y : Int32) (v : Option Val) : Prop := match v with
  | none => y = -1
  | some w => ∃ k, y = nI k ∧ VL C h A V k w
/-- nothing of half h's first A atoms, V values has changed -/
def KpV (h A V : Nat) (C C' : AmC) : Prop := (∀ b j, 151 ≤ b → b ≤ 153 → 460 * h ≤ j → j < 460 * h + A → cI C' b j = cI C b j) ∧ ∀ b j, b = 154 ∨ b = 155 → 320 * h ≤ j → j < 320 * h + V → cI C' b j = cI C b j
section
variable {n h i j N A V B U cols s : Nat} {C C' : AmC} {x : Nat → Nat} {oth col : Bool}
theorem VL.keep {k : Nat} {v : Val} (g : VL C h A V k v) (K : KpV h A V C C') (hA : A ≤ B) (hV : V ≤ U) : VL C' h B U k v := by
  obtain ⟨g1, g2, a, g3, g4, g5, g6, g7⟩ := g
  refine ⟨g1, by omega, a, by rw [K.2 154 k (Or.inl rfl) g1 g2]; exact g3, by rw [K.2 155 k (Or.inr rfl) g1 g2]; exact g4, g5, by omega, fun i hi => ?_⟩
  exact (g7 i hi).of (K.1 151 _ (by omega) (by omega) (by omega) (by omega)) (K.1 152 _ (by omega) (by omega) (by omega) (by omega)) (K.1 153 _ (by omega) (by omega) (by omega) (by omega))
theorem VOL.keep {y : Int32} {v : Option Val} (g : VOL C h A V y v) (K : KpV h A V C C') (hA : A ≤ B) (hV : V ≤ U) : VOL C' h B U y v := by
  cases v with
  | none => exact g
  | some w =>
    obtain ⟨k, e, g⟩ := g
    exact ⟨k, e, g.keep K hA hV⟩
theorem VOL.m1 {y : Int32} {v : Option Val} (g : VOL C h A V y v) (hh : h < 2) (hV : V ≤ 320) : (y = -1) ↔ v = none := by
  cases v with
  | none => exact ⟨fun _ => rfl, fun _ => g⟩
  | some w =>
    obtain ⟨k, e, g1, g2, _⟩ := g
    rw [e, x_eqm (by omega)]
    exact ⟨False.elim, fun z => by cases z⟩
theorem KpV.refl : KpV h A V C C := ⟨fun _ _ _ _ _ _ => rfl, fun _ _ _ _ _ => rfl⟩
theorem KpV.trans {C1 C2 : AmC} (f : KpV h A V C C1) (g : KpV h B U C1 C2) (hA : A ≤ B) (hV : V ≤ U) : KpV h A V C C2 := ⟨fun b j z1 z2 z3 z4 => (g.1 b j z1 z2 z3 (by omega)).trans (f.1 b j z1 z2 z3 z4), fun b j z1 z2 z3 => (g.2 b j z1 z2 (by omega)).trans (f.2 b j z1 z2 z3)⟩
theorem FrZ.kp {W : Nat → Nat → Prop} (F : FrZ W C C') (g : ∀ b j, (151 ≤ b ∧ b ≤ 153 ∧ 460 * h ≤ j ∧ j < 460 * h + A) ∨ ((b = 154 ∨ b = 155) ∧ 320 * h ≤ j ∧ j < 320 * h + V) → ¬ W b j) : KpV h A V C C' := ⟨fun b j z1 z2 z3 z4 => F.2 b j (g b j (Or.inl ⟨z1, z2, z3, z4⟩)), fun b j z1 z2 z3 => F.2 b j (g b j (Or.inr ⟨z1, z2, z3⟩))⟩
theorem FrZ.kv (F : FrZ (WV h A V) C C') : KpV h A V C C' := F.kp (fun b j z => by unfold WV WA W0; omega)
theorem FrZ.k0 (F : FrZ W0 C C') : KpV h A V C C' := F.kp (fun b j z => by unfold W0; omega)
/-- how many atoms and values there are -/
def AM (C : AmC) (h A V : Nat) : Prop := cI C 164 h = nI A ∧ cI C 165 h = nI V
theorem AM.of {W : Nat → Nat → Prop} (g : AM C h A V) (F : FrZ W C C') (z4 : ¬ W 164 h) (z5 : ¬ W 165 h) : AM C' h A V := ⟨by rw [F.2 _ _ z4]; exact g.1, by rw [F.2 _ _ z5]; exact g.2⟩
theorem b179 {a b : Int32} (hP : PInv C) (hh : h < 2) (e41 : cI C 145 41 = nI h) (g : Bd C) (hn : 1 ≤ n) : f_179 n 145 a b C = some (0, C) := by
  unfold f_179
  rw [if_pos k_145, bd1 (w_145_26 hP), if_pos k_164, e41, l_164, if_pos ((x_in (by omega)).mpr hh), bd1 (b178 g)]
  dsimp only
  rw [bd1 (b179l g hn)]
  dsimp only
  rw [if_pos k_145, bd1 (w_145_27 hP), if_pos k_165, e41, l_165, if_pos ((x_in (by omega)).mpr hh), if_neg g]
theorem m179 {ot cl : Int32} (hn : 2200 ≤ n) (h1c : 1 ≤ cols) (h4 : cols ≤ 4) (hp : Pm C h x N i) (hc : cI C 159 h = nI cols) (ho : ot = if oth = true then 1 else 0) (hl : cl = if col = true then 1 else 0) (hA : AM C h A V) (b1 : 2 * A ≤ ps x N i) (V3 : V < 320) : Rt (f_179 n 145 ot cl C) (fun z C' => FrZ (WV h A V) C C' ∧ PRm C' h x N (spW x N oth col cols i) (fun v j => z = nI (320 * h + V) ∧ VL C' h (A + v.length) (V + 1) (320 * h + V) v ∧ AM C' h (A + v.length) (V + 1) ∧ 2 * (A + v.length) ≤ ps x N j + 1)) := by
  have P := hp.1
  have hh := hp.2.1
  have e41 := hp.2.2.1
  have N9 := hp.2.2.2.1.1
  have pi := ps_le (x := x) (N := N) i
  unfold f_179
  rw [if_pos k_145, bd1 (w_145_26 P), if_pos k_164, e41, l_164, if_pos ((x_in (by omega)).mpr hh), x_cl (by omega), hA.1]
  refine rt_bind (rt_mono (m178 (sg := nI 43) (oth := oth) (col := col) (A := A) (by omega) hp hc h4 ho hl hA.1 (by omega)) (fun _ D H => ?_))
  obtain ⟨F, ⟨k, j, er, fl⟩ | ⟨a, j, er, p, q1, q2⟩⟩ := H
  · dsimp only
    have PD : PInv D := P.of F.1
    have e2 : cI D 145 41 = nI h := by rw [F.2 145 41 (by unfold WA W0; omega)]; exact e41
    rw [bd1 (b179l fl.bd (by omega))]
    dsimp only
    rw [if_pos k_145, bd1 (w_145_27 PD), if_pos k_165, e2, l_165, if_pos ((x_in (by omega)).mpr hh), if_neg fl.bd]
    refine rt_ret ⟨F.v, Or.inl ⟨k, j, ?_, fl⟩⟩
    unfold spW
    rw [spV, er]
  · obtain ⟨_, t2, _⟩ := spA_ps h1c er
    have pj := ps_le (x := x) (N := N) j
    dsimp only
    have es : spW x N oth col cols i = spVl x N oth col cols 900 j [(nI 43, a.1, a.2)] := by
      unfold spW spVl
      rw [spV, er]
      rfl
    have L1 : ListM D (460 * h + A) [(nI 43, a.1, a.2)] := fun k hk => by
      have : k = 0 := by simp at hk; omega
      subst this
      exact q1
    refine rt_bind (rt_mono (m179_lp (A := A) h1c h4 N9 ho hl 900 j [(nI 43, a.1, a.2)] D n (by omega) (by omega) p (by rw [F.2 159 h (by unfold WA W0; omega)]; exact hc) q2 (by simp; omega) L1) (fun z D2 H => ?_))
    obtain ⟨rfl, F2, H⟩ := H
    have F2 := F.trans F2
    have P2 : PInv D2 := P.of F2.1
    have e2 : cI D2 145 41 = nI h := by rw [F2.2 145 41 (by unfold WA W0; omega)]; exact e41
    have v2 : cI D2 165 h = nI V := by rw [F2.2 165 h (by unfold WA W0; omega)]; exact hA.2
    dsimp only
    rw [if_pos k_145, bd1 (w_145_27 P2), if_pos k_165, e2, l_165, if_pos ((x_in (by omega)).mpr hh), es]
    rcases H with ⟨k, j2, er2, fl⟩ | ⟨v, j2, er2, p2, lm, q3, q4⟩
    · rw [if_neg fl.bd]
      exact rt_ret ⟨F2.v, Or.inl ⟨k, j2, er2, fl⟩⟩
    · have pj2 := ps_le (x := x) (N := N) j2
      have kv : 320 * h + V < 640 := by omega
      rw [if_pos p2.2.2.2.2.2.1, x_cl (by omega), v2, n_320, n_460, x_mul, x_mul, x_add, x_add, x_cl (by omega), bd1 (w_145_16 P2), if_pos k_154, l_154, if_pos ((x_in (by omega)).mpr kv)]
      rw [bd1 (show cP (uI D2 154 (320 * h + V) (nI (460 * h + A))) 145 17 = some 155 from w_145_17 P2), bd1 (show cP (uI D2 154 (320 * h + V) (nI (460 * h + A))) 145 26 = some 164 from w_145_26 P2), if_pos k_164]
      have e3 : cI (uI D2 154 (320 * h + V) (nI (460 * h + A))) 145 41 = nI h := by rw [r_In (by omega)]; exact e2
      have a3 : cI (uI D2 154 (320 * h + V) (nI (460 * h + A))) 164 h = nI (A + v.length) := by rw [r_In (by omega)]; exact q3
      rw [e3, l_164, if_pos ((x_in (by omega)).mpr hh), if_pos k_155, x_mul, x_add, l_155, if_pos ((x_in (by omega)).mpr kv), x_cl (by omega), x_cl (by omega), a3, x_sub (by omega), show A + v.length - A = v.length by omega]
      rw [bd1 (show cP (uI (uI D2 154 (320 * h + V) (nI (460 * h + A))) 155 (320 * h + V) (nI v.length)) 145 27 = some 165 from w_145_27 P2), if_pos k_165]
      have e4 : cI (uI (uI D2 154 (320 * h + V) (nI (460 * h + A))) 155 (320 * h + V) (nI v.length)) 145 41 = nI h := by rw [r_In (by omega)]; exact e3
      have v4 : cI (uI (uI D2 154 (320 * h + V) (nI (460 * h + A))) 155 (320 * h + V) (nI v.length)) 165 h = nI V := by rw [r_In (by omega), r_In (by omega)]; exact v2
      rw [e4, l_165, if_pos ((x_in (by omega)).mpr hh), if_pos ((x_in (by omega)).mpr hh), x_cl (by omega), v4, x_a1]
      have e5 : cI (uI (uI (uI D2 154 (320 * h + V) (nI (460 * h + A))) 155 (320 * h + V) (nI v.length)) 165 h (nI (V + 1))) 145 41 = nI h := by rw [r_In (by omega)]; exact e4
      rw [e5, x_mul, x_add]
      have od : ∀ b, b ≠ 154 → b ≠ 155 → b ≠ 165 → cI (uI (uI (uI D2 154 (320 * h + V) (nI (460 * h + A))) 155 (320 * h + V) (nI v.length)) 165 h (nI (V + 1))) b = cI D2 b := fun b z1 z2 z3 => by rw [r_In z3, r_In z2, r_In z1]
      refine rt_ret ⟨?_, Or.inr ⟨v, j2, er2, ?_, rfl, ⟨by omega, by omega, 460 * h + A, ?_, ?_, by omega, by omega, fun k hk => ?_⟩, ⟨?_, ?_⟩, q4⟩⟩
      · exact ((F2.v.u (by unfold WV WA W0; omega)).u (by unfold WV WA W0; omega)).u (by unfold WV WA W0; omega)
      · exact p2.of rfl (fun j _ _ => by rw [od 145 (by omega) (by omega) (by omega)]) (od 178 (by omega) (by omega) (by omega))
      · rw [r_In (by omega), r_In (by omega), r_I, if_pos ⟨rfl, rfl⟩]
      · rw [r_In (by omega), r_I, if_pos ⟨rfl, rfl⟩]
      · exact (lm k hk).of (by rw [od _ (by omega) (by omega) (by omega)]) (by rw [od _ (by omega) (by omega) (by omega)]) (by rw [od _ (by omega) (by omega) (by omega)])
      · rw [od _ (by omega) (by omega) (by omega)]; exact q3
      · rw [r_I, if_pos ⟨rfl, rfl⟩]
/-! what is set -/
def WS (h A V a r b j : Nat) : Prop := WV h A V b j ∨ (b = a ∧ r ≤ j ∧ j < r + 4)
def SetM (C : AmC) (h A V a r : Nat) (g : Nat → Option Val) : Prop := ∀ c, c < 4 → VOL C h A V (cI C a (r + c)) (g c)
theorem WS.le {a r b j : Nat} (hA : A ≤ B) (hV : V ≤ U) (z : WS h B U a r b j) : WS h A V a r b j := by
  rcases z with z | z
  · exact Or.inl (WV.le hA hV z)
  · exact Or.inr z
/-- counts behind what was read -/
def CntL (C' : AmC) (h A V : Nat) (x : Nat → Nat) (N j A' V' : Nat) : Prop := A ≤ A' ∧ V ≤ V' ∧ AM C' h A' V' ∧ 2 * A' ≤ ps x N j + 1 ∧ 3 * V' ≤ ps x N j
def nn (g : Nat → Option Val) : Nat := (if (g 0).isNone = true then 1 else 0) + (if (g 1).isNone = true then 1 else 0) + (if (g 2).isNone = true then 1 else 0) + (if (g 3).isNone = true then 1 else 0)
theorem nn_u {g : Nat → Option Val} {c : Nat} {v : Val} (hc : c < 4) (e : g c = none) : nn (ufn g c v) + 1 = nn g := by
  have : c = 0 ∨ c = 1 ∨ c = 2 ∨ c = 3 := by omega
  unfold nn ufn
  rcases this with rfl | rfl | rfl | rfl <;> simp [e] <;> omega
theorem b180 {s ot p : Int32} (hn : 1 ≤ n) (z : p = 0 ∨ Bd C) : Rt (lp_180_2 n 145 s ot p C) (fun _ C' => C' = C) := by
  obtain ⟨n, rfl⟩ : ∃ m, n = m + 1 := ⟨n - 1, by omega⟩
  rw [lp_180_2]
  by_cases e : p = 0
  · rw [if_pos e]; exact rt_ret rfl
  · rw [if_neg e, if_pos k_145, if_pos (z.resolve_left e)]; exact rt_ret rfl
theorem m180_lp {ot : Int32} (h1c : 1 ≤ cols) (h4 : cols ≤ 4) (hs : 8 * h ≤ s ∧ s < 8 * h + 8) (ho : ot = if oth = true then 1 else 0) : ∀ f i g C n A V, nn g < f → f + 2300 < n → Pm C h x N i → cI C 159 h = nI cols → AM C h A V → 2 * A ≤ ps x N i + 1 → 3 * V ≤ ps x N i → SetM C h A V 176 (4 * s) g → Rt (lp_180_2 n 145 (nI s) ot 1 C) (fun _ C' => FrZ (WS h A V 176 (4 * s)) C C' ∧ PRm C' h x N (spT x N oth cols f i g) (fun g' j => ∃ A' V', CntL C' h A V x N j A' V' ∧ SetM C' h A' V' 176 (4 * s) g')) := by
  intro f
  induction f with
  | zero => intro i g C n A V h1; omega
  | succ f ih =>
    intro i g C n A V h1 h2 hp hc hA b1 b2 hG
    obtain ⟨n, rfl⟩ : ∃ m, n = m + 1 := ⟨n - 1, by omega⟩
    have P := hp.1
    have hh := hp.2.1
    have e41 := hp.2.2.1
    have N9 := hp.2.2.2.1.1
    have pi := ps_le (x := x) (N := N) i
    obtain ⟨_, _, a3, _, _⟩ := at_1 hp.at
    have n17 : (17 : Int32) = nI 17 := rfl
    rw [lp_180_2, if_neg (by decide), if_pos k_145, if_neg (fun z => z hp.2.2.2.2.2.1), bd1 (m175 hp)]
    dsimp only
    by_cases e : tK x N i = 130
    · obtain ⟨c1, c2⟩ := a3 e
      rw [if_pos e, bd1 (m170t hp (by decide))]
      dsimp only
      rw [if_neg (by decide), bd1 (w_145_21 P), if_pos k_159, e41, l_159, if_pos ((x_in (by omega)).mpr hh), x_cl (by omega), hc, c2, n17, x_sub (by omega), show 17 + tN x N i - 17 = tN x N i by omega]
      by_cases cl : tN x N i < cols
      · rw [if_neg (by rw [x_le (by omega) (by omega)]; omega), bd1 (w_145_38 P), if_pos k_176, n_4, x_mul, x_add, x_sub (by omega), show 4 * s + (17 + tN x N i) - 17 = 4 * s + tN x N i by omega, l_176, if_pos ((x_in (by omega)).mpr (by omega)), x_cl (by omega)]
        have m1 := (hG (tN x N i) c1).m1 hh (by omega)
        by_cases gc : g (tN x N i) = none
        · rw [if_neg (fun z => z (m1.mpr gc)), bd1 (m170t hp (by decide))]
          dsimp only
          rw [if_pos (by decide)]
          have sT : spT x N oth cols (f + 1) i g = (if tK x N (i + 1) = 61 then (match spW x N oth true cols (i + 2) with
            | .inl e => .inl e
            | .inr (v, j) => if tK x N j = 44 then spT x N oth cols f (j + 1) (ufn g (tN x N i) v) else .inr (ufn g (tN x N i) v, j)) else .inl (1, i + 1)) := by rw [spT, if_pos e, if_pos ⟨cl, gc⟩]; rfl
          have p1 := ps_1 (x := x) (N := N) (i := i) (by omega)
          refine rt_bind (rt_mono (hp.go (by omega)) (fun _ D H => ?_))
          obtain ⟨pD, FD⟩ := H
          dsimp only
          refine rt_bind (rt_mono (m173 (c := 61) (v := 61) (by omega) pD (by decide) rfl) (fun _ D2 H => ?_))
          obtain ⟨F2, H⟩ := H
          have F2 := FD.trans F2
          have P2 : PInv D2 := P.of F2.1
          dsimp only
          rcases H with ⟨k, j, er, fl⟩ | ⟨_, j, er, p2, _⟩
          · obtain ⟨t1, rfl, rfl⟩ := spP_no er
            rw [if_pos fl.bd, bd1 (b172 fl.bd)]
            dsimp only
            rw [if_pos rfl]
            refine rt_mono (b180 (by omega) (Or.inl rfl)) (fun _ D3 H => ?_)
            subst H
            exact ⟨F2.mono (fun _ _ z => Or.inl (Or.inl (Or.inl z))), Or.inl ⟨1, i + 1, by rw [sT, if_neg t1], fl⟩⟩
          · obtain ⟨t1, rfl⟩ := spP_ps er
            rw [if_pos t1] at sT
            have p4 : ps x N (i + 1) + 1 ≤ ps x N (i + 2) := ps_1 (by omega)
            have pi2 := ps_le (x := x) (N := N) (i + 2)
            have p2 : Pm D2 h x N (i + 2) := p2
            rw [if_neg (fun z => z p2.2.2.2.2.2.1), bd1 (w_145_38 P2)]
            refine rt_bind (rt_mono (m179 (oth := oth) (col := true) (A := A) (V := V) (by omega) h1c h4 p2 (by rw [F2.2 159 h (by unfold W0; omega)]; exact hc) ho rfl (hA.of F2 (by unfold W0; omega) (by unfold W0; omega)) (by omega) (by omega)) (fun z D3 H => ?_))
            obtain ⟨F3, H⟩ := H
            have F3' : FrZ (WV h A V) C D3 := (F2.mono (fun _ _ z => Or.inl (Or.inl z))).trans F3
            dsimp only
            rw [if_pos k_176, c2, x_sub (by omega), show 17 + tN x N i - 17 = tN x N i by omega, x_add, l_176, if_pos ((x_in (by omega)).mpr (by omega)), x_cl (by omega)]
            have F4 : FrZ (WS h A V 176 (4 * s)) C (uI D3 176 (4 * s + tN x N i) z) := (F3'.mono (fun _ _ z => Or.inl z)).u (Or.inr ⟨rfl, by omega, by omega⟩)
            have o4 : ∀ b, b ≠ 176 → cI (uI D3 176 (4 * s + tN x N i) z) b = cI D3 b := fun b hb => r_In hb
            rcases H with ⟨k, j, er, fl⟩ | ⟨v, j, er, p5, rfl, vl, am, b3⟩
            · have fl4 : FltM (uI D3 176 (4 * s + tN x N i) z) x N k j := fl.of (by rw [o4 145 (by omega)]) (by rw [o4 145 (by omega)])
              rw [bd1 (b172 fl4.bd)]
              dsimp only
              rw [if_pos rfl]
              refine rt_mono (b180 (by omega) (Or.inl rfl)) (fun _ D3 H => ?_)
              subst H
              exact ⟨F4, Or.inl ⟨k, j, by rw [sT, er], fl4⟩⟩
            · obtain ⟨t1, t2, t3, _⟩ := spW_ps h1c N9 er
              rw [er] at sT
              have sT : spT x N oth cols (f + 1) i g = (if tK x N j = 44 then spT x N oth cols f (j + 1) (ufn g (tN x N i) v) else .inr (ufn g (tN x N i) v, j)) := sT
              have pj := ps_le (x := x) (N := N) j
              have p6 : Pm (uI D3 176 (4 * s + tN x N i) (nI (320 * h + V))) h x N j := p5.of rfl (fun _ _ _ => by rw [o4 145 (by omega)]) (o4 178 (by omega))
              have am6 : AM (uI D3 176 (4 * s + tN x N i) (nI (320 * h + V))) h (A + v.length) (V + 1) := ⟨by rw [o4 164 (by omega)]; exact am.1, by rw [o4 165 (by omega)]; exact am.2⟩
              have K6 : KpV h A V C (uI D3 176 (4 * s + tN x N i) (nI (320 * h + V))) := F4.kp (fun b j z => by unfold WS WV WA W0; omega)
              have K36 : ∀ {a b : Nat}, KpV h a b D3 (uI D3 176 (4 * s + tN x N i) (nI (320 * h + V))) := ⟨fun b j _ _ _ _ => by rw [o4 b (by omega)], fun b j _ _ _ => by rw [o4 b (by omega)]⟩
              have G6 : SetM (uI D3 176 (4 * s + tN x N i) (nI (320 * h + V))) h (A + v.length) (V + 1) 176 (4 * s) (ufn g (tN x N i) v) := by
                intro c hc4
                unfold ufn
                by_cases d : c = tN x N i
                · rw [if_pos d, d, r_I, if_pos ⟨rfl, rfl⟩]
                  exact ⟨320 * h + V, rfl, vl.keep K36 (Nat.le_refl _) (Nat.le_refl _)⟩
                · rw [if_neg d, r_I, if_neg (by omega), F3'.2 176 _ (by unfold WV WA W0; omega)]
                  exact (hG c hc4).keep K6 (by omega) (by omega)
              rw [bd1 (mSg (c := 44) (v := 44) p6 (by decide) rfl)]
              dsimp only
              by_cases q44 : tK x N j = 44
              · rw [if_pos q44] at sT
                have p7 := ps_1 (x := x) (N := N) (i := j) (by omega)
                rw [if_pos q44, if_neg (by decide), sT]
                refine rt_bind (rt_mono (p6.go (by omega)) (fun _ D5 H => ?_))
                obtain ⟨p8, F8⟩ := H
                dsimp only
                have F9 : FrZ (WS h A V 176 (4 * s)) C D5 := F4.trans (F8.mono (fun _ _ z => Or.inl (Or.inl (Or.inl z))))
                have nu := nn_u (v := v) c1 gc
                refine rt_mono (ih (j + 1) (ufn g (tN x N i) v) D5 n (A + v.length) (V + 1) (by omega) (by omega) p8 (by rw [F9.2 159 h (by unfold WS WV WA W0; omega)]; exact hc) (am6.of F8 (by unfold W0; omega) (by unfold W0; omega)) (by omega) (by omega) (fun c hc4 => by rw [F8.2 176 _ (by unfold W0; omega)]; exact (G6 c hc4).keep F8.k0 (Nat.le_refl _) (Nat.le_refl _))) (fun _ D6 H => ?_)
                obtain ⟨F10, H⟩ := H
                refine ⟨F9.trans (F10.mono (fun _ _ z => WS.le (by omega) (by omega) z)), ?_⟩
                rcases H with H | ⟨g', j', H1, H2, A', V', ⟨z1, z2, z3⟩, H3⟩
                · exact Or.inl H
                · exact Or.inr ⟨g', j', H1, H2, A', V', ⟨by omega, by omega, z3⟩, H3⟩
              · rw [if_neg q44] at sT
                rw [if_neg q44, if_pos rfl]
                refine rt_mono (b180 (by omega) (Or.inl rfl)) (fun _ D3 H => ?_)
                subst H
                exact ⟨F4, Or.inr ⟨_, j, sT, p6, A + v.length, V + 1, ⟨by omega, by omega, am6, by omega, by omega⟩, G6⟩⟩
        · obtain ⟨q1, q2, q3⟩ := m170f (n := n) (k := 3) (v := 3) hp (by omega) rfl
          rw [if_pos (fun z => gc (m1.mp z)), bd1 q1]
          dsimp only
          rw [if_neg (fun z => z rfl)]
          exact rt_ret ⟨q3.mono (fun _ _ z => Or.inl (Or.inl (Or.inl z))), Or.inl ⟨3, i, by rw [spT, if_pos e, if_neg (fun z => gc z.2)], q2⟩⟩
      · obtain ⟨q1, q2, q3⟩ := m170f (n := n) (k := 3) (v := 3) hp (by omega) rfl
        rw [if_pos ((x_le (by omega) (by omega)).mpr (by omega)), bd1 q1]
        dsimp only
        rw [if_neg (fun z => z rfl)]
        exact rt_ret ⟨q3.mono (fun _ _ z => Or.inl (Or.inl (Or.inl z))), Or.inl ⟨3, i, by rw [spT, if_pos e, if_neg (fun z => cl z.1)], q2⟩⟩
    · obtain ⟨q1, q2, q3⟩ := m170f (n := n) (k := 1) (v := 1) hp (by omega) rfl
      rw [if_neg e, bd1 q1]
      dsimp only
      rw [if_pos rfl]
      exact rt_ret ⟨q3.mono (fun _ _ z => Or.inl (Or.inl (Or.inl z))), Or.inl ⟨1, i, by rw [spT, if_neg e], q2⟩⟩
theorem m180 {ot : Int32} {g : Nat → Option Val} (hn : 2400 ≤ n) (h1c : 1 ≤ cols) (h4 : cols ≤ 4) (hs : 8 * h ≤ s ∧ s < 8 * h + 8) (ho : ot = if oth = true then 1 else 0) (hg : nn g < 5) (hp : Pm C h x N i) (hc : cI C 159 h = nI cols) (hA : AM C h A V) (b1 : 2 * A ≤ ps x N i + 1) (b2 : 3 * V ≤ ps x N i) (hG : SetM C h A V 176 (4 * s) g) : Rt (f_180 n 145 (nI s) ot C) (fun _ C' => FrZ (WS h A V 176 (4 * s)) C C' ∧ PRm C' h x N (spT x N oth cols 5 i g) (fun g' j => ∃ A' V', CntL C' h A V x N j A' V' ∧ SetM C' h A' V' 176 (4 * s) g')) := by
  unfold f_180
  refine rt_bind (rt_mono (m180_lp (oth := oth) h1c h4 hs ho 5 i g C n A V hg (by omega) hp hc hA b1 b2 hG) (fun z D H => ?_))
  rcases z with z | z
  · exact rt_ret H
  · exact rt_ret H
end
