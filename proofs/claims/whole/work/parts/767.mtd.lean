/-! What the reference bears of a text while it reads it. -/
def WP (h b j : Nat) : Prop := (b = 145 ∧ 44 ≤ j ∧ j ≤ 56 ∧ j ≠ 47 ∧ j ≠ 54) ∨ b = 179 ∨ (151 ≤ b ∧ b ≤ 153 ∧ 460 * h ≤ j ∧ j < 460 * h + 460) ∨ ((b = 154 ∨ b = 155) ∧ 320 * h ≤ j ∧ j < 320 * h + 320) ∨ (156 ≤ b ∧ b ≤ 158 ∧ 160 * h ≤ j ∧ j < 160 * h + 160) ∨ (159 ≤ b ∧ b ≤ 166 ∧ j = h) ∨ ((b = 167 ∨ b = 168) ∧ 3 * h ≤ j ∧ j < 3 * h + 3) ∨ (b = 169 ∧ 40 * h ≤ j ∧ j < 40 * h + 40) ∨ (170 ≤ b ∧ b ≤ 175 ∧ 8 * h ≤ j ∧ j < 8 * h + 8) ∨ ((b = 176 ∨ b = 177) ∧ 32 * h ≤ j ∧ j < 32 * h + 32)
/-- a script of half h, of A atoms, V values, T tests -/
def ScrL (C : AmC) (h A V T : Nat) (S : Scr) : Prop :=
  cI C 159 h = nI (sCols S) ∧ cI C 160 h = nI (sIdx S).length ∧ (∀ i, i < (sIdx S).length → cI C 167 (3 * h + i) = nI (ix1 S i) ∧ cI C 168 (3 * h + i) = oI (ix2 S i))
  ∧ cI C 161 h = sKeys S ∧ cI C 162 h = nI (sOth S).length ∧ (∀ o, o < (sOth S).length → ∀ c, c < sCols S → cI C 169 (4 * (10 * h + o) + c) = othN S o c)
  ∧ cI C 163 h = nI (sStm S).length ∧ ∀ i (_ : i < (sStm S).length), StmL C h A V T (8 * h + i) (sStm S)[i]
/-- the rows that are told -/
def TdM (C : AmC) (cols r : Nat) (g : Nat → Nat → Int32) : Prop := (∀ p, p < 30 → cI C 179 p = if p < r then 1 else 0) ∧ ∀ p c, p < 30 → c < 4 → cI C 179 (30 + 4 * p + c) = if p < r ∧ c < cols then g p c else 0
section
variable {n h i j N A V B U cols s T T2 b m r : Nat} {C C' : AmC} {x : Nat → Nat} {oth col : Bool}
theorem W0.p (z : W0 b j) : WP h b j := Or.inl (by unfold W0 at z; omega)
theorem WQ.p (hm : m < 8) (z : WQ h A V T (8 * h + m) b j) : WP h b j := by
  rcases z with ((z | z | z) | z | z) | z | z | z | z | z
  · exact W0.p z
  · exact Or.inr (Or.inr (Or.inl (by omega)))
  · exact Or.inr (Or.inr (Or.inr (Or.inr (Or.inr (Or.inl (by omega))))))
  · exact Or.inr (Or.inr (Or.inr (Or.inl (by omega))))
  · exact Or.inr (Or.inr (Or.inr (Or.inr (Or.inr (Or.inl (by omega))))))
  · exact Or.inr (Or.inr (Or.inr (Or.inr (Or.inl (by omega)))))
  · exact Or.inr (Or.inr (Or.inr (Or.inr (Or.inr (Or.inl (by omega))))))
  · exact Or.inr (Or.inr (Or.inr (Or.inr (Or.inr (Or.inr (Or.inr (Or.inr (Or.inl (by omega)))))))))
  · exact Or.inr (Or.inr (Or.inr (Or.inr (Or.inr (Or.inr (Or.inr (Or.inr (Or.inr (by omega)))))))))
  · exact Or.inr (Or.inr (Or.inr (Or.inr (Or.inr (Or.inl (by omega))))))
theorem VL.mm {k : Nat} {v : Val} (hh : h < 2) (hA : A ≤ 460) (hV : V ≤ 320) (g : VL C h A V k v) : VM C k v := by
  obtain ⟨g1, g2, a, g3, g4, g5, g6, g7⟩ := g
  exact ⟨by omega, a, g3, g4, by omega, g7⟩
theorem VOL.mm {y : Int32} {v : Option Val} (hh : h < 2) (hA : A ≤ 460) (hV : V ≤ 320) (g : VOL C h A V y v) : VOM C y v := by
  cases v with
  | none => exact g
  | some w =>
    obtain ⟨k, e, g⟩ := g
    exact ⟨k, e, g.mm hh hA hV⟩
theorem StmL.mm {t : Stm} (hh : h < 2) (hA : A ≤ 460) (hV : V ≤ 320) (hT : T ≤ 160) (g : StmL C h A V T s t) : StmM C s t := by
  obtain ⟨g1, g2, g3, g4, g5, f, g6, g7, g8, g9, g10⟩ := g
  refine ⟨g1, g2, g3, fun c hc => (g4 c hc).mm hh hA hV, fun c hc => (g5 c hc).mm hh hA hV, f, g6, g7, by omega, fun q hq => ?_⟩
  obtain ⟨y1, ⟨k, y2, y3⟩, l, y4, y5⟩ := g10 q hq
  exact ⟨y1, ⟨k, y2, y3.mm hh hA hV⟩, l, y4, y5.mm hh hA hV⟩
theorem ScrL.mm {S : Scr} (hh : h < 2) (hA : A ≤ 460) (hV : V ≤ 320) (hT : T ≤ 160) (g : ScrL C h A V T S) : ScrM C h S := ⟨hh, g.1, g.2.1, g.2.2.1, g.2.2.2.1, g.2.2.2.2.1, g.2.2.2.2.2.1, g.2.2.2.2.2.2.1, fun i hi => (g.2.2.2.2.2.2.2 i hi).mm hh hA hV hT⟩
theorem StmL.keep {t : Stm} (g : StmL C h A V T s t) (K : KpV h A V C C') (e : ∀ b, 170 ≤ b → b ≤ 175 → cI C' b s = cI C b s) (e2 : ∀ b c, b = 176 ∨ b = 177 → c < 4 → cI C' b (4 * s + c) = cI C b (4 * s + c)) (e3 : ∀ b j, 156 ≤ b → b ≤ 158 → 160 * h ≤ j → j < 160 * h + T → cI C' b j = cI C b j) (hA : A ≤ B) (hV : V ≤ U) (hT : T ≤ T2) : StmL C' h B U T2 s t := by
  obtain ⟨g1, g2, g3, g4, g5, f, g6, g7, g8, g9, g10⟩ := g
  refine ⟨by rw [e 170 (by omega) (by omega)]; exact g1, by rw [e 171 (by omega) (by omega)]; exact g2, by rw [e 172 (by omega) (by omega), e 173 (by omega) (by omega)]; exact g3, g4.of K (fun c hc => e2 176 c (Or.inl rfl) hc) hA hV, g5.of K (fun c hc => e2 177 c (Or.inr rfl) hc) hA hV, f, by rw [e 174 (by omega) (by omega)]; exact g6, by rw [e 175 (by omega) (by omega)]; exact g7, g8, by omega, g10.keep K (fun b q z1 z2 z3 => e3 b _ z1 z2 (by omega) (by omega)) hA hV⟩
/-- the statements' cells stay -/
def KpS (C C' : AmC) : Prop := ∀ b, (151 ≤ b ∧ b ≤ 158) ∨ (163 ≤ b ∧ b ≤ 166) ∨ (170 ≤ b ∧ b ≤ 177) → cI C' b = cI C b
theorem KpS.stm {t : Stm} (K : KpS C C') (g : StmL C h A V T s t) : StmL C' h A V T s t := g.keep ⟨fun b j _ _ _ _ => by rw [K b (by omega)], fun b j _ _ _ => by rw [K b (by omega)]⟩ (fun b _ _ => by rw [K b (by omega)]) (fun b c z _ => by rw [K b (by omega)]) (fun b j _ _ _ _ => by rw [K b (by omega)]) (Nat.le_refl _) (Nat.le_refl _) (Nat.le_refl _)
theorem ScrL.of {S : Scr} (g : ScrL C h A V T S) (e : ∀ b, 151 ≤ b → b ≤ 177 → cI C' b = cI C b) : ScrL C' h A V T S := by
  obtain ⟨g1, g2, g3, g4, g5, g6, g7, g8⟩ := g
  have K : KpS C C' := fun b z => e b (by omega) (by omega)
  refine ⟨by rw [e 159 (by omega) (by omega)]; exact g1, by rw [e 160 (by omega) (by omega)]; exact g2, by rw [e 167 (by omega) (by omega), e 168 (by omega) (by omega)]; exact g3, by rw [e 161 (by omega) (by omega)]; exact g4, by rw [e 162 (by omega) (by omega)]; exact g5, by rw [e 169 (by omega) (by omega)]; exact g6, by rw [e 163 (by omega) (by omega)]; exact g7, fun i hi => K.stm (g8 i hi)⟩
theorem TdM.t {g : Nat → Nat → Int32} (hr : r ≤ 30) (t : TdM C cols r g) (h4 : cols ≤ 4) : TabM 30 cols C 179 0 (tlT r g) ∧ TabZ 30 cols C 179 0 (tlT r g) := by
  refine ⟨⟨fun p hp => ?_, fun p hp tp c hc => ?_⟩, fun p hp tp c h1 h2 => ?_⟩
  · rw [Nat.zero_add, t.1 p hp]
    show _ = if decide (p < r) = true then 1 else 0
    by_cases e : p < r
    · rw [if_pos e, if_pos (decide_eq_true e)]
    · rw [if_neg e, if_neg (by rw [decide_eq_true_eq]; exact e)]
  · have tp : decide (p < r) = true := tp
    rw [show 0 + 30 + 4 * p + c = 30 + 4 * p + c by omega, t.2 p c hp (by omega), if_pos ⟨of_decide_eq_true tp, hc⟩]
    rfl
  · rw [show 0 + 30 + 4 * p + c = 30 + 4 * p + c by omega, t.2 p c hp h2, if_neg (by omega)]
theorem TdM.of {g : Nat → Nat → Int32} (t : TdM C cols r g) (e : cI C' 179 = cI C 179) : TdM C' cols r g := by
  unfold TdM
  rw [e]
  exact t
/-- what is told so far -/
def PSm (d : Nat) (C : AmC) (h : Nat) (x : Nat → Nat) (N i : Nat) (t : Tel) (A V T : Nat) : Prop := Pm C h x N i ∧ ScrL C h A V T t.1 ∧ TdM C (sCols t.1) t.2.1 t.2.2 ∧ AM C h A V ∧ cI C 166 h = nI T ∧ (2 * A ≤ ps x N i + d ∧ 3 * V ≤ ps x N i ∧ 6 * T ≤ ps x N i) ∧ cI C 145 53 = nI t.2.1
def RC (h : Nat) (x : Nat → Nat) (N : Nat) (C : AmC) (r : PE Tel) (C' : AmC) : Prop := FrZ (WP h) C C' ∧ ∃ r0, spE x N r0 = r ∧ PRm C' h x N r0 (fun t j => ∃ A V T, PSm 1 C' h x N j t A V T)
theorem RC.fl {k : Nat} {q : PE Tel} (F : FrZ (WP h) C C') (er : q = .inl (k, j)) (f : FltM C' x N k j) : RC h x N C q C' := ⟨F, .inl (k, j), by rw [er]; rfl, Or.inl ⟨k, j, rfl, f⟩⟩
/-! numbers of a row -/
def WN (a r c b j : Nat) : Prop := W0 b j ∨ (b = a ∧ r ≤ j ∧ j < r + c)
theorem b185 {p2 p3 : Int32} {a : Nat} (hP : PInv C) (hh : h < 2) (e41 : cI C 145 41 = nI h) (g : Bd C) (hn : 1 ≤ n) : lp_185_2 n 145 a p2 p3 C = some ((), C) := by
  obtain ⟨n, rfl⟩ : ∃ m, n = m + 1 := ⟨n - 1, by omega⟩
  rw [lp_185_2, if_pos k_145, bd1 (w_145_21 hP), if_pos k_159, e41, l_159, if_pos ((x_in (by omega)).mpr hh), if_pos g]
  split <;> rfl
theorem m185_lp {a r : Nat} (h4 : cols ≤ 4) (ha : isK a 12 = true) (hl : r + cols ≤ aLen a) (hL : aLen a < 2147483648) (a9 : a = 169 ∨ a = 179) : ∀ k c i g C n, c + k = cols → k + 1200 < n → Pm C h x N i → cI C 159 h = nI cols → (∀ d, d < c → cI C a (r + d) = g d) → Rt (lp_185_2 n 145 a (nI r) (nI c) C) (fun _ C' => FrZ (WN a r cols) C C' ∧ PRm C' h x N (spR x N k c i g) (fun g' _ => ∀ d, d < cols → cI C' a (r + d) = g' d)) := by
  intro k
  induction k with
  | zero =>
    intro c i g C n h1 h2 hp hc hg
    obtain ⟨n, rfl⟩ : ∃ m, n = m + 1 := ⟨n - 1, by omega⟩
    have hh := hp.2.1
    rw [lp_185_2, if_pos k_145, bd1 (w_145_21 hp.1), if_pos k_159, hp.2.2.1, l_159, if_pos ((x_in (by omega)).mpr hh), x_cl (by omega), hc, if_pos ((x_le (by omega) (by omega)).mpr (by omega))]
    exact rt_ret ⟨FrZ.refl C, Or.inr ⟨g, i, rfl, hp, fun d hd => hg d (by omega)⟩⟩
  | succ k ih =>
    intro c i g C n h1 h2 hp hc hg
    obtain ⟨n, rfl⟩ : ∃ m, n = m + 1 := ⟨n - 1, by omega⟩
    have P := hp.1
    have hh := hp.2.1
    have e41 := hp.2.2.1
    rw [lp_185_2, if_pos k_145, bd1 (w_145_21 P), if_pos k_159, e41, l_159, if_pos ((x_in (by omega)).mpr hh), x_cl (by omega), hc, if_neg (by rw [x_le (by omega) (by omega)]; omega), if_neg (fun z => z hp.2.2.2.2.2.1)]
    refine rt_bind (rt_mono (m174 (by omega) hp) (fun z D H => ?_))
    obtain ⟨F, H⟩ := H
    dsimp only
    rw [if_pos ha, x_add, if_pos ((x_in (by omega)).mpr (by omega)), x_cl (by omega), x_a1]
    have F2 : FrZ (WN a r cols) C (uI D a (r + c) z) := (F.mono (W' := WN a r cols) (fun _ _ z => Or.inl z)).u (Or.inr ⟨rfl, by omega, by omega⟩)
    have o2 : ∀ b, b ≠ a → cI (uI D a (r + c) z) b = cI D b := fun b hb => r_In hb
    rcases H with ⟨k', j, er, fl⟩ | ⟨v, j, er, p2, rfl⟩
    · have fl2 : FltM (uI D a (r + c) z) x N k' j := fl.of (by rw [o2 145 (by omega)]) (by rw [o2 145 (by omega)])
      rw [b185 (P.of F2.1) hh (by rw [F2.2 145 41 (by unfold WN W0; omega)]; exact e41) fl2.bd (by omega)]
      exact rt_ret ⟨F2, Or.inl ⟨k', j, by rw [spR, er], fl2⟩⟩
    · have es : spR x N (k + 1) c i g = spR x N k (c + 1) j (fun d => if d = c then z else g d) := by rw [spR, er]
      rw [es]
      refine rt_mono (ih (c + 1) j _ _ n (by omega) (by omega) (p2.of rfl (fun _ _ _ => by rw [o2 145 (by omega)]) (o2 178 (by omega))) (by rw [F2.2 159 h (by unfold WN W0; omega)]; exact hc) (fun d hd => ?_)) (fun _ D2 H => ⟨F2.trans H.1, H.2⟩)
      by_cases e : d = c
      · rw [if_pos e, e, r_I, if_pos ⟨rfl, rfl⟩]
      · rw [if_neg e, r_I, if_neg (by omega), F.2 a _ (by unfold W0; omega)]
        exact hg d (by omega)
theorem m185 {a r : Nat} (hn : 1300 ≤ n) (h4 : cols ≤ 4) (ha : isK a 12 = true) (hl : r + cols ≤ aLen a) (hL : aLen a < 2147483648) (a9 : a = 169 ∨ a = 179) (hp : Pm C h x N i) (hc : cI C 159 h = nI cols) {g : Nat → Int32} : Rt (f_185 n 145 a (nI r) C) (fun _ C' => FrZ (WN a r cols) C C' ∧ PRm C' h x N (spR x N cols 0 i g) (fun g' _ => ∀ d, d < cols → cI C' a (r + d) = g' d)) := by
  unfold f_185
  refine rt_bind (rt_mono (m185_lp h4 ha hl hL a9 cols 0 i g C n (by omega) (by omega) hp hc (fun d hd => absurd hd (Nat.not_lt_zero d))) (fun z D H => ?_))
  exact rt_ret H
/-- is there a clash, where the clause ends? -/
def tCl (n : Nat) (D : AmC) : Option (Unit × AmC) := (f_172 n 145 (59 : Int32) D).bind (fun z => match z with | (q119, C120) => (if q119 = 0 then (f_170 n 145 (1 : Int32) (4 : Int32) C120).bind (fun z => match z with | (q123, C124) => some ((), C124)) else (cP C120 145 52).bind (fun r126 => (f_192 n 145 r126 (0 : Int32) (30 : Int32) (cI C120 145 41) C120).bind (fun z => match z with | (q128, C129) => (if ¬ q128 = (-1 : Int32) then (f_170 n 145 (0 : Int32) (4 : Int32) C129).bind (fun z => match z with | (q132, C133) => some ((), C133)) else (f_170 n 145 (1 : Int32) (4 : Int32) C129).bind (fun z => match z with | (q135, C136) => some ((), C136)))))))
theorem clM_fr {o : Option (Nat × Nat)} : FrZ (fun b j => b = 145 ∧ (j = 55 ∨ j = 56)) C (clM C o) := by
  cases o with
  | none => exact FrZ.refl C
  | some q => exact ((FrZ.refl C).u ⟨rfl, by omega⟩).u ⟨rfl, by omega⟩
theorem m_cl {t : Tel} (hn : 2200 ≤ n) (hS : PSm 1 C h x N j t A V T) (hO : ScrOK t.1) (r30 : t.2.1 ≤ 30) (A4 : A ≤ 460) (V3 : V ≤ 320) (T1 : T ≤ 160) : Rt (tCl n C) (fun _ C' => FrZ (WP h) C C' ∧ PRm C' h x N (if tK x N j = 59 ∧ ¬ sClash 30 t.1 (tlT t.2.1 t.2.2) = none then .inl (4, j) else .inr (t, j)) (fun t j => ∃ A V T, PSm 1 C' h x N j t A V T)) := by
  have hp := hS.1
  have hh := hp.2.1
  unfold tCl
  rw [bd1 (mSg (c := 59) (v := 59) hp (by decide) rfl)]
  dsimp only
  by_cases e : tK x N j = 59
  · have w := m192 (n := n) (f := 0) (N := 30) hp.1 (hS.2.1.mm hh A4 V3 T1) hO k_179 (by rw [l_179]; omega) (by omega) (by omega) (hS.2.2.1.t r30 hO.2.1).1 (by omega)
    rw [x_0] at w
    rw [if_pos e, if_neg (by decide), bd1 (w_145_52 hp.1), hp.2.2.1, n_30, bd1 w]
    dsimp only
    have Fc := clM_fr (C := C) (o := (sClash 30 t.1 (tlT t.2.1 t.2.2)).bind (sTwin 30 t.1 (tlT t.2.1 t.2.2)))
    generalize clM C ((sClash 30 t.1 (tlT t.2.1 t.2.2)).bind (sTwin 30 t.1 (tlT t.2.1 t.2.2))) = D at Fc
    have oD : ∀ b, b ≠ 145 → cI D b = cI C b := fun b hb => Fc.c (fun j z => hb z.1)
    have pD : Pm D h x N j := hp.of Fc.1 (fun q _ _ => Fc.2 145 q (by omega)) (oD 178 (by omega))
    have FW : FrZ (WP h) C D := Fc.mono (fun b j z => Or.inl (by omega))
    by_cases cl : sClash 30 t.1 (tlT t.2.1 t.2.2) = none
    · rw [cl, if_neg (fun z => z rfl), bd1 (m170t pD (by decide)), if_neg (fun z => z.2 rfl)]
      obtain ⟨_, s2, s3, s4, s5, s6, s7⟩ := hS
      exact rt_ret ⟨FW, Or.inr ⟨t, j, rfl, pD, A, V, T, pD, s2.of (fun b z1 z2 => oD b (by omega)), s3.of (oD 179 (by omega)), ⟨by rw [oD 164 (by omega)]; exact s4.1, by rw [oD 165 (by omega)]; exact s4.2⟩, by rw [oD 166 (by omega)]; exact s5, s6, by rw [Fc.2 145 53 (by omega)]; exact s7⟩⟩
    · obtain ⟨q1, q2, q3⟩ := m170f (n := n) (k := 4) (v := 4) pD (by omega) rfl
      have ne : ¬ oI (sClash 30 t.1 (tlT t.2.1 t.2.2)) = -1 := by
        cases hc : sClash 30 t.1 (tlT t.2.1 t.2.2) with
        | none => exact absurd hc cl
        | some q =>
          rw [oI_s, x_eqm (by
            have := (qf_some hc).2.1
            have := hO.2.2.1
            omega)]
          exact id
      rw [if_pos ne, bd1 q1, if_pos ⟨e, cl⟩]
      exact rt_ret ⟨FW.trans (q3.mono (fun _ _ z => W0.p z)), Or.inl ⟨4, j, rfl, q2⟩⟩
  · rw [if_neg e, if_pos rfl, bd1 (m170t hp (by decide)), if_neg (fun z => e z.1)]
    exact rt_ret ⟨FrZ.refl C, Or.inr ⟨t, j, rfl, hp, A, V, T, hS⟩⟩
end
