/-! The reference's run: a row is taken. -/
theorem gone_none {t : Stm} {cols : Nat} (k : StmOK cols t) {pl : Option Nat} (hs : ¬ tKd t = 3 → pl.isSome = true) (hg : goneS t pl = true) : ∀ c, valsS t pl c = none := by
  rw [gone_eq k hs] at hg
  simp only [Bool.and_eq_true, Bool.not_eq_true', decide_eq_true_eq] at hg
  intro c
  rw [valsS, if_neg (by rw [hg.1]; decide)]
  exact tCh1 k hg.2 c
theorem over_none {S : Scr} {T : Tab} {t : Stm} {pl o : Option Nat} (h : ∀ c, valsS t pl c = none) : sOver S T t pl o = none := by
  unfold sOver
  rw [qf_none]
  intro q _ _
  simp [ovF, h q]
theorem m217 {n : Nat} {C : AmC} {h i : Nat} {S : Scr} {T : Tab} {t : Stm} {pl o : Option Nat} {o' : Int32} (hw : WhoOK S T t pl o o') (hK : MK C h S i t) (hT : TabM 30 (sCols S) C 180 0 T) (e0 : cI C 145 66 = 0) (hn : 800 ≤ n) : Rt (f_217 n 145 (oI pl) o' C) (fun _ C' => FrK C C' ∧ (isKpt t pl = true → cI C' 145 66 = 0 ∧ cI C' 145 67 = cI C 145 67 ∧ cI C' 145 68 = cI C 145 68) ∧ (isKpt t pl = false → MdM C' S t pl (mkS S T t pl o) ∧ match sOver S T t pl o with
    | none => cI C' 145 66 = 0 ∧ cI C' 145 67 = cI C 145 67 ∧ cI C' 145 68 = cI C 145 68
    | some d => cI C' 145 66 = 2 ∧ cI C' 145 67 = oI pl ∧ cI C' 145 68 = nI d)) := by
  have hp : ∀ p, pl = some p → p < 30 := fun p z => (hw.1 p z).1
  have w215 := m215 (n := n) hK hp
  have w216 := m216 (n := n) hK hp
  have w214 := m214 (n := n) hK hp
  have ne1 : ¬ (1 : Int32) = 0 := by decide
  have F : FrK C (uI C 145 76 0) := (FrK.refl C).u145 _ (by omega)
  have d : ∀ f, ¬ f = 76 → cI (uI C 145 76 0) 145 f = cI C 145 f := fun f hf => by rw [r_I, if_neg (by omega)]
  unfold f_217
  rcases bcs (goneS t pl) with b | b
  · rw [b] at w215
    simp only [↓reduceIte, Bool.false_eq_true, if_false] at w215
    rcases bcs (isKpt t pl) with c | c
    · rw [c] at w216
      simp only [↓reduceIte, Bool.false_eq_true, if_false] at w216
      simp only [↓reduceIte, if_true, if_false, Option.bind_some, k_145, ↓bd1 w215, not_true, ↓bd1 w216, ↓bd1 w214]
      refine rt_bind (rt_mono (m211 (n := n) hw hK hT e0 (by omega)) (fun _ C' H => ?_))
      exact rt_ret ⟨H.1, fun z => (by rw [c] at z; cases z), fun _ => H.2⟩
    · rw [c] at w216
      simp only [↓reduceIte, if_true] at w216
      simp only [↓reduceIte, if_true, if_false, Option.bind_some, k_145, ↓bd1 w215, not_true, ↓bd1 w216, ne1]
      exact rt_ret ⟨F, fun _ => ⟨by rw [d 66 (by decide)]; exact e0, d 67 (by decide), d 68 (by decide)⟩, fun z => (by rw [c] at z; cases z)⟩
  · rw [b] at w215
    simp only [↓reduceIte, if_true] at w215
    simp only [↓reduceIte, if_true, if_false, Option.bind_some, k_145, ↓bd1 w215, ne1, not_false_iff]
    have gn := gone_none hK.2.2.2.2 hw.2.1 b
    refine rt_ret ⟨F, fun _ => ⟨by rw [d 66 (by decide)]; exact e0, d 67 (by decide), d 68 (by decide)⟩, fun _ => ⟨⟨fun c hc => ?_, fun c hc hv => by rw [gn c] at hv; cases hv⟩, ?_⟩⟩
    · rw [r_I, if_pos ⟨rfl, rfl⟩, b_0, gn c]; simp
    · rw [over_none gn]
      exact ⟨by rw [d 66 (by decide)]; exact e0, d 67 (by decide), d 68 (by decide)⟩
theorem m218 {n : Nat} {C : AmC} {h i : Nat} {S : Scr} {r : RS} {t : Stm} {pl : Option Nat} {mk : Nat → Int32} (hK : MK C h S i t) (hF : MrF C S t r) (hE : rE r = 0) (hr1 : r1 r = -1) (hr2 : r2 r = -1) (hw : (rL r).length ≤ 200) (hp : ∀ p, pl = some p → p < 30) (hs : ¬ tKd t = 3 → pl.isSome = true) (hh : ∀ p, pl = some p → isNewS t pl = false → (rT r).1 p = true) (hM : isKpt t pl = false → MdM C S t pl mk) (hnew : isNewS t pl = true → ∀ c, c < sCols S → (tNew t c).isSome = true) (hn : 200 ≤ n) : Rt (f_218 n 145 (oI pl) C) (fun _ C' => MrF C' S t (if isKpt t pl = true then r else sWrite t pl mk r) ∧ FrM 65 C C' ∧ cI C' 145 76 = cI C 145 76 ∧ cI C' 145 80 = cI C 145 80 ∧ ∀ b, 187 ≤ b → cI C' b = cI C b) := by
  have w215 := m215 (n := n) hK hp
  have w216 := m216 (n := n) hK hp
  have w214 := m214 (n := n) hK hp
  have ne1 : ¬ (1 : Int32) = 0 := by decide
  have f4 : cI C 145 66 = 0 := by rw [hF.2.2.2.1]; exact hE
  unfold f_218
  rcases bcs (isKpt t pl) with c | c
  · rw [c] at w216
    simp only [↓reduceIte, Bool.false_eq_true, if_false] at w216
    have hM := hM c
    rw [c]
    simp only [↓reduceIte, Bool.false_eq_true, if_false]
    rcases bcs (goneS t pl) with b | b
    · rw [b] at w215
      simp only [↓reduceIte, Bool.false_eq_true, if_false] at w215
      rcases bcs (isNewS t pl) with d | d
      · have w213 := m213 (n := n) (wh := 0) hK hF hE hr1 hr2 hw hp (by simp [b, d]) hs hh hM hnew (by omega)
        rw [d] at w214
        simp only [↓reduceIte, Bool.false_eq_true, if_false] at w214
        simp only [↓reduceIte, if_true, if_false, Option.bind_some, k_145, f4, not_true, ↓bd1 w216, ↓bd1 w215, ↓bd1 w214]
        exact rt_bind (rt_mono w213 (fun _ C' H => rt_ret H))
      · have w213 := m213 (n := n) (wh := 2) hK hF hE hr1 hr2 hw hp (by simp [b, d]) hs hh hM hnew (by omega)
        rw [d] at w214
        simp only [↓reduceIte, if_true] at w214
        simp only [↓reduceIte, if_true, if_false, Option.bind_some, k_145, f4, not_true, ↓bd1 w216, ↓bd1 w215, ↓bd1 w214, ne1]
        exact rt_bind (rt_mono w213 (fun _ C' H => rt_ret H))
    · rw [b] at w215
      simp only [↓reduceIte, if_true] at w215
      have w213 := m213 (n := n) (wh := 1) hK hF hE hr1 hr2 hw hp (by simp [b]) hs hh hM hnew (by omega)
      simp only [↓reduceIte, if_true, if_false, Option.bind_some, k_145, f4, not_true, ↓bd1 w216, ↓bd1 w215, ne1]
      exact rt_bind (rt_mono w213 (fun _ C' H => rt_ret H))
  · rw [c] at w216
    simp only [↓reduceIte, if_true] at w216
    rw [c]
    simp only [↓reduceIte, if_true, if_false, Option.bind_some, k_145, f4, not_true, not_false_iff, ↓bd1 w216, ne1]
    exact rt_ret ⟨hF, FrM.refl _ _, rfl, rfl, fun _ _ => rfl⟩
/-- the reference's spool -/
def ItM (C : AmC) (S : Scr) (t : Stm) (stage : Nat) (L : List Itm) : Prop := cI C 145 80 = nI L.length ∧ L.length ≤ 320 ∧ ∀ i (h : i < L.length), cI C 188 i = oI L[i].1 ∧ (tKd t = 3 → ∃ q, L[i].2.1 = some q ∧ cI C 189 i = nI q) ∧ (stage = 3 → isKpt t L[i].1 = false → ∀ c, c < sCols S → (valsS t L[i].1 c).isSome = true → cI C 190 (4 * i + c) = L[i].2.2 c)
theorem ItM.of {C C1 : AmC} {S : Scr} {t : Stm} {stage : Nat} {L : List Itm} (h : ItM C S t stage L) (e80 : cI C1 145 80 = cI C 145 80) (e : ∀ b, 188 ≤ b → b ≤ 190 → cI C1 b = cI C b) : ItM C1 S t stage L := by
  unfold ItM
  rw [e80, e 188 (by omega) (by omega), e 189 (by omega) (by omega), e 190 (by omega) (by omega)]
  exact h
def nKp (t : Stm) (q : Itm) : Bool := !isKpt t q.1
/-- an item's row and its one of others -/
def ItV (S : Scr) (t : Stm) (q : Itm) : Prop := (∀ p, q.1 = some p → p < 30) ∧ (¬ tKd t = 3 → q.1.isSome = true) ∧ (tKd t = 3 → ∃ o, q.2.1 = some o ∧ o < (sOth S).length)
def MasC (C : AmC) (S : Scr) (t : Stm) (stage N : Nat) (x : RS × List Itm) : Prop := MrF C S t x.1 ∧ (rE x.1 = 0 → r1 x.1 = -1 ∧ r2 x.1 = -1 ∧ ∃ L, ItM C S t stage L ∧ L.filter (nKp t) = x.2 ∧ L.length ≤ N ∧ ∀ q ∈ L, ItV S t q)
theorem m219_lp {w : Nat} (hw : w < 320) : ∀ k c n C, c + k = 4 → k < n → PInv C → cI C 145 80 = nI w → Rt (lp_219_55 n 145 (nI c) C) (fun z C' => z = 145 ∧ cP C' = cP C ∧ cJ C' = cJ C ∧ (∀ b, ¬ b = 190 → cI C' b = cI C b) ∧ ∀ j, cI C' 190 j = if 4 * w + c ≤ j ∧ j < 4 * w + 4 then cI C 187 (j - 4 * w) else cI C 190 j) := by
  intro k
  induction k with
  | zero =>
    intro c n C h1 h2 hP _
    obtain ⟨n, rfl⟩ : ∃ m, n = m + 1 := ⟨n - 1, by omega⟩
    have h3 : 4 ≤ c := by omega
    simp (disch := omega) only [lp_219_55, ↓reduceIte, n_2, n_3, n_4, n_5, n_6, n_7, n_8, n_10, n_12, n_20, n_30, n_40, n_100, n_120, n_150, n_200, n_230, n_320, n_450, n_900, x_le, x_lt, x_eq, x_lt0, x_le0, x_0le, x_0lt, x_eq0, x_eq1, x_1lt, x_le1, x_lt1, x_1le, x_eqm, x_add, x_a1, x_1a, x_a0, x_0a, x_mul, x_sub, x_s1, x_1s, x_div, x_cl, x_cl0, x_cl1, x_in, x_in0, x_in1, x_ofNat, h3, if_true]
    exact rt_ret ⟨rfl, rfl, rfl, fun _ _ => rfl, fun j => by rw [if_neg (by omega)]⟩
  | succ k ih =>
    intro c n C h1 h2 hP e80
    obtain ⟨n, rfl⟩ : ∃ m, n = m + 1 := ⟨n - 1, by omega⟩
    have h3 : ¬ 4 ≤ c := by omega
    have c4 : c < 4 := by omega
    have i2 : 4 * w + c < 1280 := by omega
    simp (disch := omega) only [lp_219_55, if_true, if_false, Option.bind_some, k_145, ↓reduceIte, n_2, n_3, n_4, n_5, n_6, n_7, n_8, n_10, n_12, n_20, n_30, n_40, n_100, n_120, n_150, n_200, n_230, n_320, n_450, n_900, x_le, x_lt, x_eq, x_lt0, x_le0, x_0le, x_0lt, x_eq0, x_eq1, x_1lt, x_le1, x_lt1, x_1le, x_eqm, x_add, x_a1, x_1a, x_a0, x_0a, x_mul, x_sub, x_s1, x_1s, x_div, x_cl, x_cl0, x_cl1, x_in, x_in0, x_in1, x_ofNat, h3, ↓bd1 (w_145_79 hP), k_190, l_190, ↓bd1 (w_145_75 hP), k_187, l_187, c4, e80, i2]
    refine rt_mono (ih (c + 1) n _ (by omega) (by omega) (hP.of rfl) (by rw [r_In (by decide)]; exact e80)) (fun z C' H => ?_)
    obtain ⟨H1, H2, H3, H4, H5⟩ := H
    refine ⟨H1, H2, H3, fun b hb => by rw [H4 b hb, r_In hb], fun j => ?_⟩
    rw [H5 j, r_In (by decide), r_I]
    by_cases e : j = 4 * w + c
    · subst e
      rw [if_neg (by omega), if_pos ⟨rfl, rfl⟩, if_pos (by omega), show 4 * w + c - 4 * w = c from by omega]
    · by_cases z : 4 * w + (c + 1) ≤ j ∧ j < 4 * w + 4
      · have z' : 4 * w + c ≤ j ∧ j < 4 * w + 4 := by omega
        rw [if_pos z, if_pos z']
      · rw [if_neg z, if_neg (by omega), if_neg (by omega)]
/-- an item comes into the reference's spool -/
theorem m219_push {n : Nat} {C : AmC} {S : Scr} {t : Stm} {stage : Nat} {L : List Itm} {q : Itm} {o' : Int32} (hP : PInv C) (hL : ItM C S t stage L) (hlen : L.length < 320) (h4 : sCols S ≤ 4) (ho : tKd t = 3 → ∃ z, q.2.1 = some z ∧ o' = nI z) (h3 : stage = 3 → isKpt t q.1 = false → ∀ c, c < sCols S → (valsS t q.1 c).isSome = true → cI C 187 c = q.2.2 c) (hn : 20 ≤ n) : Rt ((lp_219_55 n 145 0 (uI (uI C 188 L.length (oI q.1)) 189 L.length o')).bind (fun z => match z with
    | (u, C9) => if isK u 10 = true then some ((), uI C9 u 80 (cI C9 u 80 + 1)) else none)) (fun _ C' => ItM C' S t stage (L ++ [q]) ∧ FrM 65 C C' ∧ (∀ f, ¬ f = 80 → cI C' 145 f = cI C 145 f) ∧ ∀ b, b ≤ 187 → ¬ b = 145 → cI C' b = cI C b) := by
  obtain ⟨g1, g2, g3⟩ := hL
  have a145 : cI (uI (uI C 188 L.length (oI q.1)) 189 L.length o') 145 = cI C 145 := by rw [r_In (by decide), r_In (by decide)]
  have a187 : cI (uI (uI C 188 L.length (oI q.1)) 189 L.length o') 187 = cI C 187 := by rw [r_In (by decide), r_In (by decide)]
  have a188 : ∀ j, cI (uI (uI C 188 L.length (oI q.1)) 189 L.length o') 188 j = if j = L.length then oI q.1 else cI C 188 j := fun j => by rw [r_In (by decide), r_I]; simp
  have a189 : ∀ j, cI (uI (uI C 188 L.length (oI q.1)) 189 L.length o') 189 j = if j = L.length then o' else cI C 189 j := fun j => by rw [r_I, r_In (by decide)]; simp
  have ao : ∀ b, ¬ b = 188 → ¬ b = 189 → cI (uI (uI C 188 L.length (oI q.1)) 189 L.length o') b = cI C b := fun b z1 z2 => by rw [r_In z2, r_In z1]
  have P1 : PInv (uI (uI C 188 L.length (oI q.1)) 189 L.length o') := hP.of rfl
  have pq : cP (uI (uI C 188 L.length (oI q.1)) 189 L.length o') = cP C := rfl
  have jq : cJ (uI (uI C 188 L.length (oI q.1)) 189 L.length o') = cJ C := rfl
  generalize uI (uI C 188 L.length (oI q.1)) 189 L.length o' = B at a145 a187 a188 a189 ao P1 pq jq
  have Lp := m219_lp (n := n) hlen 4 0 (C := B) rfl (by omega) P1 (by rw [a145]; exact g1)
  rw [x_0] at Lp
  refine rt_bind (rt_mono Lp (fun z C9 H => ?_))
  obtain ⟨H1, H2, H3, H4, H5⟩ := H
  subst H1
  dsimp only
  rw [if_pos k_145]
  have d145 : ∀ f, ¬ f = 80 → cI (uI C9 145 80 (cI C9 145 80 + 1)) 145 f = cI C 145 f := fun f hf => by rw [r_I, if_neg (by omega), H4 145 (by decide), a145]
  have dO : ∀ b, ¬ b = 145 → cI (uI C9 145 80 (cI C9 145 80 + 1)) b = cI C9 b := fun b hb => r_In hb
  refine rt_ret ⟨⟨?_, by simp; omega, fun i hi => ?_⟩, ⟨by show cP C9 = _; rw [H2, pq], by show cJ C9 = _; rw [H3, jq], fun b hb => ?_, fun f hf => d145 f (by omega)⟩, d145, fun b z1 z2 => by rw [dO b z2, H4 b (by omega), ao b (by omega) (by omega)]⟩
  · rw [r_I, if_pos ⟨rfl, rfl⟩, H4 145 (by decide), a145, g1, x_a1]; simp
  · rw [dO 188 (by decide), dO 189 (by decide), dO 190 (by decide), H4 188 (by decide), H4 189 (by decide), a188, a189]
    by_cases e : i < L.length
    · rw [List.getElem_append_left e, if_neg (by omega), if_neg (by omega)]
      obtain ⟨y1, y2, y3⟩ := g3 i e
      refine ⟨y1, y2, fun z1 z2 c hc hv => ?_⟩
      rw [H5, if_neg (by omega), ao 190 (by decide) (by decide)]
      exact y3 z1 z2 c hc hv
    · have ei : i = L.length := by
        simp only [List.length_append, List.length_cons, List.length_nil] at hi
        omega
      subst ei
      rw [List.getElem_append_right (Nat.le_refl _), if_pos rfl, if_pos rfl]
      simp only [Nat.sub_self, List.getElem_cons_zero]
      refine ⟨trivial, ho, fun z1 z2 c hc hv => ?_⟩
      rw [H5, if_pos (by omega), show 4 * L.length + c - 4 * L.length = c from by omega, a187]
      exact h3 z1 z2 c hc hv
  · have : ¬ b = 145 ∧ ¬ b = 188 ∧ ¬ b = 189 ∧ ¬ b = 190 := by unfold MX at hb; omega
    rw [dO b (by omega), H4 b (by omega), ao b (by omega) (by omega)]
theorem MrF.K {C C1 : AmC} {S : Scr} {t : Stm} {r : RS} {e x y : Int32} (h : MrF C S t r) (F : FrK C C1) (h1 : cI C1 145 66 = e) (h2 : cI C1 145 67 = x) (h3 : cI C1 145 68 = y) : MrF C1 S t (rEnd r e x y) := by
  obtain ⟨f1, f2, f3, f4, f5, f6, f7, f8⟩ := h
  have d : ∀ b, ¬ b = 145 → ¬ b = 187 → cI C1 b = cI C b := F.2.2.1
  refine ⟨f1.of (d 180 (by decide) (by decide)), ?_, by rw [F.2.2.2 65 (by decide) (by decide) (by decide) (by decide)]; exact f3, h1, h2, h3, fun p hp => by rw [d 186 (by decide) (by decide)]; exact f7 p hp, fun i hi => ?_⟩
  · unfold TabZ; rw [d 180 (by decide) (by decide)]; exact f2
  · unfold LgM
    rw [d 182 (by decide) (by decide), d 183 (by decide) (by decide), d 184 (by decide) (by decide), d 185 (by decide) (by decide)]
    exact f8 i hi
theorem rEnd_self {r : RS} (h : rE r = 0) (h1 : r1 r = -1) (h2 : r2 r = -1) : rEnd r 0 (-1) (-1) = r := by
  obtain ⟨T, ⟨e, x, y⟩, z⟩ := r
  unfold rE at h
  unfold r1 at h1
  unfold r2 at h2
  dsimp only at h h1 h2
  rw [h, h1, h2]
  rfl
theorem sWrite_12 {t : Stm} {pl : Option Nat} {mk : Nat → Int32} {r : RS} (h1 : r1 r = -1) (h2 : r2 r = -1) : r1 (sWrite t pl mk r) = -1 ∧ r2 (sWrite t pl mk r) = -1 := by
  unfold sWrite
  cases sAt (rT r) t pl with
  | none => exact ⟨rfl, rfl⟩
  | some q =>
    dsimp only
    by_cases c : 200 ≤ (rL r).length
    · rw [if_pos c]; exact ⟨rfl, rfl⟩
    · rw [if_neg c]; exact ⟨h1, h2⟩
theorem filt_push {t : Stm} {L : List Itm} {q : Itm} : (L ++ [q]).filter (nKp t) = L.filter (nKp t) ++ (if isKpt t q.1 = true then [] else [q]) := by
  rw [List.filter_append]
  congr 1
  unfold nKp
  rcases bcs (isKpt t q.1) with b | b <;> simp [b]
theorem m219 {n : Nat} {C : AmC} {h i stage N : Nat} {S : Scr} {x : RS × List Itm} {t : Stm} {pl o : Option Nat} {o' : Int32} (hst : stage ≤ 3) (hw : WhoOK S (rT x.1) t pl o o') (hK : MK C h S i t) (hF : MasC C S t stage N x) (hE : rE x.1 = 0) (hwl : (rL x.1).length ≤ 200) (hN : N < 320) (hnew : isNewS t pl = true → ∀ c, c < sCols S → (tNew t c).isSome = true) (hn : 1400 ≤ n) : Rt (f_219 n 145 (oI pl) o' (nI stage) C) (fun _ C' => MasC C' S t stage (N + min stage 1) (sMeet S t stage pl o x) ∧ FrM 65 C C') := by
  have hK0 := hK
  obtain ⟨⟨hP, hh2, hS, hO⟩, k2, k3, k4, k5⟩ := hK
  obtain ⟨r, its⟩ := x
  dsimp only at hw hE hwl
  obtain ⟨f, g⟩ := hF
  dsimp only at f g
  obtain ⟨e1, e2, L, gL, gf, gN, gV⟩ := g hE
  have f66 : cI C 145 66 = 0 := by rw [f.2.2.2.1]; exact hE
  have f67 : cI C 145 67 = -1 := by rw [f.2.2.2.2.1]; exact e1
  have f68 : cI C 145 68 = -1 := by rw [f.2.2.2.2.2.1]; exact e2
  have hp : ∀ p, pl = some p → p < 30 := fun p z => (hw.1 p z).1
  have hcol := hO.2.1
  have hkd := k5.1
  have keep : PInv C → MasC C S t stage (N + min stage 1) (r, its) := fun _ => ⟨f, fun _ => ⟨e1, e2, L, gL, gf, by omega, gV⟩⟩
  have w217 := m217 (n := n) hw hK0 f.1 f66 (by omega)
  -- an item of what stands in C1
  have push : ∀ (C1 : AmC) (mk : Nat → Int32), ¬ stage = 0 → PInv C1 → MrF C1 S t r → FrM 65 C C1 → ItM C1 S t stage L → (stage = 3 → isKpt t pl = false → ∀ c, c < sCols S → (valsS t pl c).isSome = true → cI C1 187 c = mk c) → Rt ((lp_219_55 n 145 0 (uI (uI C1 188 L.length (oI pl)) 189 L.length o')).bind (fun z => match z with
      | (u, C9) => if isK u 10 = true then some ((), uI C9 u 80 (cI C9 u 80 + 1)) else none)) (fun _ C' => MasC C' S t stage (N + min stage 1) (r, if isKpt t pl = true then its else its ++ [(pl, o, mk)]) ∧ FrM 65 C C') := by
    intro C1 mk hs0 P1 M1 F1 I1 h3
    refine rt_mono (m219_push (q := (pl, o, mk)) (n := n) P1 I1 (by omega) hcol (fun z => ?_) h3 (by omega)) (fun _ C2 H => ?_)
    · obtain ⟨q, y1, _, y2⟩ := hw.2.2 z
      exact ⟨q, y1, y2⟩
    · obtain ⟨H1, H2, H3, H4⟩ := H
      refine ⟨⟨M1.of (fun f _ _ => H3 f (by omega)) (fun b hb => H4 b (by omega) (by omega)), fun _ => ⟨e1, e2, L ++ [(pl, o, mk)], H1, ?_, by simp only [List.length_append, List.length_cons, List.length_nil]; omega, fun q hq => ?_⟩⟩, F1.trans H2⟩
      rotate_left
      · rcases List.mem_append.mp hq with hq | hq
        · exact gV q hq
        · simp only [List.mem_singleton] at hq
          subst hq
          refine ⟨hp, hw.2.1, fun z => ?_⟩
          obtain ⟨q, y1, y2, _⟩ := hw.2.2 z
          exact ⟨q, y1, y2⟩
      rw [filt_push, gf]
      dsimp only
      rcases bcs (isKpt t pl) with b | b <;> simp [b]
  -- the numbers of the spool
  have i80 : cI C 145 80 = nI L.length := gL.1
  have hl320 : L.length < 320 := by omega
  have main : (¬ stage = 1 → sHolds S (rT r) pl t = true) → Rt (if stage = 0 then (f_217 n 145 (oI pl) o' C).bind (fun z => match z with
      | (_, C1) => (f_218 n 145 (oI pl) C1).bind (fun z => match z with
        | (_, C2) => some ((), C2))) else if stage = 3 then (f_217 n 145 (oI pl) o' C).bind (fun z => match z with
      | (_, C1) => if cI C1 145 66 = 0 then (lp_219_55 n 145 0 (uI (uI C1 188 L.length (oI pl)) 189 L.length o')).bind (fun z => match z with
        | (u, C9) => if isK u 10 = true then some ((), uI C9 u 80 (cI C9 u 80 + 1)) else none) else some ((), C1)) else (lp_219_55 n 145 0 (uI (uI C 188 L.length (oI pl)) 189 L.length o')).bind (fun z => match z with
        | (u, C9) => if isK u 10 = true then some ((), uI C9 u 80 (cI C9 u 80 + 1)) else none)) (fun _ C' => MasC C' S t stage (N + min stage 1) (sMeet S t stage pl o (r, its)) ∧ FrM 65 C C') := by
    intro hho
    by_cases s0 : stage = 0
    · rw [if_pos s0]
      have b := hho (by omega)
      refine rt_bind (rt_mono w217 (fun _ C1 H => ?_))
      obtain ⟨H1, H2, H3⟩ := H
      have K1 := hK0.fr H1.frM (by decide)
      have I1 : ItM C1 S t stage L := gL.of (H1.2.2.2 80 (by decide) (by decide) (by decide) (by decide)) (fun b z1 z2 => H1.2.2.1 b (by omega) (by omega))
      dsimp only
      rcases bcs (isKpt t pl) with c | c
      · obtain ⟨Md, Ov⟩ := H3 c
        have e : sMeet S t stage pl o (r, its) = (sMkW S t pl o r, its) := by simp [sMeet, c, s0, b]
        rw [e]
        cases hov : sOver S (rT r) t pl o with
        | none =>
          rw [hov] at Ov
          obtain ⟨y1, y2, y3⟩ := Ov
          have M1 : MrF C1 S t r := by
            have := f.K H1 y1 (y2.trans f67) (y3.trans f68)
            rw [rEnd_self hE e1 e2] at this
            exact this
          have e9 : sMkW S t pl o r = sWrite t pl (mkS S (rT r) t pl o) r := by rw [sMkW, hov]
          have w218 := m218 (n := n) (mk := mkS S (rT r) t pl o) K1 M1 hE e1 e2 hwl hp hw.2.1 (fun p z _ => (hw.1 p z).2) (fun _ => Md) hnew (by omega)
          rw [c] at w218
          simp only [↓reduceIte, Bool.false_eq_true, if_false] at w218
          refine rt_bind (rt_mono w218 (fun _ C2 G => ?_))
          obtain ⟨G1, G2, G3, G4, G5⟩ := G
          rw [e9]
          have o12 := sWrite_12 (t := t) (pl := pl) (mk := mkS S (rT r) t pl o) e1 e2
          exact rt_ret ⟨⟨G1, fun _ => ⟨o12.1, o12.2, L, I1.of G4 (fun b z1 z2 => G5 b (by omega)), gf, by omega, gV⟩⟩, H1.frM.trans G2⟩
        | some d =>
          rw [hov] at Ov
          obtain ⟨y1, y2, y3⟩ := Ov
          have M1 := f.K H1 y1 y2 y3
          have e9 : sMkW S t pl o r = rEnd r 2 (oI pl) (nI d) := by rw [sMkW, hov]
          have ne2 : ¬ cI C1 145 66 = 0 := by rw [y1]; decide
          unfold f_218
          rw [if_pos k_145, if_pos ne2]
          rw [e9]
          exact rt_ret ⟨⟨M1, fun z => absurd z (by show ¬ (2 : Int32) = 0; decide)⟩, H1.frM⟩
      · have e : sMeet S t stage pl o (r, its) = (r, its) := by simp [sMeet, c]
        rw [e]
        obtain ⟨y1, y2, y3⟩ := H2 c
        have M1 : MrF C1 S t r := by
          have := f.K H1 y1 (y2.trans f67) (y3.trans f68)
          rw [rEnd_self hE e1 e2] at this
          exact this
        have w218 := m218 (n := n) (mk := mkS S (rT r) t pl o) K1 M1 hE e1 e2 hwl hp hw.2.1 (fun p z _ => (hw.1 p z).2) (fun z => by rw [c] at z; cases z) hnew (by omega)
        rw [c] at w218
        simp only [↓reduceIte, if_true] at w218
        refine rt_bind (rt_mono w218 (fun _ C2 G => ?_))
        obtain ⟨G1, G2, G3, G4, G5⟩ := G
        exact rt_ret ⟨⟨G1, fun _ => ⟨e1, e2, L, I1.of G4 (fun b z1 z2 => G5 b (by omega)), gf, by omega, gV⟩⟩, H1.frM.trans G2⟩
    · rw [if_neg s0]
      by_cases s3 : stage = 3
      · rw [if_pos s3]
        have b := hho (by omega)
        refine rt_bind (rt_mono w217 (fun _ C1 H => ?_))
        obtain ⟨H1, H2, H3⟩ := H
        have K1 := hK0.fr H1.frM (by decide)
        have I1 : ItM C1 S t stage L := gL.of (H1.2.2.2 80 (by decide) (by decide) (by decide) (by decide)) (fun b z1 z2 => H1.2.2.1 b (by omega) (by omega))
        dsimp only
        rcases bcs (isKpt t pl) with c | c
        · obtain ⟨Md, Ov⟩ := H3 c
          cases hov : sOver S (rT r) t pl o with
          | none =>
            rw [hov] at Ov
            obtain ⟨y1, y2, y3⟩ := Ov
            have e : sMeet S t stage pl o (r, its) = (r, its ++ [(pl, o, mkS S (rT r) t pl o)]) := by simp [sMeet, c, s3, b, hov]
            rw [e, if_pos y1]
            have M1 : MrF C1 S t r := by
              have := f.K H1 y1 (y2.trans f67) (y3.trans f68)
              rw [rEnd_self hE e1 e2] at this
              exact this
            have := push C1 (mkS S (rT r) t pl o) s0 K1.1.1 M1 H1.frM I1 (fun _ _ => Md.2)
            rw [c] at this
            simpa only [↓reduceIte, Bool.false_eq_true, if_false] using this
          | some d =>
            rw [hov] at Ov
            obtain ⟨y1, y2, y3⟩ := Ov
            have e : sMeet S t stage pl o (r, its) = (rEnd r 2 (oI pl) (nI d), its) := by simp [sMeet, c, s3, b, hov]
            have ne2 : ¬ cI C1 145 66 = 0 := by rw [y1]; decide
            rw [e, if_neg ne2]
            exact rt_ret ⟨⟨f.K H1 y1 y2 y3, fun z => absurd z (by show ¬ (2 : Int32) = 0; decide)⟩, H1.frM⟩
        · obtain ⟨y1, y2, y3⟩ := H2 c
          have e : sMeet S t stage pl o (r, its) = (r, its) := by simp [sMeet, c]
          rw [e, if_pos y1]
          have M1 : MrF C1 S t r := by
            have := f.K H1 y1 (y2.trans f67) (y3.trans f68)
            rw [rEnd_self hE e1 e2] at this
            exact this
          have := push C1 (fun _ => 0) s0 K1.1.1 M1 H1.frM I1 (fun _ z => by rw [c] at z; cases z)
          rw [c] at this
          simpa only [↓reduceIte, if_true] using this
      · rw [if_neg s3]
        have := push C (fun _ => 0) s0 hP f (FrM.refl _ _) gL (fun z => absurd z s3)
        rcases bcs (isKpt t pl) with c | c
        · have e : sMeet S t stage pl o (r, its) = (r, its ++ [(pl, o, fun _ => 0)]) := by
            by_cases s1 : stage = 1
            · simp [sMeet, c, s1]
            · simp [sMeet, c, s0, s3, hho s1]
          rw [e]
          rw [c] at this
          simpa only [↓reduceIte, Bool.false_eq_true, if_false] using this
        · have e : sMeet S t stage pl o (r, its) = (r, its) := by simp [sMeet, c]
          rw [e]
          rw [c] at this
          simpa only [↓reduceIte, if_true] using this
  have hm3 : tKd t = 3 → sHolds S (rT r) pl t = true := fun z => by
    unfold sHolds
    rw [k5.2.2.2.2.2.2.2.2.2.2.2.2.1 z]
    rfl
  have ne1 : ¬ (1 : Int32) = 0 := by decide
  have kd3 : (nI (tKd t) = (3 : Int32)) ↔ tKd t = 3 := by rw [n_3, x_eq (by omega) (by omega)]
  have w80 : ∀ (X : AmC) (j : Nat) (v : Int32), cI (uI X 188 j v) 145 80 = cI X 145 80 := fun X j v => by rw [r_In (by decide)]
  obtain ⟨u7, C7, eq7, H71, _⟩ := id w217
  have P7 : PInv C7 := hP.of H71.1
  have c80 : cI C7 145 80 = nI L.length := by rw [H71.2.2.2 80 (by decide) (by decide) (by decide) (by decide)]; exact i80
  have cl80 : Int32.toNatClampNeg (nI L.length) = L.length := x_cl (by omega)
  have in80 : amIn (nI L.length) 320 = true := by rw [x_in (by omega)]; exact hl320
  have u7e : u7 = () := rfl
  have hst4 : stage = 0 ∨ stage = 1 ∨ stage = 2 ∨ stage = 3 := by omega
  by_cases h3 : tKd t = 3
  · have M := main (fun _ => hm3 h3)
    have y3 : (nI (tKd t) = (3 : Int32)) = True := by rw [kd3]; simp [h3]
    unfold f_219
    rcases hst4 with rfl | rfl | rfl | rfl
    · have t0 : (nI 0 = (0 : Int32)) = True := by decide
      have t1 : (nI 0 = (1 : Int32)) = False := by decide
      have t3 : (nI 0 = (3 : Int32)) = False := by decide
      simp only [↓reduceIte, if_true, if_false, show (0 : Nat) = 0 ↔ True from by decide, show (0 : Nat) = 3 ↔ False from by decide] at M
      simp (disch := omega) only [↓reduceIte, if_true, if_false, Option.bind_some, k_145, ↓bd1 (w_145_32 hP), k_170, l_170, k2, x_in, x_cl, k3, k4.1, y3, t0, t1, t3, not_true, not_false_iff]
      exact M
    · have t0 : (nI 1 = (0 : Int32)) = False := by decide
      have t1 : (nI 1 = (1 : Int32)) = True := by decide
      have t3 : (nI 1 = (3 : Int32)) = False := by decide
      simp only [↓reduceIte, if_true, if_false, show (1 : Nat) = 0 ↔ False from by decide, show (1 : Nat) = 3 ↔ False from by decide] at M
      simp (disch := omega) only [↓reduceIte, if_true, if_false, Option.bind_some, k_145, ↓bd1 (w_145_32 hP), k_170, l_170, k2, x_in, x_cl, k3, k4.1, y3, t0, t1, t3, not_true, not_false_iff, f66, ↓bd1 (w_145_77 hP), k_188, l_188, ↓bp_I, ↓bd1 (w_145_78 hP), k_189, l_189, i80, w80, cl80, in80]
      exact M
    · have t0 : (nI 2 = (0 : Int32)) = False := by decide
      have t1 : (nI 2 = (1 : Int32)) = False := by decide
      have t3 : (nI 2 = (3 : Int32)) = False := by decide
      simp only [↓reduceIte, if_true, if_false, show (2 : Nat) = 0 ↔ False from by decide, show (2 : Nat) = 3 ↔ False from by decide] at M
      simp (disch := omega) only [↓reduceIte, if_true, if_false, Option.bind_some, k_145, ↓bd1 (w_145_32 hP), k_170, l_170, k2, x_in, x_cl, k3, k4.1, y3, t0, t1, t3, not_true, not_false_iff, f66, ↓bd1 (w_145_77 hP), k_188, l_188, ↓bp_I, ↓bd1 (w_145_78 hP), k_189, l_189, i80, w80, cl80, in80]
      exact M
    · have t0 : (nI 3 = (0 : Int32)) = False := by decide
      have t1 : (nI 3 = (1 : Int32)) = False := by decide
      have t3 : (nI 3 = (3 : Int32)) = True := by decide
      simp only [↓reduceIte, if_true, if_false, show (3 : Nat) = 0 ↔ False from by decide, show (3 : Nat) = 3 ↔ True from by decide] at M
      rw [eq7] at M
      simp only [Option.bind_some] at M
      by_cases z66 : cI C7 145 66 = 0
      · simp only [↓reduceIte, z66, if_true] at M
        simp (disch := omega) only [↓reduceIte, if_true, if_false, Option.bind_some, k_145, ↓bd1 (w_145_32 hP), k_170, l_170, k2, x_in, x_cl, k3, k4.1, y3, t0, t1, t3, not_true, not_false_iff, eq7, z66, ↓bd1 (w_145_77 P7), k_188, l_188, ↓bp_I, ↓bd1 (w_145_78 P7), k_189, l_189, c80, w80, cl80, in80]
        exact M
      · simp only [↓reduceIte, z66, if_false] at M
        simp (disch := omega) only [↓reduceIte, if_true, if_false, Option.bind_some, k_145, ↓bd1 (w_145_32 hP), k_170, l_170, k2, x_in, x_cl, k3, k4.1, y3, t0, t1, t3, not_true, not_false_iff, eq7, z66]
        exact M
  · have y3 : (nI (tKd t) = (3 : Int32)) = False := by rw [kd3]; simp [h3]
    have plS : ∃ p, pl = some p := by
      have := hw.2.1 h3
      cases h9 : pl with
      | none => rw [h9] at this; cases this
      | some p => exact ⟨p, rfl⟩
    obtain ⟨p, hpl⟩ := plS
    have kp : isKpt t pl = false := by rw [kpt_eq k5]; simp [h3]
    have w210 : f_210 n 145 (oI pl) C = some (if sHolds S (rT r) pl t = true then 1 else 0, C) := by
      rw [hpl]
      exact m210 hK0.1 f.1 (hp p hpl) (hw.1 p hpl).2 k2 k3 k4 k5 (by omega)
    unfold f_219
    by_cases s1 : stage = 1
    · have M := main (fun z => absurd s1 z)
      subst s1
      have t0 : (nI 1 = (0 : Int32)) = False := by decide
      have t1 : (nI 1 = (1 : Int32)) = True := by decide
      have t3 : (nI 1 = (3 : Int32)) = False := by decide
      simp only [↓reduceIte, if_true, if_false, show (1 : Nat) = 0 ↔ False from by decide, show (1 : Nat) = 3 ↔ False from by decide] at M
      simp (disch := omega) only [↓reduceIte, if_true, if_false, Option.bind_some, k_145, ↓bd1 (w_145_32 hP), k_170, l_170, k2, x_in, x_cl, k3, k4.1, y3, t0, t1, t3, not_true, not_false_iff, f66, ↓bd1 (w_145_77 hP), k_188, l_188, ↓bp_I, ↓bd1 (w_145_78 hP), k_189, l_189, i80, w80, cl80, in80]
      exact M
    · rcases bcs (sHolds S (rT r) pl t) with b | b
      · rw [b] at w210
        simp only [↓reduceIte, Bool.false_eq_true, if_false] at w210
        have e : sMeet S t stage pl o (r, its) = (r, its) := by simp [sMeet, kp, s1, b]
        rw [e]
        have t1 : (nI stage = (1 : Int32)) = False := by rw [x_eq1 (by omega)]; simp [s1]
        simp (disch := omega) only [↓reduceIte, if_true, if_false, Option.bind_some, k_145, ↓bd1 (w_145_32 hP), k_170, l_170, k2, x_in, x_cl, k3, k4.1, y3, t1, not_true, not_false_iff, ↓bd1 w210]
        exact rt_ret ⟨keep hP, FrM.refl _ _⟩
      · rw [b] at w210
        simp only [↓reduceIte, if_true] at w210
        have M := main (fun _ => b)
        have hst3 : stage = 0 ∨ stage = 2 ∨ stage = 3 := by omega
        rcases hst3 with rfl | rfl | rfl
        · have t0 : (nI 0 = (0 : Int32)) = True := by decide
          have t1 : (nI 0 = (1 : Int32)) = False := by decide
          have t3 : (nI 0 = (3 : Int32)) = False := by decide
          simp only [↓reduceIte, if_true, if_false, show (0 : Nat) = 0 ↔ True from by decide, show (0 : Nat) = 3 ↔ False from by decide] at M
          simp (disch := omega) only [↓reduceIte, if_true, if_false, Option.bind_some, k_145, ↓bd1 (w_145_32 hP), k_170, l_170, k2, x_in, x_cl, k3, k4.1, y3, t0, t1, t3, not_true, not_false_iff, ↓bd1 w210, w210, ne1]
          exact M
        · have t0 : (nI 2 = (0 : Int32)) = False := by decide
          have t1 : (nI 2 = (1 : Int32)) = False := by decide
          have t3 : (nI 2 = (3 : Int32)) = False := by decide
          simp only [↓reduceIte, if_true, if_false, show (2 : Nat) = 0 ↔ False from by decide, show (2 : Nat) = 3 ↔ False from by decide] at M
          simp (disch := omega) only [↓reduceIte, if_true, if_false, Option.bind_some, k_145, ↓bd1 (w_145_32 hP), k_170, l_170, k2, x_in, x_cl, k3, k4.1, y3, t0, t1, t3, not_true, not_false_iff, ↓bd1 w210, w210, ne1, f66, ↓bd1 (w_145_77 hP), k_188, l_188, ↓bp_I, ↓bd1 (w_145_78 hP), k_189, l_189, i80, w80, cl80, in80]
          exact M
        · have t0 : (nI 3 = (0 : Int32)) = False := by decide
          have t1 : (nI 3 = (1 : Int32)) = False := by decide
          have t3 : (nI 3 = (3 : Int32)) = True := by decide
          simp only [↓reduceIte, if_true, if_false, show (3 : Nat) = 0 ↔ False from by decide, show (3 : Nat) = 3 ↔ True from by decide] at M
          rw [eq7] at M
          simp only [Option.bind_some] at M
          by_cases z66 : cI C7 145 66 = 0
          · simp only [↓reduceIte, z66, if_true] at M
            simp (disch := omega) only [↓reduceIte, if_true, if_false, Option.bind_some, k_145, ↓bd1 (w_145_32 hP), k_170, l_170, k2, x_in, x_cl, k3, k4.1, y3, t0, t1, t3, not_true, not_false_iff, ↓bd1 w210, w210, ne1, eq7, z66, ↓bd1 (w_145_77 P7), k_188, l_188, ↓bp_I, ↓bd1 (w_145_78 P7), k_189, l_189, c80, w80, cl80, in80]
            exact M
          · simp only [↓reduceIte, z66, if_false] at M
            simp (disch := omega) only [↓reduceIte, if_true, if_false, Option.bind_some, k_145, ↓bd1 (w_145_32 hP), k_170, l_170, k2, x_in, x_cl, k3, k4.1, y3, t0, t1, t3, not_true, not_false_iff, ↓bd1 w210, w210, ne1, eq7, z66]
            exact M
