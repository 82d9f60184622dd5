/-! The reference's run: what is made. -/
def MX (b : Nat) : Prop := b = 145 ∨ b = 180 ∨ (182 ≤ b ∧ b ≤ 190)
/-- nothing has changed but cells of a run; of the reference's own fields those from lo to 80 -/
def FrM (lo : Nat) (C C' : AmC) : Prop := cP C' = cP C ∧ cJ C' = cJ C ∧ (∀ b, ¬ MX b → cI C' b = cI C b) ∧ ∀ f, f < lo ∨ 80 < f → cI C' 145 f = cI C 145 f
theorem FrM.refl (lo : Nat) (C : AmC) : FrM lo C C := ⟨rfl, rfl, fun _ _ => rfl, fun _ _ => rfl⟩
theorem FrM.trans {lo : Nat} {C C1 C2 : AmC} (h : FrM lo C C1) (g : FrM lo C1 C2) : FrM lo C C2 := ⟨g.1.trans h.1, g.2.1.trans h.2.1, fun b z => (g.2.2.1 b z).trans (h.2.2.1 b z), fun f z => (g.2.2.2 f z).trans (h.2.2.2 f z)⟩
theorem FrM.mono {lo lo' : Nat} {C C1 : AmC} (h : FrM lo C C1) (e : lo' ≤ lo) : FrM lo' C C1 := ⟨h.1, h.2.1, h.2.2.1, fun f z => h.2.2.2 f (by omega)⟩
theorem FrM.uI {lo : Nat} {C C1 : AmC} (h : FrM lo C C1) {a j : Nat} {v : Int32} (g : a = 180 ∨ (182 ≤ a ∧ a ≤ 190)) : FrM lo C (uI C1 a j v) := ⟨h.1, h.2.1, fun b z => (r_In (fun (e : b = a) => z (by unfold MX; omega))).trans (h.2.2.1 b z), fun f z => by rw [r_In (by omega)]; exact h.2.2.2 f z⟩
theorem FrM.uF {lo : Nat} {C C1 : AmC} (h : FrM lo C C1) {j : Nat} {v : Int32} (g : lo ≤ j ∧ j ≤ 80) : FrM lo C (CBulkWriterLaw_law_r7608_df7b1e.uI C1 145 j v) := ⟨h.1, h.2.1, fun b z => (r_In (fun (e : b = 145) => z (by unfold MX; omega))).trans (h.2.2.1 b z), fun f z => by rw [r_I, if_neg (by omega)]; exact h.2.2.2 f z⟩
theorem VM.of {C C1 : AmC} {k : Nat} {v : Val} (h : VM C k v) (e : ∀ a, 151 ≤ a → a < 178 → cI C1 a = cI C a) : VM C1 k v := by
  unfold VM AtM at *
  rw [e 151 (by omega) (by omega), e 152 (by omega) (by omega), e 153 (by omega) (by omega), e 154 (by omega) (by omega), e 155 (by omega) (by omega)]
  exact h
theorem StmM.of {C C1 : AmC} {i : Nat} {t : Stm} (h : StmM C i t) (e : ∀ a, 151 ≤ a → a < 178 → cI C1 a = cI C a) : StmM C1 i t := by
  unfold StmM VOM VM AtM at *
  rw [e 151 (by omega) (by omega), e 152 (by omega) (by omega), e 153 (by omega) (by omega), e 154 (by omega) (by omega), e 155 (by omega) (by omega), e 156 (by omega) (by omega), e 157 (by omega) (by omega), e 158 (by omega) (by omega), e 170 (by omega) (by omega), e 171 (by omega) (by omega), e 172 (by omega) (by omega), e 173 (by omega) (by omega), e 174 (by omega) (by omega), e 175 (by omega) (by omega), e 176 (by omega) (by omega), e 177 (by omega) (by omega)]
  exact h
/-- the reference runs a statement -/
def MK (C : AmC) (h : Nat) (S : Scr) (i : Nat) (t : Stm) : Prop := MC C h S ∧ cI C 145 59 = nI i ∧ i < 16 ∧ StmM C i t ∧ StmOK (sCols S) t
theorem MK.fr {lo : Nat} {C C1 : AmC} {h i : Nat} {S : Scr} {t : Stm} (k : MK C h S i t) (F : FrM lo C C1) (hl : 60 ≤ lo) : MK C1 h S i t := by
  obtain ⟨k1, k2, k3, k4, k5⟩ := k
  have e : ∀ a, 151 ≤ a → a < 178 → cI C1 a = cI C a := fun a h1 h2 => F.2.2.1 a (by unfold MX; omega)
  exact ⟨k1.of F.1 (F.2.2.2 40 (by omega)) e, (F.2.2.2 59 (by omega)).trans k2, k3, k4.of e, k5⟩
theorem oI_m {pl : Option Nat} (h : ∀ p, pl = some p → p < 30) : (oI pl = -1) ↔ pl = none := by
  cases pl with
  | none => simp [oI_n, oI_s]
  | some p =>
    have := h p rfl
    simp only [oI_n, oI_s]
    rw [x_eqm (by omega)]
    simp
theorem m214 {n : Nat} {C : AmC} {h i : Nat} {S : Scr} {t : Stm} {pl : Option Nat} (k : MK C h S i t) (hp : ∀ p, pl = some p → p < 30) : f_214 n 145 (oI pl) C = some (if isNewS t pl = true then 1 else 0, C) := by
  obtain ⟨⟨hP, _⟩, k2, k3, k4, k5⟩ := k
  have h1 := k5.1
  unfold f_214 isNewS
  simp (disch := omega) only [if_true, if_false, Option.bind_some, k_145, ↓bd1 (w_145_32 hP), k_170, l_170, k2, x_in, x_cl, k3, k4.1, ↓reduceIte, n_2, n_3, n_4, n_5, n_6, n_7, n_8, n_10, n_12, n_20, n_30, n_40, n_100, n_120, n_150, n_200, n_230, n_320, n_450, n_900, x_le, x_lt, x_eq, x_lt0, x_le0, x_0le, x_0lt, x_eq0, x_eq1, x_1lt, x_le1, x_lt1, x_1le, x_eqm, x_add, x_a1, x_1a, x_a0, x_0a, x_mul, x_sub, x_s1, x_1s, x_div, x_cl0, x_cl1, x_in0, x_in1, x_ofNat, oI_m hp]
  by_cases c : tKd t = 2
  · simp [c]
  · cases pl <;> simp [c]
def goneS (t : Stm) (pl : Option Nat) : Bool := decide (tKd t = 1) || (decide (tKd t = 3) && pl.isSome && decide (tHow t = 1))
theorem m215 {n : Nat} {C : AmC} {h i : Nat} {S : Scr} {t : Stm} {pl : Option Nat} (k : MK C h S i t) (hp : ∀ p, pl = some p → p < 30) : f_215 n 145 (oI pl) C = some (if goneS t pl = true then 1 else 0, C) := by
  obtain ⟨⟨hP, _⟩, k2, k3, k4, k5⟩ := k
  have h1 := k5.1
  have h2 := k5.2.1
  unfold f_215 goneS
  simp (disch := omega) only [if_true, if_false, Option.bind_some, k_145, ↓bd1 (w_145_32 hP), k_170, l_170, ↓bd1 (w_145_33 hP), k_171, l_171, k2, x_in, x_cl, k3, k4.1, k4.2.1, ↓reduceIte, n_2, n_3, n_4, n_5, n_6, n_7, n_8, n_10, n_12, n_20, n_30, n_40, n_100, n_120, n_150, n_200, n_230, n_320, n_450, n_900, x_le, x_lt, x_eq, x_lt0, x_le0, x_0le, x_0lt, x_eq0, x_eq1, x_1lt, x_le1, x_lt1, x_1le, x_eqm, x_add, x_a1, x_1a, x_a0, x_0a, x_mul, x_sub, x_s1, x_1s, x_div, x_cl0, x_cl1, x_in0, x_in1, x_ofNat, oI_m hp]
  by_cases c : tKd t = 1
  · simp [c]
  · by_cases c3 : tKd t = 3
    · by_cases c4 : tHow t = 1
      · cases pl <;> simp [c3, c4]
      · cases pl <;> simp [c3, c4]
    · cases pl <;> simp [c, c3]
theorem kpt_eq {t : Stm} {cols : Nat} (k : StmOK cols t) (pl : Option Nat) : isKpt t pl = (decide (tKd t = 3) && pl.isSome && decide (tHow t = 2)) := by
  have h1 := k.1
  unfold isKpt tCh
  by_cases c0 : tKd t = 0
  · simp [c0]
  · by_cases c1 : tKd t = 1
    · simp [c1]
    · by_cases c2 : tKd t = 2
      · simp [c2]
      · have c3 : tKd t = 3 := by omega
        by_cases c4 : tHow t = 2 <;> simp [c3, c4]
theorem m216 {n : Nat} {C : AmC} {h i : Nat} {S : Scr} {t : Stm} {pl : Option Nat} (k : MK C h S i t) (hp : ∀ p, pl = some p → p < 30) : f_216 n 145 (oI pl) C = some (if isKpt t pl = true then 1 else 0, C) := by
  rw [kpt_eq k.2.2.2.2]
  obtain ⟨⟨hP, _⟩, k2, k3, k4, k5⟩ := k
  have h1 := k5.1
  have h2 := k5.2.1
  unfold f_216
  simp (disch := omega) only [if_true, if_false, Option.bind_some, k_145, ↓bd1 (w_145_32 hP), k_170, l_170, ↓bd1 (w_145_33 hP), k_171, l_171, k2, x_in, x_cl, k3, k4.1, k4.2.1, ↓reduceIte, n_2, n_3, n_4, n_5, n_6, n_7, n_8, n_10, n_12, n_20, n_30, n_40, n_100, n_120, n_150, n_200, n_230, n_320, n_450, n_900, x_le, x_lt, x_eq, x_lt0, x_le0, x_0le, x_0lt, x_eq0, x_eq1, x_1lt, x_le1, x_lt1, x_1le, x_eqm, x_add, x_a1, x_1a, x_a0, x_0a, x_mul, x_sub, x_s1, x_1s, x_div, x_cl0, x_cl1, x_in0, x_in1, x_ofNat, oI_m hp]
  by_cases c3 : tKd t = 3
  · by_cases c4 : tHow t = 2
    · cases pl <;> simp [c3, c4]
    · cases pl <;> simp [c3, c4]
  · cases pl <;> simp [c3]
theorem m163 {n : Nat} {C : AmC} {x : Int32} : f_163 n x (-9999) 9999 C = some (if inR x = true then 1 else 0, C) := by
  unfold f_163 inR
  have q1 := inR_lt x
  have q2 := inR_le x
  by_cases c1 : x.toInt < -9999
  · have c2 : ¬ -9999 ≤ x.toInt := by omega
    simp [q1.mpr c1, c2]
  · have c2 : -9999 ≤ x.toInt := by omega
    have c3 : ¬ x < -9999 := fun z => c1 (q1.mp z)
    by_cases c4 : x.toInt ≤ 9999
    · have c5 : ¬ 9999 < x := by rw [Int32.not_lt]; exact q2.mpr c4
      simp [c3, c2, c4, c5, q2.mpr c4]
    · have c5 : ¬ x ≤ 9999 := fun z => c4 (q2.mp z)
      have c6 : 9999 < x := Int32.not_le.mp c5
      simp [c3, c2, c4, c5, c6]
/-- who is made, for whom -/
def WhoOK (S : Scr) (T : Tab) (t : Stm) (pl o : Option Nat) (o' : Int32) : Prop := (∀ p, pl = some p → p < 30 ∧ T.1 p = true) ∧ (¬ tKd t = 3 → pl.isSome = true) ∧ (tKd t = 3 → ∃ q, o = some q ∧ q < (sOth S).length ∧ o' = nI q)
/-- only made numbers, their columns and the end have changed -/
def FrK (C C' : AmC) : Prop := cP C' = cP C ∧ cJ C' = cJ C ∧ (∀ b, ¬ b = 145 → ¬ b = 187 → cI C' b = cI C b) ∧ ∀ f, ¬ f = 66 → ¬ f = 67 → ¬ f = 68 → ¬ f = 76 → cI C' 145 f = cI C 145 f
theorem FrK.frM {C C' : AmC} (h : FrK C C') : FrM 65 C C' := ⟨h.1, h.2.1, fun b z => h.2.2.1 b (by unfold MX at z; omega) (by unfold MX at z; omega), fun f z => h.2.2.2 f (by omega) (by omega) (by omega) (by omega)⟩
theorem FrK.refl (C : AmC) : FrK C C := ⟨rfl, rfl, fun _ _ _ => rfl, fun _ _ _ _ _ => rfl⟩
theorem FrK.trans {C C1 C2 : AmC} (h : FrK C C1) (g : FrK C1 C2) : FrK C C2 := ⟨g.1.trans h.1, g.2.1.trans h.2.1, fun b z1 z2 => (g.2.2.1 b z1 z2).trans (h.2.2.1 b z1 z2), fun f z1 z2 z3 z4 => (g.2.2.2 f z1 z2 z3 z4).trans (h.2.2.2 f z1 z2 z3 z4)⟩
theorem FrK.u187 {C C1 : AmC} (h : FrK C C1) (j : Nat) (v : Int32) : FrK C (uI C1 187 j v) := ⟨h.1, h.2.1, fun b z1 z2 => (r_In z2).trans (h.2.2.1 b z1 z2), fun f z1 z2 z3 z4 => by rw [r_In (by omega)]; exact h.2.2.2 f z1 z2 z3 z4⟩
theorem FrK.u145 {C C1 : AmC} (h : FrK C C1) {j : Nat} (v : Int32) (hj : j = 66 ∨ j = 67 ∨ j = 68 ∨ j = 76) : FrK C (uI C1 145 j v) := ⟨h.1, h.2.1, fun b z1 z2 => (r_In z1).trans (h.2.2.1 b z1 z2), fun f z1 z2 z3 z4 => by rw [r_I, if_neg (by omega)]; exact h.2.2.2 f z1 z2 z3 z4⟩
def MkM (C C' : AmC) (c k : Nat) (S : Scr) (T : Tab) (t : Stm) (pl o : Option Nat) : Prop :=
  FrK C C' ∧ (∀ d, d < c → cI C' 187 d = cI C 187 d) ∧ (∀ d, d < 32 → bt (cI C' 145 76) d = if c ≤ d ∧ d < c + k ∧ (valsS t pl d).isSome = true then true else bt (cI C 145 76) d) ∧ (∀ d, c ≤ d → d < c + k → (valsS t pl d).isSome = true → cI C' 187 d = mkS S T t pl o d) ∧ (¬ cI C 145 66 = 0 → cI C' 145 66 = cI C 145 66 ∧ cI C' 145 67 = cI C 145 67 ∧ cI C' 145 68 = cI C 145 68) ∧ (cI C 145 66 = 0 → match qf (ovF S T t pl o) k c with
    | none => cI C' 145 66 = 0 ∧ cI C' 145 67 = cI C 145 67 ∧ cI C' 145 68 = cI C 145 68
    | some d => cI C' 145 66 = 2 ∧ cI C' 145 67 = oI pl ∧ cI C' 145 68 = nI d)
theorem m211_lp {h i : Nat} {S : Scr} {T : Tab} {t : Stm} {pl o : Option Nat} {o' : Int32} (hw : WhoOK S T t pl o o') : ∀ k c n C, c + k = sCols S → k + 620 < n → MK C h S i t → TabM 30 (sCols S) C 180 0 T → Rt (lp_211_8 n 145 (oI pl) o' (if isNewS t pl = true then 1 else 0) (nI i) (nI c) C) (fun _ C' => MkM C C' c k S T t pl o) := by
  intro k
  induction k with
  | zero =>
    intro c n C h1 h2 hK _
    obtain ⟨n, rfl⟩ : ∃ m, n = m + 1 := ⟨n - 1, by omega⟩
    obtain ⟨⟨hP, hh, hS, hO⟩, k2, k3, k4, k5⟩ := hK
    have h4 := hO.2.1
    have hb := hS.1
    have h3 : sCols S ≤ c := by omega
    simp (disch := omega) only [↓reduceIte, lp_211_8, if_true, if_false, Option.bind_some, k_145, ↓bd1 (w_145_21 hP), k_159, l_159, hh, x_in, x_cl, hb, hS.2.1, x_le, h3]
    refine rt_ret ⟨FrK.refl _, fun _ _ => rfl, fun d hd => by rw [if_neg (by omega)], fun d z1 z2 => by omega, fun _ => ⟨rfl, rfl, rfl⟩, fun e => ⟨e, rfl, rfl⟩⟩
  | succ k ih =>
    intro c n C h1 h2 hK hT
    obtain ⟨n, rfl⟩ : ∃ m, n = m + 1 := ⟨n - 1, by omega⟩
    have hK0 := hK
    obtain ⟨⟨hP, hh, hS, hO⟩, k2, k3, k4, k5⟩ := hK
    have h4 := hO.2.1
    have hb := hS.1
    have h3 : ¬ sCols S ≤ c := by omega
    have c4 : c < 4 := by omega
    have i64 : 4 * i + c < 64 := by omega
    have w163 := fun (C : AmC) (x : Int32) => m163 (n := n) (C := C) (x := x)
    -- one column
    have step : (valsS t pl c = none → lp_211_8 (n + 1) 145 (oI pl) o' (if isNewS t pl = true then 1 else 0) (nI i) (nI c) C = lp_211_8 n 145 (oI pl) o' (if isNewS t pl = true then 1 else 0) (nI i) (nI (c + 1)) C) ∧ ∀ v, valsS t pl c = some v → lp_211_8 (n + 1) 145 (oI pl) o' (if isNewS t pl = true then 1 else 0) (nI i) (nI c) C = if inR (sVal S T pl o v) = true then lp_211_8 n 145 (oI pl) o' (if isNewS t pl = true then 1 else 0) (nI i) (nI (c + 1)) (uI (uI C 187 c (sVal S T pl o v)) 145 76 (cI C 145 76 ||| ((1 : Int32) <<< (nI c &&& 31)))) else if cI C 145 66 = 0 then lp_211_8 n 145 (oI pl) o' (if isNewS t pl = true then 1 else 0) (nI i) (nI (c + 1)) (uI (uI (uI (uI (uI C 187 c (sVal S T pl o v)) 145 76 (cI C 145 76 ||| ((1 : Int32) <<< (nI c &&& 31)))) 145 66 2) 145 67 (oI pl)) 145 68 (nI c)) else lp_211_8 n 145 (oI pl) o' (if isNewS t pl = true then 1 else 0) (nI i) (nI (c + 1)) (uI (uI C 187 c (sVal S T pl o v)) 145 76 (cI C 145 76 ||| ((1 : Int32) <<< (nI c &&& 31)))) := by
      have ne1 : ¬ (1 : Int32) = 0 := by decide
      have clc : Int32.toNatClampNeg (4 * nI i + nI c) = 4 * i + c := by rw [n_4, x_mul, x_add, x_cl (by omega)]
      have key : ∀ (w : Nat) (ov : Option Val) (b1 b2 : Bool), VOM C (cI C w (4 * i + c)) ov → VoOK (sCols S) b1 b2 ov → (b1 = true → tKd t = 3) → (b2 = true → ∃ p, pl = some p) → (ov = none → cI C w (4 * i + c) = -1) ∧ ∀ v, ov = some v → (∃ kk, cI C w (4 * i + c) = nI kk ∧ kk < 640) ∧ f_209 n 145 (cI C w (Int32.toNatClampNeg (4 * nI i + nI c))) (oI pl) o' C = some (sVal S T pl o v, C) := by
        intro w ov b1 b2 hv hok hb1 hb2
        refine ⟨fun e => by rw [e] at hv; exact hv, fun v e => ?_⟩
        rw [e] at hv
        obtain ⟨kk, q1, q2⟩ := hv
        refine ⟨⟨kk, q1, q2.1⟩, ?_⟩
        rw [clc, q1]
        have ok := hok v e
        refine m209 hK0.1 hT q2 ok.2.1 (fun a ha => ⟨(ok.2.2 a ha).1, fun z => ?_, fun z => ?_⟩) (by omega)
        · obtain ⟨p, hp⟩ := hb2 ((ok.2.2 a ha).2.2 z)
          exact ⟨p, hp, hw.1 p hp⟩
        · exact hw.2.2 (hb1 ((ok.2.2 a ha).2.1 z))
      have e1 : ∀ v, cI (uI C 187 c v) 145 76 = cI C 145 76 := fun v => by rw [r_In (by decide)]
      have e2 : ∀ v w, cI (uI (uI C 187 c v) 145 76 w) 187 c = v := fun v w => by rw [r_In (by decide), r_I, if_pos ⟨rfl, rfl⟩]
      have e3 : ∀ v w, cI (uI (uI C 187 c v) 145 76 w) 145 66 = cI C 145 66 := fun v w => by rw [r_I, if_neg (by decide), r_In (by decide)]
      rcases bcs (isNewS t pl) with b | b
      · have ev : valsS t pl c = tSet t c := by simp [valsS, b]
        have plS : ∃ p, pl = some p := by
          cases h9 : pl with
          | none => rw [h9] at b; simp [isNewS] at b
          | some p => exact ⟨p, rfl⟩
        obtain ⟨y1, y2⟩ := key 176 (tSet t c) _ _ (k4.2.2.2.1 c c4) (k5.2.2.2.2.2.2.2.2.2.2.1 c) (fun z => by simpa using z) (fun _ => plS)
        rw [ev, b]
        constructor
        · intro e
          simp (disch := omega) only [lp_211_8, if_true, if_false, Option.bind_some, k_145, ↓bd1 (w_145_21 hP), k_159, l_159, hh, x_in, x_cl, hb, hS.2.1, ↓reduceIte, n_2, n_3, n_4, n_5, n_6, n_7, n_8, n_10, n_12, n_20, n_30, n_40, n_100, n_120, n_150, n_200, n_230, n_320, n_450, n_900, x_le, x_lt, x_eq, x_lt0, x_le0, x_0le, x_0lt, x_eq0, x_eq1, x_1lt, x_le1, x_lt1, x_1le, x_eqm, x_add, x_a1, x_1a, x_a0, x_0a, x_mul, x_sub, x_s1, x_1s, x_div, x_cl0, x_cl1, x_in0, x_in1, x_ofNat, h3, Bool.false_eq_true, ↓bd1 (w_145_38 hP), k_176, l_176, i64, y1 e, not_true]
        · intro v e
          obtain ⟨⟨kk, z1, z2⟩, z3⟩ := y2 v e
          have em : ¬ nI kk = (-1 : Int32) := by rw [x_eqm (by omega)]; exact id
          rcases bcs (inR (sVal S T pl o v)) with r | r
          · rw [r]
            by_cases e66 : cI C 145 66 = 0
            · simp (disch := omega) only [lp_211_8, if_true, if_false, Option.bind_some, k_145, ↓bd1 (w_145_21 hP), k_159, l_159, hh, x_in, x_cl, hb, hS.2.1, ↓reduceIte, n_2, n_3, n_4, n_5, n_6, n_7, n_8, n_10, n_12, n_20, n_30, n_40, n_100, n_120, n_150, n_200, n_230, n_320, n_450, n_900, x_le, x_lt, x_eq, x_lt0, x_le0, x_0le, x_0lt, x_eq0, x_eq1, x_1lt, x_le1, x_lt1, x_1le, x_eqm, x_add, x_a1, x_1a, x_a0, x_0a, x_mul, x_sub, x_s1, x_1s, x_div, x_cl0, x_cl1, x_in0, x_in1, x_ofNat, h3, Bool.false_eq_true, ↓bd1 (w_145_38 hP), k_176, l_176, i64, z1, em, not_false_iff, ↓bd1 (w_145_75 hP), k_187, l_187, ↓bd1 z3, c4, ↓bp_I, e1, e2, e3, w163, r, e66, not_true]
            · simp (disch := omega) only [lp_211_8, if_true, if_false, Option.bind_some, k_145, ↓bd1 (w_145_21 hP), k_159, l_159, hh, x_in, x_cl, hb, hS.2.1, ↓reduceIte, n_2, n_3, n_4, n_5, n_6, n_7, n_8, n_10, n_12, n_20, n_30, n_40, n_100, n_120, n_150, n_200, n_230, n_320, n_450, n_900, x_le, x_lt, x_eq, x_lt0, x_le0, x_0le, x_0lt, x_eq0, x_eq1, x_1lt, x_le1, x_lt1, x_1le, x_eqm, x_add, x_a1, x_1a, x_a0, x_0a, x_mul, x_sub, x_s1, x_1s, x_div, x_cl0, x_cl1, x_in0, x_in1, x_ofNat, h3, Bool.false_eq_true, ↓bd1 (w_145_38 hP), k_176, l_176, i64, z1, em, not_false_iff, ↓bd1 (w_145_75 hP), k_187, l_187, ↓bd1 z3, c4, ↓bp_I, e1, e2, e3, w163, r, e66, not_true]
          · rw [r]
            simp (disch := omega) only [lp_211_8, if_true, if_false, Option.bind_some, k_145, ↓bd1 (w_145_21 hP), k_159, l_159, hh, x_in, x_cl, hb, hS.2.1, ↓reduceIte, n_2, n_3, n_4, n_5, n_6, n_7, n_8, n_10, n_12, n_20, n_30, n_40, n_100, n_120, n_150, n_200, n_230, n_320, n_450, n_900, x_le, x_lt, x_eq, x_lt0, x_le0, x_0le, x_0lt, x_eq0, x_eq1, x_1lt, x_le1, x_lt1, x_1le, x_eqm, x_add, x_a1, x_1a, x_a0, x_0a, x_mul, x_sub, x_s1, x_1s, x_div, x_cl0, x_cl1, x_in0, x_in1, x_ofNat, h3, Bool.false_eq_true, ↓bd1 (w_145_38 hP), k_176, l_176, i64, z1, em, not_false_iff, ↓bd1 (w_145_75 hP), k_187, l_187, ↓bd1 z3, c4, ↓bp_I, e1, e2, w163, r, ne1]
      · have ev : valsS t pl c = tNew t c := by simp [valsS, b]
        obtain ⟨y1, y2⟩ := key 177 (tNew t c) _ _ (k4.2.2.2.2.1 c c4) (k5.2.2.2.2.2.2.2.2.2.2.2.1 c) (fun z => by simpa using z) (fun z => by
          have z3 : ¬ tKd t = 3 := by simpa using z
          have := hw.2.1 z3
          cases h9 : pl with
          | none => rw [h9] at this; cases this
          | some p => exact ⟨p, rfl⟩)
        rw [ev, b]
        constructor
        · intro e
          simp (disch := omega) only [lp_211_8, if_true, if_false, Option.bind_some, k_145, ↓bd1 (w_145_21 hP), k_159, l_159, hh, x_in, x_cl, hb, hS.2.1, ↓reduceIte, n_2, n_3, n_4, n_5, n_6, n_7, n_8, n_10, n_12, n_20, n_30, n_40, n_100, n_120, n_150, n_200, n_230, n_320, n_450, n_900, x_le, x_lt, x_eq, x_lt0, x_le0, x_0le, x_0lt, x_eq0, x_eq1, x_1lt, x_le1, x_lt1, x_1le, x_eqm, x_add, x_a1, x_1a, x_a0, x_0a, x_mul, x_sub, x_s1, x_1s, x_div, x_cl0, x_cl1, x_in0, x_in1, x_ofNat, h3, ne1, ↓bd1 (w_145_39 hP), k_177, l_177, i64, y1 e, not_true]
        · intro v e
          obtain ⟨⟨kk, z1, z2⟩, z3⟩ := y2 v e
          have em : ¬ nI kk = (-1 : Int32) := by rw [x_eqm (by omega)]; exact id
          rcases bcs (inR (sVal S T pl o v)) with r | r
          · rw [r]
            by_cases e66 : cI C 145 66 = 0
            · simp (disch := omega) only [lp_211_8, if_true, if_false, Option.bind_some, k_145, ↓bd1 (w_145_21 hP), k_159, l_159, hh, x_in, x_cl, hb, hS.2.1, ↓reduceIte, n_2, n_3, n_4, n_5, n_6, n_7, n_8, n_10, n_12, n_20, n_30, n_40, n_100, n_120, n_150, n_200, n_230, n_320, n_450, n_900, x_le, x_lt, x_eq, x_lt0, x_le0, x_0le, x_0lt, x_eq0, x_eq1, x_1lt, x_le1, x_lt1, x_1le, x_eqm, x_add, x_a1, x_1a, x_a0, x_0a, x_mul, x_sub, x_s1, x_1s, x_div, x_cl0, x_cl1, x_in0, x_in1, x_ofNat, h3, Bool.false_eq_true, ne1, ↓bd1 (w_145_39 hP), k_177, l_177, i64, z1, em, not_false_iff, ↓bd1 (w_145_75 hP), k_187, l_187, ↓bd1 z3, c4, ↓bp_I, e1, e2, e3, w163, r, e66, not_true]
            · simp (disch := omega) only [lp_211_8, if_true, if_false, Option.bind_some, k_145, ↓bd1 (w_145_21 hP), k_159, l_159, hh, x_in, x_cl, hb, hS.2.1, ↓reduceIte, n_2, n_3, n_4, n_5, n_6, n_7, n_8, n_10, n_12, n_20, n_30, n_40, n_100, n_120, n_150, n_200, n_230, n_320, n_450, n_900, x_le, x_lt, x_eq, x_lt0, x_le0, x_0le, x_0lt, x_eq0, x_eq1, x_1lt, x_le1, x_lt1, x_1le, x_eqm, x_add, x_a1, x_1a, x_a0, x_0a, x_mul, x_sub, x_s1, x_1s, x_div, x_cl0, x_cl1, x_in0, x_in1, x_ofNat, h3, Bool.false_eq_true, ne1, ↓bd1 (w_145_39 hP), k_177, l_177, i64, z1, em, not_false_iff, ↓bd1 (w_145_75 hP), k_187, l_187, ↓bd1 z3, c4, ↓bp_I, e1, e2, e3, w163, r, e66, not_true]
          · rw [r]
            simp (disch := omega) only [lp_211_8, if_true, if_false, Option.bind_some, k_145, ↓bd1 (w_145_21 hP), k_159, l_159, hh, x_in, x_cl, hb, hS.2.1, ↓reduceIte, n_2, n_3, n_4, n_5, n_6, n_7, n_8, n_10, n_12, n_20, n_30, n_40, n_100, n_120, n_150, n_200, n_230, n_320, n_450, n_900, x_le, x_lt, x_eq, x_lt0, x_le0, x_0le, x_0lt, x_eq0, x_eq1, x_1lt, x_le1, x_lt1, x_1le, x_eqm, x_add, x_a1, x_1a, x_a0, x_0a, x_mul, x_sub, x_s1, x_1s, x_div, x_cl0, x_cl1, x_in0, x_in1, x_ofNat, h3, ↓bd1 (w_145_39 hP), k_177, l_177, i64, z1, em, not_false_iff, ↓bd1 (w_145_75 hP), k_187, l_187, ↓bd1 z3, c4, ↓bp_I, e1, e2, w163, r, ne1]
    have TK : ∀ C1, FrK C C1 → TabM 30 (sCols S) C1 180 0 T := fun C1 F => hT.of (F.2.2.1 180 (by decide) (by decide))
    have KK : ∀ C1, FrK C C1 → MK C1 h S i t := fun C1 F => hK0.fr F.frM (by decide)
    -- what a column adds
    have push : ∀ (v : Val) (C1 : AmC), valsS t pl c = some v → FrK C C1 → (∀ d, d < c → cI C1 187 d = cI C 187 d) → cI C1 187 c = sVal S T pl o v → cI C1 145 76 = (cI C 145 76 ||| ((1 : Int32) <<< (nI c &&& 31))) → (cI C 145 66 = 0 → (inR (sVal S T pl o v) = true ∧ cI C1 145 66 = 0 ∧ cI C1 145 67 = cI C 145 67 ∧ cI C1 145 68 = cI C 145 68) ∨ (inR (sVal S T pl o v) = false ∧ cI C1 145 66 = 2 ∧ cI C1 145 67 = oI pl ∧ cI C1 145 68 = nI c)) → (¬ cI C 145 66 = 0 → cI C1 145 66 = cI C 145 66 ∧ cI C1 145 67 = cI C 145 67 ∧ cI C1 145 68 = cI C 145 68) → Rt (lp_211_8 n 145 (oI pl) o' (if isNewS t pl = true then 1 else 0) (nI i) (nI (c + 1)) C1) (fun _ C' => MkM C C' c (k + 1) S T t pl o) := by
      intro v C1 hv F h187 hc h76 hz hnz
      have vs : (valsS t pl c).isSome = true := by rw [hv]; rfl
      refine rt_mono (ih (c + 1) n C1 (by omega) (by omega) (KK C1 F) (TK C1 F)) (fun _ C' H => ?_)
      obtain ⟨H1, H2, H3, H4, H5, H6⟩ := H
      refine ⟨F.trans H1, fun d hd => by rw [H2 d (by omega), h187 d hd], fun d hd => ?_, fun d z1 z2 z3 => ?_, fun z => ?_, fun z => ?_⟩
      · rw [H3 d hd, h76, b_set _ (by omega) d hd]
        by_cases ed : d = c
        · subst ed
          simp [vs]
        · have q : (c + 1 ≤ d ∧ d < c + 1 + k ∧ (valsS t pl d).isSome = true) ↔ (c ≤ d ∧ d < c + (k + 1) ∧ (valsS t pl d).isSome = true) := by
            constructor
            · rintro ⟨a1, a2, a3⟩; exact ⟨by omega, by omega, a3⟩
            · rintro ⟨a1, a2, a3⟩; exact ⟨by omega, by omega, a3⟩
          simp only [↓reduceIte, q, ed, if_false]
      · by_cases ed : d = c
        · subst ed
          rw [H2 d (by omega), hc]
          simp [mkS, hv]
        · exact H4 d (by omega) (by omega) z3
      · obtain ⟨y1, y2, y3⟩ := hnz z
        have := H5 (by rw [y1]; exact z)
        exact ⟨this.1.trans y1, this.2.1.trans y2, this.2.2.trans y3⟩
      · unfold qf
        rcases hz z with ⟨r, y1, y2, y3⟩ | ⟨r, y1, y2, y3⟩
        · have ov : ¬ ovF S T t pl o c = true := by simp [ovF, hv, r]
          rw [if_neg ov]
          have := H6 y1
          rw [y2, y3] at this
          exact this
        · have ov : ovF S T t pl o c = true := by simp [ovF, hv, r]
          rw [if_pos ov]
          have ne2 : ¬ cI C1 145 66 = 0 := by rw [y1]; decide
          have := H5 ne2
          exact ⟨this.1.trans y1, this.2.1.trans y2, this.2.2.trans y3⟩
    cases hv : valsS t pl c with
    | none =>
      rw [step.1 hv]
      refine rt_mono (ih (c + 1) n C (by omega) (by omega) hK0 hT) (fun _ C' H => ?_)
      obtain ⟨H1, H2, H3, H4, H5, H6⟩ := H
      refine ⟨H1, fun d hd => H2 d (by omega), fun d hd => ?_, fun d z1 z2 z3 => ?_, H5, fun z => ?_⟩
      · rw [H3 d hd]
        have q : (c + 1 ≤ d ∧ d < c + 1 + k ∧ (valsS t pl d).isSome = true) ↔ (c ≤ d ∧ d < c + (k + 1) ∧ (valsS t pl d).isSome = true) := by
          constructor
          · rintro ⟨a1, a2, a3⟩; exact ⟨by omega, by omega, a3⟩
          · rintro ⟨a1, a2, a3⟩
            refine ⟨?_, by omega, a3⟩
            by_cases ed : d = c
            · subst ed; rw [hv] at a3; cases a3
            · omega
        simp only [q]
      · by_cases ed : d = c
        · subst ed; rw [hv] at z3; cases z3
        · exact H4 d (by omega) (by omega) z3
      · unfold qf
        have ov : ¬ ovF S T t pl o c = true := by simp [ovF, hv]
        rw [if_neg ov]
        exact H6 z
    | some v =>
      rw [step.2 v hv]
      have FA : FrK C (uI (uI C 187 c (sVal S T pl o v)) 145 76 (cI C 145 76 ||| ((1 : Int32) <<< (nI c &&& 31)))) := ((FrK.refl C).u187 c _).u145 _ (by omega)
      have a187 : ∀ d, d < c → cI (uI (uI C 187 c (sVal S T pl o v)) 145 76 (cI C 145 76 ||| ((1 : Int32) <<< (nI c &&& 31)))) 187 d = cI C 187 d := fun d hd => by rw [r_In (by decide), r_I, if_neg (by omega)]
      have ac : cI (uI (uI C 187 c (sVal S T pl o v)) 145 76 (cI C 145 76 ||| ((1 : Int32) <<< (nI c &&& 31)))) 187 c = sVal S T pl o v := by rw [r_In (by decide), r_I, if_pos ⟨rfl, rfl⟩]
      have a76 : cI (uI (uI C 187 c (sVal S T pl o v)) 145 76 (cI C 145 76 ||| ((1 : Int32) <<< (nI c &&& 31)))) 145 76 = (cI C 145 76 ||| ((1 : Int32) <<< (nI c &&& 31))) := by rw [r_I, if_pos ⟨rfl, rfl⟩]
      have af : ∀ f, ¬ f = 76 → cI (uI (uI C 187 c (sVal S T pl o v)) 145 76 (cI C 145 76 ||| ((1 : Int32) <<< (nI c &&& 31)))) 145 f = cI C 145 f := fun f hf => by rw [r_I, if_neg (by omega), r_In (by decide)]
      rcases bcs (inR (sVal S T pl o v)) with r | r
      · rw [r]
        simp only [↓reduceIte, Bool.false_eq_true, if_false]
        by_cases e66 : cI C 145 66 = 0
        · rw [if_pos e66]
          generalize hA : uI (uI C 187 c (sVal S T pl o v)) 145 76 (cI C 145 76 ||| ((1 : Int32) <<< (nI c &&& 31))) = A at FA a187 ac a76 af
          have g : ∀ f, ¬ f = 66 → ¬ f = 67 → ¬ f = 68 → cI (uI (uI (uI A 145 66 2) 145 67 (oI pl)) 145 68 (nI c)) 145 f = cI A 145 f := fun f z1 z2 z3 => by rw [r_I, if_neg (by omega), r_I, if_neg (by omega), r_I, if_neg (by omega)]
          refine push v _ hv (((FA.u145 _ (by omega)).u145 _ (by omega)).u145 _ (by omega)) (fun d hd => ?_) ?_ ?_ (fun _ => Or.inr ⟨r, ?_, ?_, ?_⟩) (fun z => absurd e66 z)
          · rw [r_In (by decide), r_In (by decide), r_In (by decide)]; exact a187 d hd
          · rw [r_In (by decide), r_In (by decide), r_In (by decide)]; exact ac
          · rw [g 76 (by decide) (by decide) (by decide)]; exact a76
          · rw [r_I, if_neg (by decide), r_I, if_neg (by decide), r_I, if_pos ⟨rfl, rfl⟩]
          · rw [r_I, if_neg (by decide), r_I, if_pos ⟨rfl, rfl⟩]
          · rw [r_I, if_pos ⟨rfl, rfl⟩]
        · rw [if_neg e66]
          exact push v _ hv FA a187 ac a76 (fun z => absurd z e66) (fun _ => ⟨af 66 (by decide), af 67 (by decide), af 68 (by decide)⟩)
      · rw [r]
        simp only [↓reduceIte, if_true]
        exact push v _ hv FA a187 ac a76 (fun z => Or.inl ⟨r, by rw [af 66 (by decide)]; exact z, af 67 (by decide), af 68 (by decide)⟩) (fun _ => ⟨af 66 (by decide), af 67 (by decide), af 68 (by decide)⟩)
/-- what was made, as the reference has it -/
def MdM (C : AmC) (S : Scr) (t : Stm) (pl : Option Nat) (mk : Nat → Int32) : Prop := (∀ c, c < 4 → bt (cI C 145 76) c = (decide (c < sCols S) && (valsS t pl c).isSome)) ∧ ∀ c, c < sCols S → (valsS t pl c).isSome = true → cI C 187 c = mk c
theorem m211 {n : Nat} {C : AmC} {h i : Nat} {S : Scr} {T : Tab} {t : Stm} {pl o : Option Nat} {o' : Int32} (hw : WhoOK S T t pl o o') (hK : MK C h S i t) (hT : TabM 30 (sCols S) C 180 0 T) (e0 : cI C 145 66 = 0) (hn : 700 ≤ n) : Rt (f_211 n 145 (oI pl) o' (if isNewS t pl = true then 1 else 0) C) (fun _ C' => FrK C C' ∧ MdM C' S t pl (mkS S T t pl o) ∧ match sOver S T t pl o with
    | none => cI C' 145 66 = 0 ∧ cI C' 145 67 = cI C 145 67 ∧ cI C' 145 68 = cI C 145 68
    | some d => cI C' 145 66 = 2 ∧ cI C' 145 67 = oI pl ∧ cI C' 145 68 = nI d) := by
  have h4 := hK.1.2.2.2.2.1
  have F : FrK C (uI C 145 76 0) := (FrK.refl C).u145 _ (by omega)
  have L := m211_lp (h := h) (i := i) hw (sCols S) 0 n (uI C 145 76 0) (by omega) (by omega) (hK.fr F.frM (by decide)) (hT.of (r_In (by decide)))
  unfold f_211
  rw [if_pos k_145, hK.2.1]
  rw [x_0] at L
  refine rt_bind (rt_mono L (fun _ C' H => ?_))
  obtain ⟨H1, H2, H3, H4, H5, H6⟩ := H
  refine rt_ret ⟨F.trans H1, ⟨fun c hc => ?_, fun c hc hv => H4 c (by omega) (by omega) hv⟩, ?_⟩
  · have e76 : cI (uI C 145 76 0) 145 76 = 0 := by rw [r_I, if_pos ⟨rfl, rfl⟩]
    rw [H3 c (by omega), e76, b_0, Nat.zero_add]
    by_cases z : c < sCols S
    · cases hv : (valsS t pl c).isSome <;> simp [z]
    · simp [z]
  · have := H6 (by rw [r_I, if_neg (by decide)]; exact e0)
    rw [r_I, if_neg (by decide), r_I, if_neg (by decide)] at this
    exact this
