/-! The reference goes to the next token. -/
def TpM (C : AmC) (x : Nat → Nat) (N : Nat) : Prop := N ≤ 900 ∧ cI C 145 47 = nI N ∧ ∀ k, k < N → x k < 256 ∧ cI C 178 k = nI (x k)
def rSo (x : Nat → Nat) (p : Nat) : Nat := if isLt (x p) = true then 1 else if isDg (x p) = true then 2 else if isSg (x p) = true then 3 else 4
def dg9 (x : Nat → Nat) (p j : Nat) : Nat := if j ≤ 4 then dgV x p j else 99999
def rVa (x : Nat → Nat) (N p : Nat) : Nat := if isLt (x p) = true then 0 else if isDg (x p) = true then dg9 x p (tkE x N p - p) else x p
def wIo (o : Option Nat) : Int32 := match o with
  | some k => nI k
  | none => -1
def rWo (x : Nat → Nat) (N p : Nat) : Int32 := if isLt (x p) = true then wIo (wIx (sl x p (tkE x N p)) wlM 0) else -1
/-- the reference stands at the token that starts at p -/
def AtP (C : AmC) (x : Nat → Nat) (N p : Nat) : Prop := cI C 145 46 = nI p ∧ (p < N → cI C 145 45 = nI (tkE x N p) ∧ cI C 145 48 = nI (rSo x p) ∧ cI C 145 49 = nI (rVa x N p) ∧ cI C 145 50 = rWo x N p) ∧ (¬ p < N → cI C 145 45 = nI N ∧ cI C 145 48 = 0 ∧ cI C 145 49 = 0 ∧ cI C 145 50 = -1)
/-- nothing changes but where it reads -/
def FrG (C C' : AmC) : Prop := cP C' = cP C ∧ (∀ b, ¬ b = 145 → cI C' b = cI C b) ∧ ∀ f, ¬ (45 ≤ f ∧ f ≤ 50) ∨ f = 47 → cI C' 145 f = cI C 145 f
theorem FrG.refl (C : AmC) : FrG C C := ⟨rfl, fun _ _ => rfl, fun _ _ => rfl⟩
theorem FrG.trans {C C1 C2 : AmC} (h : FrG C C1) (g : FrG C1 C2) : FrG C C2 := ⟨g.1.trans h.1, fun b z => (g.2.1 b z).trans (h.2.1 b z), fun f z => (g.2.2 f z).trans (h.2.2 f z)⟩
theorem FrG.u {C C1 : AmC} (h : FrG C C1) {j : Nat} {v : Int32} (hj : 45 ≤ j ∧ j ≤ 50 ∧ ¬ j = 47) : FrG C (uI C1 145 j v) := ⟨h.1, fun b z => by rw [r_In z]; exact h.2.1 b z, fun f z => by rw [r_I, if_neg (by omega)]; exact h.2.2 f z⟩
theorem TpM.fr {C C1 : AmC} {x : Nat → Nat} {N : Nat} (h : TpM C x N) (F : FrG C C1) : TpM C1 x N := ⟨h.1, by rw [F.2.2 47 (by omega)]; exact h.2.1, by rw [F.2.1 178 (by omega)]; exact h.2.2⟩
section
variable {n : Nat} {C C' : AmC} {x : Nat → Nat} {N : Nat}
theorem m166 {k : Nat} (hP : PInv C) (hx : TpM C x N) (hk : k ≤ N) : f_166 n 145 (nI k) C = some (if k < N then nI (x k) else 0, C) := by
  have N9 := hx.1
  unfold f_166
  rw [if_pos k_145, hx.2.1]
  by_cases d : k < N
  · have k9 : k < 900 := by omega
    rw [if_neg (by rw [x_le (by omega) (by omega)]; omega), bd1 (w_145_42 hP), if_pos k_178, l_178, if_pos ((x_in (by omega)).mpr k9), x_cl (by omega), (hx.2.2 k d).2, if_pos d]
  · rw [if_pos ((x_le (by omega) (by omega)).mpr (by omega)), if_neg d]
def chM2 (j : Nat) : Nat := (flat wlM).getD j 0
theorem chM_c : ∀ j, j < 103 → amKw j = nI (chM2 j) ∧ chM2 j < 128 := by decide +kernel
theorem wlM_ok : (flat wlM).length = 103 ∧ ∀ w ∈ wlM, ∀ j, j < w.length → ¬ w.getD j 0 = 32 := by decide
theorem m167_lp {p e : Nat} (hP : PInv C) (hx : TpM C x N) (hpe : p ≤ e) (he : e ≤ N) : ∀ k i n w pl (lk : Bool), i + k = 103 → k < n → w ≤ i → pl ≤ p + i → lp_167_8 n 145 (nI p) (nI e) (nI w) (nI pl) (if lk = true then 1 else 0) (nI i) C = some (match au chM2 x p e k i w pl lk with
    | some v => .inl (nI v)
    | none => .inr (), C) := by
  have N9 := hx.1
  intro k
  induction k with
  | zero =>
    intro i n w pl lk h1 hn hw hp
    obtain ⟨n, rfl⟩ : ∃ m, n = m + 1 := ⟨n - 1, by omega⟩
    have n103 : (103 : Int32) = nI 103 := rfl
    rw [lp_167_8, n103, if_pos ((x_le (by omega) (by omega)).mpr (by omega)), au]
  | succ k ih =>
    intro i n w pl lk h1 hn hw hp
    obtain ⟨n, rfl⟩ : ∃ m, n = m + 1 := ⟨n - 1, by omega⟩
    have n103 : (103 : Int32) = nI 103 := rfl
    have n32 : (32 : Int32) = nI 32 := rfl
    have i95 : i < 103 := by omega
    obtain ⟨c1, c2⟩ := chM_c i i95
    rw [lp_167_8, n103, if_neg (by rw [x_le (by omega) (by omega)]; omega), if_pos ((x_in (by omega)).mpr i95), x_cl (by omega), c1, n32, au]
    by_cases sp : chM2 i = 32
    · rw [if_neg (fun z => z ((x_eq (by omega) (by omega)).mpr sp)), if_pos sp]
      have I := ih (i + 1) n (w + 1) p true (by omega) (by omega) (by omega) (by omega)
      rw [if_pos rfl] at I
      rcases bcs lk with l | l
      · rw [l, if_pos (by decide), Bool.false_and, if_neg (by decide), x_a1, x_a1]
        exact I
      · rw [l, if_pos rfl, if_neg (by decide), Bool.true_and]
        by_cases d : pl = e
        · rw [if_neg (fun z => z ((x_eq (by omega) (by omega)).mpr d)), if_pos (decide_eq_true d)]
        · rw [if_pos (by rw [x_eq (by omega) (by omega)]; exact d), if_neg (by simpa using d), x_a1, x_a1]
          exact I
    · rw [if_pos (by rw [x_eq (by omega) (by omega)]; exact sp), if_neg sp]
      have I := fun b => ih (i + 1) n w (pl + 1) b (by omega) (by omega) (by omega) (by omega)
      rcases bcs lk with l | l
      · have I := I false
        rw [if_neg (by decide)] at I
        rw [l, if_pos (by decide), Bool.false_and, Bool.false_and, x_a1, x_a1]
        exact I
      · rw [l, if_pos rfl, if_neg (by decide), Bool.true_and]
        by_cases d : pl < e
        · obtain ⟨b1, b2⟩ := hx.2.2 pl (by omega)
          have w := m166 (n := n) (k := pl) hP hx (by omega)
          rw [if_pos (show pl < N by omega)] at w
          rw [if_neg (by rw [x_le (by omega) (by omega)]; omega), if_pos k_145, bd1 w]
          dsimp only
          rw [if_pos ((x_in (by omega)).mpr i95), decide_eq_true d, Bool.true_and]
          by_cases q : x pl = chM2 i
          · have I := I true
            rw [if_pos rfl] at I
            rw [if_neg (fun z => z ((x_eq (by omega) (by omega)).mpr q)), decide_eq_true q, x_a1, x_a1]
            exact I
          · have I := I false
            rw [if_neg (by decide)] at I
            rw [if_pos (by rw [x_eq (by omega) (by omega)]; exact q), decide_eq_false q, x_a1, x_a1]
            exact I
        · have I := I false
          rw [if_neg (by decide)] at I
          rw [if_pos ((x_le (by omega) (by omega)).mpr (by omega)), decide_eq_false d, Bool.false_and, x_a1, x_a1]
          exact I
theorem m167 {p e : Nat} (hP : PInv C) (hx : TpM C x N) (hpe : p ≤ e) (he : e ≤ N) (hn : 110 ≤ n) : f_167 n 145 (nI p) (nI e) C = some (wIo (wIx (sl x p e) wlM 0), C) := by
  have L := m167_lp hP hx hpe he 103 0 n 0 p true rfl (by omega) (Nat.le_refl _) (by omega)
  rw [if_pos rfl, x_0, au_all hpe wlM 103 0 0 wlM_ok.1.symm (fun j _ => by rw [Nat.zero_add]; rfl) wlM_ok.2] at L
  unfold f_167
  rw [bd1 L]
  cases wIx (sl x p e) wlM 0 with
  | none => rfl
  | some v => rfl
theorem m165 {v : Nat} (hv : v < 256) : f_165 n (nI v) C = some (if isLt v = true then 1 else 0, C) := by
  have n97 : (97 : Int32) = nI 97 := rfl
  have n122 : (122 : Int32) = nI 122 := rfl
  unfold f_165 isLt
  rw [n97, n122]
  by_cases a : v < 97
  · rw [if_pos ((x_lt (by omega) (by omega)).mpr a), decide_eq_false (by omega)]
    rfl
  · rw [if_neg (by rw [x_lt (by omega) (by omega)]; exact a)]
    by_cases b : 122 < v
    · rw [if_pos ((x_lt (by omega) (by omega)).mpr b), decide_eq_false (show ¬ v ≤ 122 by omega), Bool.and_false]
      rfl
    · rw [if_neg (by rw [x_lt (by omega) (by omega)]; exact b), decide_eq_true (show 97 ≤ v by omega), decide_eq_true (show v ≤ 122 by omega)]
      rfl
theorem m168 {v : Nat} (hv : v < 256) : f_168 n (nI v) C = some (if isSg v = true then 1 else 0, C) := by
  have e : ∀ c, c < 256 → ((nI v = nI c) ↔ v = c) := fun c hc => x_eq (by omega) (by omega)
  have a1 : (nI v = (59 : Int32)) = (v = 59) := propext (e 59 (by omega))
  have a2 : (nI v = (44 : Int32)) = (v = 44) := propext (e 44 (by omega))
  have a3 : (nI v = (43 : Int32)) = (v = 43) := propext (e 43 (by omega))
  have a4 : (nI v = (45 : Int32)) = (v = 45) := propext (e 45 (by omega))
  have a5 : (nI v = (42 : Int32)) = (v = 42) := propext (e 42 (by omega))
  have a6 : (nI v = (60 : Int32)) = (v = 60) := propext (e 60 (by omega))
  have a7 : (nI v = (61 : Int32)) = (v = 61) := propext (e 61 (by omega))
  have a8 : (nI v = (62 : Int32)) = (v = 62) := propext (e 62 (by omega))
  unfold f_168 isSg
  simp only [a1, a2, a3, a4, a5, a6, a7, a8]
  by_cases h1 : v = 59
  · simp [h1]
  · by_cases h2 : v = 44
    · simp [h2]
    · by_cases h3 : v = 43
      · simp [h3]
      · by_cases h4 : v = 45
        · simp [h4]
        · by_cases h5 : v = 42
          · simp [h5]
          · by_cases h6 : v = 60
            · simp [h6]
            · by_cases h7 : v = 61
              · simp [h7]
              · by_cases h8 : v = 62
                · simp [h8]
                · simp [h1, h2, h3, h4, h5, h6, h7, h8]
theorem m169_b : ∀ m p n C, p + m = N → m < n → PInv C → TpM C x N → cI C 145 45 = nI p → Rt (lp_169_0 n 145 C) (fun z C' => z = 145 ∧ cI C' 145 45 = nI (skB x N p) ∧ FrG C C' ∧ ∀ f, ¬ f = 45 → cI C' 145 f = cI C 145 f) := by
  intro m
  induction m with
  | zero =>
    intro p n C h1 hn hP hx e5
    obtain ⟨n, rfl⟩ : ∃ m, n = m + 1 := ⟨n - 1, by omega⟩
    have N9 := hx.1
    rw [lp_169_0, if_pos k_145, hx.2.1, e5, if_pos ((x_le (by omega) (by omega)).mpr (by omega))]
    have : skB x N p = N := skE_ge (by omega)
    exact rt_ret ⟨rfl, by rw [e5, this, show p = N by omega], FrG.refl _, fun _ _ => rfl⟩
  | succ m ih =>
    intro p n C h1 hn hP hx e5
    obtain ⟨n, rfl⟩ : ∃ m, n = m + 1 := ⟨n - 1, by omega⟩
    have N9 := hx.1
    have pN : p < N := by omega
    obtain ⟨b1, b2⟩ := hx.2.2 p pN
    have w := m166 (n := n) (k := p) hP hx (by omega)
    rw [if_pos pN] at w
    have n32 : (32 : Int32) = nI 32 := rfl
    have F : FrG C (uI C 145 45 (nI (p + 1))) := (FrG.refl C).u (by omega)
    have on : isBl (x p) = true → Rt (lp_169_0 n 145 (uI C 145 45 (nI (p + 1)))) (fun z C' => z = 145 ∧ cI C' 145 45 = nI (skB x N p) ∧ FrG C C' ∧ ∀ f, ¬ f = 45 → cI C' 145 f = cI C 145 f) := by
      intro hb
      refine rt_mono (ih (p + 1) n _ (by omega) (by omega) (hP.of rfl) (hx.fr F) (by rw [r_I, if_pos ⟨rfl, rfl⟩])) (fun _ C' H => ⟨H.1, ?_, F.trans H.2.2.1, fun f hf => by rw [H.2.2.2 f hf, r_I, if_neg (by omega)]⟩)
      rw [H.2.1]
      exact congrArg nI (skE_t (f := fun q => isBl (x q)) pN hb).symm
    rw [lp_169_0, if_pos k_145, hx.2.1, e5, if_neg (by rw [x_le (by omega) (by omega)]; omega), bd1 w]
    dsimp only
    rw [n32, e5]
    by_cases v32 : x p = 32
    · rw [if_pos ((x_eq (by omega) (by omega)).mpr v32), x_a1]
      exact on (by unfold isBl; rw [decide_eq_true v32]; rfl)
    · rw [if_neg (by rw [x_eq (by omega) (by omega)]; exact v32), bd1 w]
      dsimp only
      rw [n_10]
      by_cases v10 : x p = 10
      · rw [if_neg (fun z => z ((x_eq (by omega) (by omega)).mpr v10)), e5, x_a1]
        exact on (by unfold isBl; rw [decide_eq_true v10, Bool.or_true])
      · rw [if_pos (by rw [x_eq (by omega) (by omega)]; exact v10)]
        have hb : isBl (x p) = false := by unfold isBl; rw [decide_eq_false v32, decide_eq_false v10]; rfl
        have : skB x N p = p := skE_f pN hb
        exact rt_ret ⟨rfl, by rw [e5, this], FrG.refl _, fun _ _ => rfl⟩
theorem m169_l : ∀ m p n C, p + m = N → m < n → PInv C → TpM C x N → cI C 145 45 = nI p → Rt (lp_169_51 n 145 C) (fun z C' => z = 145 ∧ cI C' 145 45 = nI (skE (fun q => isLt (x q)) N p) ∧ FrG C C' ∧ ∀ f, ¬ f = 45 → cI C' 145 f = cI C 145 f) := by
  intro m
  induction m with
  | zero =>
    intro p n C h1 hn hP hx e5
    obtain ⟨n, rfl⟩ : ∃ m, n = m + 1 := ⟨n - 1, by omega⟩
    have N9 := hx.1
    have w := m166 (n := n) (k := p) hP hx (by omega)
    rw [if_neg (by omega)] at w
    have w5 := m165 (n := n) (C := C) (v := 0) (by omega)
    rw [lp_169_51, if_pos k_145, e5, bd1 w]
    dsimp only
    rw [show (0 : Int32) = nI 0 from rfl, bd1 w5]
    dsimp only
    rw [if_pos (by decide)]
    exact rt_ret ⟨rfl, by rw [e5, skE_ge (by omega), show p = N by omega], FrG.refl _, fun _ _ => rfl⟩
  | succ m ih =>
    intro p n C h1 hn hP hx e5
    obtain ⟨n, rfl⟩ : ∃ m, n = m + 1 := ⟨n - 1, by omega⟩
    have N9 := hx.1
    have pN : p < N := by omega
    obtain ⟨b1, b2⟩ := hx.2.2 p pN
    have w := m166 (n := n) (k := p) hP hx (by omega)
    rw [if_pos pN] at w
    have F : FrG C (uI C 145 45 (nI (p + 1))) := (FrG.refl C).u (by omega)
    rw [lp_169_51, if_pos k_145, e5, bd1 w]
    dsimp only
    rw [bd1 (m165 (n := n) b1)]
    dsimp only
    rcases bcs (isLt (x p)) with lt | lt
    · rw [lt, if_pos (by decide)]
      exact rt_ret ⟨rfl, by rw [e5, skE_f (f := fun q => isLt (x q)) pN lt], FrG.refl _, fun _ _ => rfl⟩
    · rw [lt, if_neg (by decide), e5, x_a1]
      refine rt_mono (ih (p + 1) n _ (by omega) (by omega) (hP.of rfl) (hx.fr F) (by rw [r_I, if_pos ⟨rfl, rfl⟩])) (fun _ C' H => ⟨H.1, ?_, F.trans H.2.2.1, fun f hf => by rw [H.2.2.2 f hf, r_I, if_neg (by omega)]⟩)
      rw [H.2.1, skE_t (f := fun q => isLt (x q)) pN lt]
theorem m169_d {s : Nat} : ∀ m p n C, p + m = N → m < n → s ≤ p → PInv C → TpM C x N → cI C 145 45 = nI p → cI C 145 46 = nI s → cI C 145 49 = nI (dg9 x s (p - s)) → Rt (lp_169_82 n 145 C) (fun z C' => z = 145 ∧ cI C' 145 45 = nI (skE (fun q => isDg (x q)) N p) ∧ cI C' 145 49 = nI (dg9 x s (skE (fun q => isDg (x q)) N p - s)) ∧ FrG C C' ∧ ∀ f, ¬ f = 45 → ¬ f = 49 → cI C' 145 f = cI C 145 f) := by
  have n48 : (48 : Int32) = nI 48 := rfl
  have n57 : (57 : Int32) = nI 57 := rfl
  intro m
  induction m with
  | zero =>
    intro p n C h1 hn hs hP hx e5 e6 e9
    obtain ⟨n, rfl⟩ : ∃ m, n = m + 1 := ⟨n - 1, by omega⟩
    have N9 := hx.1
    have w := m166 (n := n) (k := p) hP hx (by omega)
    rw [if_neg (by omega)] at w
    have ee : skE (fun q => isDg (x q)) N p = p := by rw [skE_ge (by omega)]; omega
    rw [lp_169_82, if_pos k_145, e5, bd1 w]
    dsimp only
    rw [if_pos (by decide)]
    exact rt_ret ⟨rfl, by rw [e5, ee], by rw [e9, ee], FrG.refl _, fun _ _ _ => rfl⟩
  | succ m ih =>
    intro p n C h1 hn hs hP hx e5 e6 e9
    obtain ⟨n, rfl⟩ : ∃ m, n = m + 1 := ⟨n - 1, by omega⟩
    have N9 := hx.1
    have pN : p < N := by omega
    obtain ⟨b1, b2⟩ := hx.2.2 p pN
    have w := m166 (n := n) (k := p) hP hx (by omega)
    rw [if_pos pN] at w
    have stop : isDg (x p) = false → Rt (some (145, C)) (fun z C' => z = 145 ∧ cI C' 145 45 = nI (skE (fun q => isDg (x q)) N p) ∧ cI C' 145 49 = nI (dg9 x s (skE (fun q => isDg (x q)) N p - s)) ∧ FrG C C' ∧ ∀ f, ¬ f = 45 → ¬ f = 49 → cI C' 145 f = cI C 145 f) := fun dg => by
      have ee : skE (fun q => isDg (x q)) N p = p := skE_f (f := fun q => isDg (x q)) pN dg
      exact rt_ret ⟨rfl, by rw [e5, ee], by rw [e9, ee], FrG.refl _, fun _ _ _ => rfl⟩
    rw [lp_169_82, if_pos k_145, e5, bd1 w]
    dsimp only
    rw [n48]
    by_cases lo : x p < 48
    · rw [if_pos ((x_lt (by omega) (by omega)).mpr lo)]
      exact stop (by unfold isDg; rw [decide_eq_false (by omega)]; rfl)
    · rw [if_neg (by rw [x_lt (by omega) (by omega)]; exact lo), e5, bd1 w]
      dsimp only
      rw [n57]
      by_cases hi : 57 < x p
      · rw [if_pos ((x_lt (by omega) (by omega)).mpr hi)]
        exact stop (by unfold isDg; rw [decide_eq_false (show ¬ x p ≤ 57 by omega), Bool.and_false])
      · have dg : isDg (x p) = true := by unfold isDg; rw [decide_eq_true (show 48 ≤ x p by omega), decide_eq_true (show x p ≤ 57 by omega)]; rfl
        rw [if_neg (by rw [x_lt (by omega) (by omega)]; exact hi), e5, e6, x_sub hs, n_4]
        have on : ∀ v, v = dg9 x s (p + 1 - s) → Rt (lp_169_82 n 145 (uI (uI C 145 49 (nI v)) 145 45 (nI (p + 1)))) (fun z C' => z = 145 ∧ cI C' 145 45 = nI (skE (fun q => isDg (x q)) N p) ∧ cI C' 145 49 = nI (dg9 x s (skE (fun q => isDg (x q)) N p - s)) ∧ FrG C C' ∧ ∀ f, ¬ f = 45 → ¬ f = 49 → cI C' 145 f = cI C 145 f) := by
          intro v hv
          have F : FrG C (uI (uI C 145 49 (nI v)) 145 45 (nI (p + 1))) := ((FrG.refl C).u (by omega)).u (by omega)
          rw [skE_t (f := fun q => isDg (x q)) pN dg]
          refine rt_mono (ih (p + 1) n _ (by omega) (by omega) (by omega) (hP.of rfl) (hx.fr F) (by rw [r_I, if_pos ⟨rfl, rfl⟩]) (by rw [r_I, if_neg (by omega), r_I, if_neg (by omega)]; exact e6) (by rw [r_I, if_neg (by omega), r_I, if_pos ⟨rfl, rfl⟩, hv])) (fun _ C' H => ⟨H.1, H.2.1, H.2.2.1, F.trans H.2.2.2.1, fun f z1 z2 => by rw [H.2.2.2.2 f z1 z2, r_I, if_neg (by omega), r_I, if_neg (by omega)]⟩)
        by_cases j4 : 4 ≤ p - s
        · have e45 : ∀ v, cI (uI C 145 49 v) 145 45 = nI p := fun v => by rw [r_I, if_neg (by omega)]; exact e5
          rw [if_pos ((x_le (by omega) (by omega)).mpr j4), e45, x_a1, show (99999 : Int32) = nI 99999 from rfl]
          exact on 99999 (by unfold dg9; rw [if_neg (by omega)])
        · have e45 : ∀ v, cI (uI C 145 49 v) 145 45 = nI p := fun v => by rw [r_I, if_neg (by omega)]; exact e5
          have dv : dg9 x s (p - s) = dgV x s (p - s) := by unfold dg9; rw [if_pos (by omega)]
          rw [if_neg (by rw [x_le (by omega) (by omega)]; exact j4), bd1 w]
          dsimp only
          rw [e45, x_a1, e9, dv, n_10, x_mul, x_add, x_sub (by omega)]
          refine on _ ?_
          unfold dg9
          rw [if_pos (by omega), show p + 1 - s = (p - s) + 1 by omega, dgV, show s + (p - s) = p by omega]
          omega
theorem m169 {p : Nat} (hP : PInv C) (hx : TpM C x N) (hp : p ≤ N) (e5 : cI C 145 45 = nI p) (hn : 1100 ≤ n) : Rt (f_169 n 145 C) (fun _ C' => AtP C' x N (skB x N p) ∧ FrG C C') := by
  have N9 := hx.1
  have L := m169_b (x := x) (N := N) (N - p) p n C (by omega) (by omega) hP hx e5
  have sle : skB x N p ≤ N := skE_le
  unfold f_169
  refine rt_bind (rt_mono L (fun _ C1 H => ?_))
  obtain ⟨rfl, a5, F1, o1⟩ := H
  have nbl : skB x N p < N → isBl (x (skB x N p)) = false := fun h => skE_no (f := fun q => isBl (x q)) h
  generalize skB x N p = s at a5 sle nbl ⊢
  have F2 : FrG C (uI C1 145 46 (nI s)) := F1.u (by omega)
  have P2 : PInv (uI C1 145 46 (nI s)) := hP.of F2.1
  have x2 := hx.fr F2
  have w := m166 (n := n) (k := s) P2 x2 sle
  have q5 : cI (uI C1 145 46 (nI s)) 145 45 = nI s := by rw [r_I, if_neg (by omega)]; exact a5
  have F3 : FrG C (uI (uI (uI C1 145 46 (nI s)) 145 50 (-1)) 145 49 0) := (F2.u (by omega)).u (by omega)
  have x3 := hx.fr F3
  have P3 : PInv (uI (uI (uI C1 145 46 (nI s)) 145 50 (-1)) 145 49 0) := hP.of F3.1
  have c45 : cI (uI (uI (uI C1 145 46 (nI s)) 145 50 (-1)) 145 49 0) 145 45 = nI s := by rw [r_I, if_neg (by omega), r_I, if_neg (by omega)]; exact q5
  have c46 : cI (uI (uI (uI C1 145 46 (nI s)) 145 50 (-1)) 145 49 0) 145 46 = nI s := by rw [r_I, if_neg (by omega), r_I, if_neg (by omega), r_I, if_pos ⟨rfl, rfl⟩]
  have c49 : cI (uI (uI (uI C1 145 46 (nI s)) 145 50 (-1)) 145 49 0) 145 49 = 0 := by rw [r_I, if_pos ⟨rfl, rfl⟩]
  have c50 : cI (uI (uI (uI C1 145 46 (nI s)) 145 50 (-1)) 145 49 0) 145 50 = -1 := by rw [r_I, if_neg (by omega), r_I, if_pos ⟨rfl, rfl⟩]
  dsimp only
  rw [if_pos k_145, a5, q5, bd1 w]
  dsimp only
  generalize uI (uI (uI C1 145 46 (nI s)) 145 50 (-1)) 145 49 0 = D at F3 x3 P3 c45 c46 c49 c50
  rw [c45, x3.2.1]
  by_cases sN : s < N
  · obtain ⟨b1, b2⟩ := hx.2.2 s sN
    rw [if_pos ((x_lt (by omega) (by omega)).mpr sN), if_pos sN, bd1 (m165 (n := n) b1)]
    dsimp only
    rcases bcs (isLt (x s)) with lt | lt
    · rw [lt, if_pos (by decide)]
      have n48 : (48 : Int32) = nI 48 := rfl
      have n57 : (57 : Int32) = nI 57 := rfl
      -- a sign, or what is none
      have sign : isDg (x s) = false → Rt ((f_168 n (nI (x s)) (uI D 145 45 (nI s + 1))).bind (fun z => match z with | (q25, C26) => (if q25 = 0 then some ((), uI (uI C26 145 48 (4 : Int32)) 145 49 (nI (x s))) else some ((), uI (uI C26 145 48 (3 : Int32)) 145 49 (nI (x s)))))) (fun _ C' => AtP C' x N s ∧ FrG C C') := by
        intro dg
        rw [bd1 (m168 (n := n) b1), x_a1]
        dsimp only
        have eE : tkE x N s = s + 1 := by unfold tkE; rw [lt, dg]; rfl
        have eV : rVa x N s = x s := by unfold rVa; rw [lt, dg]; rfl
        have eW : rWo x N s = -1 := by unfold rWo; rw [lt]; rfl
        have fin : ∀ v, v = rSo x s → Rt (some ((), uI (uI (uI D 145 45 (nI (s + 1))) 145 48 (nI v)) 145 49 (nI (x s)))) (fun _ C' => AtP C' x N s ∧ FrG C C') := by
          intro v hv
          refine rt_ret ⟨⟨?_, fun _ => ⟨?_, ?_, ?_, ?_⟩, fun z => absurd sN z⟩, ((F3.u (by omega)).u (by omega)).u (by omega)⟩
          · rw [r_I, if_neg (by omega), r_I, if_neg (by omega), r_I, if_neg (by omega)]; exact c46
          · rw [r_I, if_neg (by omega), r_I, if_neg (by omega), r_I, if_pos ⟨rfl, rfl⟩, eE]
          · rw [r_I, if_neg (by omega), r_I, if_pos ⟨rfl, rfl⟩, hv]
          · rw [r_I, if_pos ⟨rfl, rfl⟩, eV]
          · rw [r_I, if_neg (by omega), r_I, if_neg (by omega), r_I, if_neg (by omega), eW]; exact c50
        rcases bcs (isSg (x s)) with sg | sg
        · rw [sg, if_pos (by decide)]
          exact fin 4 (by unfold rSo; rw [lt, dg, sg]; rfl)
        · rw [sg, if_neg (by decide)]
          exact fin 3 (by unfold rSo; rw [lt, dg, sg]; rfl)
      rw [n48, n57, c45]
      by_cases lo : x s < 48
      · rw [if_pos ((x_lt (by omega) (by omega)).mpr lo)]
        exact sign (by unfold isDg; rw [decide_eq_false (by omega)]; rfl)
      · rw [if_neg (by rw [x_lt (by omega) (by omega)]; exact lo)]
        by_cases hi : 57 < x s
        · rw [if_pos ((x_lt (by omega) (by omega)).mpr hi)]
          exact sign (by unfold isDg; rw [decide_eq_false (show ¬ x s ≤ 57 by omega), Bool.and_false])
        · have dg : isDg (x s) = true := by unfold isDg; rw [decide_eq_true (show 48 ≤ x s by omega), decide_eq_true (show x s ≤ 57 by omega)]; rfl
          have eE : tkE x N s = skE (fun q => isDg (x q)) N s := by unfold tkE; rw [lt, dg, skE_t (f := fun q => isDg (x q)) sN dg]; rfl
          have LD := m169_d (x := x) (N := N) (s := s) (N - s) s n D (by omega) (by omega) (Nat.le_refl _) P3 x3 c45 c46 (by rw [c49, Nat.sub_self]; rfl)
          rw [if_neg (by rw [x_lt (by omega) (by omega)]; exact hi)]
          refine rt_bind (rt_mono LD (fun _ C4 H => ?_))
          obtain ⟨rfl, d5, d9, F4, o4⟩ := H
          dsimp only
          rw [if_pos k_145]
          refine rt_ret ⟨⟨?_, fun _ => ⟨?_, ?_, ?_, ?_⟩, fun z => absurd sN z⟩, (F3.trans F4).u (by omega)⟩
          · rw [r_I, if_neg (by omega), o4 46 (by omega) (by omega)]; exact c46
          · rw [r_I, if_neg (by omega), d5, eE]
          · rw [r_I, if_pos ⟨rfl, rfl⟩]; unfold rSo; rw [lt, dg]; rfl
          · rw [r_I, if_neg (by omega), d9]; unfold rVa; rw [lt, dg, eE]; rfl
          · rw [r_I, if_neg (by omega), o4 50 (by omega) (by omega), c50]; unfold rWo; rw [lt]; rfl
    · rw [lt, if_neg (by decide)]
      have eE : tkE x N s = skE (fun q => isLt (x q)) N s := by unfold tkE; rw [lt, skE_t (f := fun q => isLt (x q)) sN lt]; rfl
      have LL := m169_l (x := x) (N := N) (N - s) s n D (by omega) (by omega) P3 x3 c45
      refine rt_bind (rt_mono LL (fun _ C4 H => ?_))
      obtain ⟨rfl, d5, F4, o4⟩ := H
      rw [← eE] at d5
      have F5 : FrG C (uI C4 145 48 1) := (F3.trans F4).u (by omega)
      have P5 : PInv (uI C4 145 48 1) := hP.of F5.1
      have g46 : cI (uI C4 145 48 1) 145 46 = nI s := by rw [r_I, if_neg (by omega), o4 46 (by omega)]; exact c46
      have g45 : cI (uI C4 145 48 1) 145 45 = nI (tkE x N s) := by rw [r_I, if_neg (by omega)]; exact d5
      have lo := (tkE_lo (x := x) sN)
      have w7 := m167 (n := n) (p := s) (e := tkE x N s) P5 (hx.fr F5) (by omega) lo.2 (by omega)
      dsimp only
      rw [if_pos k_145, g46, g45, bd1 w7]
      refine rt_ret ⟨⟨?_, fun _ => ⟨?_, ?_, ?_, ?_⟩, fun z => absurd sN z⟩, F5.u (by omega)⟩
      · rw [r_I, if_neg (by omega)]; exact g46
      · rw [r_I, if_neg (by omega)]; exact g45
      · rw [r_I, if_neg (by omega), r_I, if_pos ⟨rfl, rfl⟩]; unfold rSo; rw [lt]; rfl
      · rw [r_I, if_neg (by omega), r_I, if_neg (by omega), o4 49 (by omega), c49]; unfold rVa; rw [lt]; rfl
      · rw [r_I, if_pos ⟨rfl, rfl⟩]; unfold rWo; rw [lt]; rfl
  · rw [if_neg (by rw [x_lt (by omega) (by omega)]; exact sN)]
    have es : s = N := by omega
    refine rt_ret ⟨⟨?_, fun z => absurd z sN, fun _ => ⟨?_, ?_, ?_, ?_⟩⟩, F3.u (by omega)⟩
    · rw [r_I, if_neg (by omega)]; exact c46
    · rw [r_I, if_neg (by omega), c45, es]
    · rw [r_I, if_pos ⟨rfl, rfl⟩]
    · rw [r_I, if_neg (by omega)]; exact c49
    · rw [r_I, if_neg (by omega)]; exact c50
end
