/-! The class's cut: numbers, words, all tokens. -/
section
variable {n : Nat} {C C' : AmC} {x : Nat → Nat} {N : Nat}
theorem c20_lp {p e : Nat} (hx : TpC C x N) (hpe : p < e) (he : e ≤ N) (hd : ∀ q, p ≤ q → q < e → isDg (x q) = true) : ∀ m j n, j + m = min 4 (e - p) → m < n → lp_20_6 n 109 1 (nI p) (nI e) (nI (dgV x p j)) (nI (p + j)) C = some ((109, nI p, nI e, nI (dgV x p (min 4 (e - p)))), C) := by
  have N9 := hx.1
  intro m
  induction m with
  | zero =>
    intro j n h1 hn
    obtain ⟨n, rfl⟩ : ∃ m, n = m + 1 := ⟨n - 1, by omega⟩
    have ej : j = min 4 (e - p) := by omega
    rw [lp_20_6, n_4, x_add]
    by_cases a : e ≤ p + j
    · rw [if_pos ((x_le (by omega) (by omega)).mpr a), ej]
    · rw [if_neg (by rw [x_le (by omega) (by omega)]; exact a), if_pos ((x_le (by omega) (by omega)).mpr (by omega)), ej]
  | succ m ih =>
    intro j n h1 hn
    obtain ⟨n, rfl⟩ : ∃ m, n = m + 1 := ⟨n - 1, by omega⟩
    have j4 : j < 4 := by omega
    have je : p + j < e := by omega
    have I := ih (j + 1) n (by omega) (by omega)
    obtain ⟨b1, b2⟩ := hx.2 (p + j) (by omega)
    have dg := hd (p + j) (by omega) je
    unfold isDg at dg
    rw [Bool.and_eq_true, decide_eq_true_eq, decide_eq_true_eq] at dg
    have p9 : p + j < 900 := by omega
    have nl : ¬ Int32.ofNat 900 ≤ nI (p + j) := by rw [x_ofNat, x_le (by omega) (by omega)]; omega
    have n48 : (48 : Int32) = nI 48 := rfl
    have b3 : by8 (x (p + j)) = nI (x (p + j)) := by unfold by8; exact t8_lo _ (by omega)
    rw [lp_20_6, if_neg (by rw [x_le (by omega) (by omega)]; omega), n_4, x_add, if_neg (by rw [x_le (by omega) (by omega)]; omega), if_pos k_1, l_1, if_neg nl, if_pos ((x_in (by omega)).mpr p9), x_cl (by omega), b2, b3, n_10, x_mul, x_add, n48, x_sub (by omega), x_a1]
    have ev : dgV x p j * 10 + x (p + j) - 48 = dgV x p (j + 1) := by rw [dgV]; omega
    rw [ev]
    exact I
theorem c20 {p e m : Nat} (hP : PInv C) (hx : TpC C x N) (hpe : p < e) (he : e ≤ N) (hd : ∀ q, p ≤ q → q < e → isDg (x q) = true) (e3 : cI C 109 3 = nI m) (hm : m ≤ 900) (hn : 10 ≤ n) : f_20 n 109 1 (nI p) (nI e) C = some ((), c19C C m (nI (if e - p ≤ 4 then 128 else 129)) (nI p) (nI (dgV x p (min 4 (e - p))))) := by
  have N9 := hx.1
  have L := c20_lp hx hpe he hd (min 4 (e - p)) 0 n (by omega) (by omega)
  have p0 : (if nI p < (0 : Int32) then (0 : Int32) else nI p) = nI p := by rw [if_neg (by rw [x_lt0 (by omega)]; exact id)]
  unfold f_20
  have L : lp_20_6 n 109 1 (nI p) (nI e) (0 : Int32) (nI p) C = some ((109, nI p, nI e, nI (dgV x p (min 4 (e - p)))), C) := L
  rw [p0, bd1 L]
  dsimp only
  rw [x_sub (by omega), n_4]
  by_cases d : e - p ≤ 4
  · rw [if_pos ((x_le (by omega) (by omega)).mpr d), if_pos k_109, if_pos d]
    rw [show (128 : Int32) = nI 128 from rfl, bd1 (c19 (n := n) hP e3 hm)]
  · rw [if_neg (by rw [x_le (by omega) (by omega)]; exact d), if_pos k_109, if_neg d]
    rw [show (129 : Int32) = nI 129 from rfl, bd1 (c19 (n := n) hP e3 hm)]
theorem sl_len {p e : Nat} : (sl x p e).length = e - p := by unfold sl; simp
theorem sl_0 {p e : Nat} (h : p < e) : (sl x p e).getD 0 0 = x p := by
  unfold sl
  rw [show e - p = (e - p - 1) + 1 by omega, List.range_succ_eq_map]
  simp
theorem isCo_eq {p e : Nat} (h : p < e) : isCo (sl x p e) = (decide (e = p + 1) && decide (x p ≤ 100)) := by
  unfold isCo
  rw [sl_len, sl_0 h]
  have : decide (e - p = 1) = decide (e = p + 1) := by rw [decide_eq_decide]; omega
  rw [this]
theorem c21 {p e m : Nat} (hP : PInv C) (hx : TpC C x N) (hpe : p < e) (he : e ≤ N) (hl : isLt (x p) = true) (e3 : cI C 109 3 = nI m) (hm : m ≤ 900) (hn : 100 ≤ n) : f_21 n 109 1 (nI p) (nI e) C = some ((), c19C C m (nI (if isCo (sl x p e) = true then 130 else wdK (sl x p e))) (nI p) (nI (if isCo (sl x p e) = true then x p - 97 else 0))) := by
  have N9 := hx.1
  have w22 := c22 (n := n) hx (Nat.le_of_lt hpe) he hn
  obtain ⟨b1, b2⟩ := hx.2 p (by omega)
  unfold isLt at hl
  rw [Bool.and_eq_true, decide_eq_true_eq, decide_eq_true_eq] at hl
  have b3 : by8 (x p) = nI (x p) := by unfold by8; exact t8_lo _ (by omega)
  have p9 : p < 900 := by omega
  have nl : ¬ Int32.ofNat 900 ≤ nI p := by rw [x_ofNat, x_le (by omega) (by omega)]; omega
  have n100 : (100 : Int32) = nI 100 := rfl
  have n97 : (97 : Int32) = nI 97 := rfl
  have z0 : (0 : Int32) = nI 0 := rfl
  have word : isCo (sl x p e) = false → ((f_22 n 1 (nI p) (nI e) C).bind (fun z => match z with | (q2, C3) => if isK 109 2 = true then (f_19 n 109 q2 (nI p) (0 : Int32) C3).bind (fun z => match z with | (_, C7) => some ((), C7)) else none)) = some ((), c19C C m (nI (if isCo (sl x p e) = true then 130 else wdK (sl x p e))) (nI p) (nI (if isCo (sl x p e) = true then x p - 97 else 0))) := by
    intro co
    rw [bd1 w22]
    dsimp only
    rw [if_pos k_109, bd1 (c19 (n := n) hP e3 hm), co]
    rfl
  rw [isCo_eq hpe] at word ⊢
  unfold f_21
  rw [x_a1]
  by_cases d : e = p + 1
  · rw [if_neg (fun z => z ((x_eq (by omega) (by omega)).mpr d)), if_neg (by rw [x_lt0 (by omega)]; exact id), if_pos k_1, l_1, if_neg nl, if_pos ((x_in (by omega)).mpr p9), x_cl (by omega), b2, b3, n100]
    by_cases g : 100 < x p
    · rw [if_pos ((x_lt (by omega) (by omega)).mpr g)]
      exact word (by rw [decide_eq_false (show ¬ x p ≤ 100 by omega), Bool.and_false])
    · rw [if_neg (by rw [x_lt (by omega) (by omega)]; exact g), if_pos ((x_in (by omega)).mpr p9), if_pos k_109, n97, x_sub (by omega), bd1 (c19 (n := n) hP e3 hm), decide_eq_true d, decide_eq_true (show x p ≤ 100 by omega)]
      rfl
  · rw [if_pos (by rw [x_eq (by omega) (by omega)]; exact d)]
    exact word (by rw [decide_eq_false d, Bool.false_and])
theorem c15_l {p : Nat} {a b c : Int32} (hx : TpC C x N) : ∀ m q n, q + m = N → m < n → lp_15_24 n 109 1 (nI N) a b (nI q) C = some ((109, 1, nI N, a, b, nI (skE (fun q => isLt (x q)) N q)), C) := by
  have N9 := hx.1
  intro m
  induction m with
  | zero =>
    intro q n h1 hn
    obtain ⟨n, rfl⟩ : ∃ m, n = m + 1 := ⟨n - 1, by omega⟩
    rw [lp_15_24, if_pos ((x_le (by omega) (by omega)).mpr (by omega)), skE_ge (by omega), show q = N by omega]
  | succ m ih =>
    intro q n h1 hn
    obtain ⟨n, rfl⟩ : ∃ m, n = m + 1 := ⟨n - 1, by omega⟩
    obtain ⟨b1, b2⟩ := hx.2 q (by omega)
    have q9 : q < 900 := by omega
    rw [lp_15_24, if_neg (by rw [x_le (by omega) (by omega)]; omega), if_pos k_1, l_1, if_pos ((x_in (by omega)).mpr q9), x_cl (by omega), b2, bd1 (c16 (n := n) b1)]
    dsimp only
    rcases bcs (isLt (x q)) with e | e
    · rw [e, if_pos (by decide), skE_f (f := fun q => isLt (x q)) (by omega) e]
    · rw [e, if_neg (by decide), x_a1, ih (q + 1) n (by omega) (by omega), skE_t (f := fun q => isLt (x q)) (by omega) e]
theorem c15_d {p : Nat} {a b c : Int32} (hx : TpC C x N) : ∀ m q n, q + m = N → m < n → lp_15_43 n 109 1 (nI N) a b (nI q) C = some ((109, 1, nI N, a, b, nI (skE (fun q => isDg (x q)) N q)), C) := by
  have N9 := hx.1
  intro m
  induction m with
  | zero =>
    intro q n h1 hn
    obtain ⟨n, rfl⟩ : ∃ m, n = m + 1 := ⟨n - 1, by omega⟩
    rw [lp_15_43, if_pos ((x_le (by omega) (by omega)).mpr (by omega)), skE_ge (by omega), show q = N by omega]
  | succ m ih =>
    intro q n h1 hn
    obtain ⟨n, rfl⟩ : ∃ m, n = m + 1 := ⟨n - 1, by omega⟩
    obtain ⟨b1, b2⟩ := hx.2 q (by omega)
    have q9 : q < 900 := by omega
    rw [lp_15_43, if_neg (by rw [x_le (by omega) (by omega)]; omega), if_pos k_1, l_1, if_pos ((x_in (by omega)).mpr q9), x_cl (by omega), b2, bd1 (c17 (n := n) b1)]
    dsimp only
    rcases bcs (isDg (x q)) with e | e
    · rw [e, if_pos (by decide), skE_f (f := fun q => isDg (x q)) (by omega) e]
    · rw [e, if_neg (by decide), x_a1, ih (q + 1) n (by omega) (by omega), skE_t (f := fun q => isDg (x q)) (by omega) e]
/-- the first m tokens -/
def TkI (C : AmC) (x : Nat → Nat) (N m : Nat) : Prop := cI C 109 3 = nI m ∧ ∀ i, i < m → ps x N i < N ∧ cI C 110 i = nI (tK x N i) ∧ cI C 111 i = nI (ps x N i) ∧ cI C 112 i = nI (tN x N i)
theorem TkI.add {m : Nat} {k nu : Nat} (h : TkI C x N m) (hp : ps x N m < N) (ek : tK x N m = k) (en : tN x N m = nu) : TkI (c19C C m (nI k) (nI (ps x N m)) (nI nu)) x N (m + 1) := by
  refine ⟨by unfold c19C; rw [r_I, if_pos ⟨rfl, rfl⟩], fun i hi => ?_⟩
  unfold c19C
  by_cases d : i = m
  · subst d
    refine ⟨hp, ?_, ?_, ?_⟩
    · rw [r_In (by decide), r_In (by decide), r_In (by decide), r_I, if_pos ⟨rfl, rfl⟩, ek]
    · rw [r_In (by decide), r_In (by decide), r_I, if_pos ⟨rfl, rfl⟩]
    · rw [r_In (by decide), r_I, if_pos ⟨rfl, rfl⟩, en]
  · obtain ⟨a1, a2, a3, a4⟩ := h.2 i (by omega)
    refine ⟨a1, ?_, ?_, ?_⟩
    · rw [r_In (by decide), r_In (by decide), r_In (by decide), r_I, if_neg (by omega)]; exact a2
    · rw [r_In (by decide), r_In (by decide), r_I, if_neg (by omega), r_In (by decide)]; exact a3
    · rw [r_In (by decide), r_I, if_neg (by omega), r_In (by decide), r_In (by decide)]; exact a4
theorem c15_lp : ∀ k q st n C m, q + k = N → k + 1000 < n → st ≤ q → m ≤ q → PInv C → TpC C x N → TkI C x N m → skB x N q = ps x N m → Rt (lp_15_7 n 109 1 (nI N) (nI q) (nI st) C) (fun z C' => z = (109, nI N) ∧ (∃ M, M ≤ N ∧ TkI C' x N M ∧ ps x N M = N) ∧ Fr (fun b => 109 ≤ b ∧ b ≤ 112) C C') := by
  intro k
  induction k using Nat.strongRecOn with
  | _ k ih =>
    intro q st n C m h1 hn hst hm hP hx hT hs
    have N9 := hx.1
    obtain ⟨n, rfl⟩ : ∃ m, n = m + 1 := ⟨n - 1, by omega⟩
    by_cases q0 : N ≤ q
    · have end_ : ps x N m = N := by rw [← hs]; exact skE_ge q0
      rw [lp_15_7, n_900]
      have fin : Rt (some ((109, nI N), C)) (fun z C' => z = (109, nI N) ∧ (∃ M, M ≤ N ∧ TkI C' x N M ∧ ps x N M = N) ∧ Fr (fun b => 109 ≤ b ∧ b ≤ 112) C C') := rt_ret ⟨rfl, ⟨m, by omega, hT, end_⟩, Fr.refl _ _⟩
      by_cases s9 : 900 ≤ st
      · rw [if_pos ((x_le (by omega) (by omega)).mpr s9)]; exact fin
      · rw [if_neg (by rw [x_le (by omega) (by omega)]; exact s9), if_pos ((x_le (by omega) (by omega)).mpr q0)]; exact fin
    · have qN : q < N := by omega
      obtain ⟨b1, b2⟩ := hx.2 q qN
      have q9 : q < 900 := by omega
      rw [lp_15_7, n_900, if_neg (by rw [x_le (by omega) (by omega)]; omega), if_neg (by rw [x_le (by omega) (by omega)]; exact q0), if_pos k_1, l_1, if_pos ((x_in (by omega)).mpr q9), x_cl (by omega), b2, bd1 (c16 (n := n) b1)]
      dsimp only
      -- on, behind a token
      have on : ∀ e kd nu, q < e → e ≤ N → isBl (x q) = false → tkE x N q = e → tkK x N q = kd → tkN x N q = nu → Rt (lp_15_7 n 109 1 (nI N) (nI e) (nI st + 1) (c19C C m (nI kd) (nI q) (nI nu))) (fun z C' => z = (109, nI N) ∧ (∃ M, M ≤ N ∧ TkI C' x N M ∧ ps x N M = N) ∧ Fr (fun b => 109 ≤ b ∧ b ≤ 112) C C') := by
        intro e kd nu he heN hb eE eK eN
        have ep : ps x N m = q := by rw [← hs]; exact skE_f qN hb
        have F := c19_fr (C := C) (m := m) (k := nI kd) (st := nI q) (nu := nI nu)
        have T2 : TkI (c19C C m (nI kd) (nI (ps x N m)) (nI nu)) x N (m + 1) := hT.add (by omega) (by unfold tK; rw [ep, if_pos qN]; exact eK) (by unfold tN; rw [ep, if_pos qN]; exact eN)
        rw [ep] at T2
        have x2 : TpC (c19C C m (nI kd) (nI q) (nI nu)) x N := ⟨N9, fun j hj => by rw [F.2.1 1 (by omega)]; exact hx.2 j hj⟩
        rw [x_a1]
        refine rt_mono (ih (N - e) (by omega) e (st + 1) n _ (m + 1) (by omega) (by omega) (by omega) (by omega) (hP.of F.1) x2 T2 ?_) (fun _ _ H => ⟨H.1, H.2.1, F.trans H.2.2⟩)
        rw [ps_s (by omega), ep, eE]
      have eo : ps x N m ≤ N := ps_le m
      rcases bcs (isLt (x q)) with lt | lt
      · rw [lt, if_pos (by decide), bd1 (c17 (n := n) b1)]
        dsimp only
        have nb : isLt (x q) = false := lt
        rcases bcs (isDg (x q)) with dg | dg
        · rw [dg, if_pos (by decide)]
          have n32 : (32 : Int32) = nI 32 := rfl
          rw [n32, n_10]
          -- a blank
          have blank : isBl (x q) = true → Rt (lp_15_7 n 109 1 (nI N) (nI q + 1) (nI st + 1) C) (fun z C' => z = (109, nI N) ∧ (∃ M, M ≤ N ∧ TkI C' x N M ∧ ps x N M = N) ∧ Fr (fun b => 109 ≤ b ∧ b ≤ 112) C C') := by
            intro hb
            rw [x_a1, x_a1]
            refine ih (N - (q + 1)) (by omega) (q + 1) (st + 1) n C m (by omega) (by omega) (by omega) (by omega) hP hx hT ?_
            rw [← hs]
            exact (skE_t (f := fun q => isBl (x q)) qN hb).symm
          by_cases v32 : x q = 32
          · rw [if_pos ((by_eq b1 (by omega)).mpr v32)]
            exact blank (by unfold isBl; rw [decide_eq_true v32]; rfl)
          · rw [if_neg (by rw [by_eq b1 (by omega)]; exact v32)]
            by_cases v10 : x q = 10
            · rw [if_pos ((by_eq b1 (by omega)).mpr v10)]
              exact blank (by unfold isBl; rw [decide_eq_true v10, Bool.or_true])
            · rw [if_neg (by rw [by_eq b1 (by omega)]; exact v10), bd1 (c18 (n := n) b1)]
              dsimp only
              have hb : isBl (x q) = false := by unfold isBl; rw [decide_eq_false v32, decide_eq_false v10]; rfl
              have eE : tkE x N q = q + 1 := by unfold tkE; rw [lt, dg]; rfl
              have eN : tkN x N q = 0 := by unfold tkN; rw [lt, dg]; rfl
              have z0 : (0 : Int32) = nI 0 := rfl
              rcases bcs (isSg (x q)) with sg | sg
              · have eK : tkK x N q = 131 := by unfold tkK; rw [lt, dg, sg]; rfl
                rw [sg, if_pos (by decide), if_pos k_109, show (131 : Int32) = nI 131 from rfl, z0, bd1 (c19 (n := n) hP hT.1 (by omega)), x_a1]
                exact on (q + 1) 131 0 (by omega) (by omega) hb eE eK eN
              · have eK : tkK x N q = x q := by unfold tkK; rw [lt, dg, sg]; rfl
                have v128 : x q < 128 := by
                  unfold isSg at sg
                  simp only [Bool.or_eq_true, decide_eq_true_eq] at sg
                  omega
                have b3 : by8 (x q) = nI (x q) := by unfold by8; exact t8_lo _ v128
                rw [sg, if_neg (by decide), if_pos k_109, b3, z0, bd1 (c19 (n := n) hP hT.1 (by omega)), x_a1]
                exact on (q + 1) (x q) 0 (by omega) (by omega) hb eE eK eN
        · have eE : tkE x N q = skE (fun q => isDg (x q)) N (q + 1) := by unfold tkE; rw [lt, dg]; rfl
          have lo := (tkE_lo (x := x) qN).1
          have hi := (tkE_lo (x := x) qN).2
          have hb : isBl (x q) = false := by
            unfold isDg at dg
            rw [Bool.and_eq_true, decide_eq_true_eq, decide_eq_true_eq] at dg
            unfold isBl
            rw [decide_eq_false (by omega), decide_eq_false (by omega)]
            rfl
          rw [dg, if_neg (by decide), x_a1, bd1 (c15_d (p := 0) (c := 0) hx (N - (q + 1)) (q + 1) n (by omega) (by omega))]
          dsimp only
          rw [← eE]
          rw [if_pos k_109, bd1 (c20 (n := n) hP hx (show q < tkE x N q by omega) hi (fun r h1 h2 => ?_) hT.1 (by omega) (by omega))]
          · dsimp only
            refine on (tkE x N q) _ _ (by omega) hi hb rfl ?_ ?_
            · unfold tkK; rw [lt, dg]; rfl
            · unfold tkN; rw [lt, dg]; rfl
          · by_cases e : r = q
            · rw [e]; exact dg
            · rw [eE] at h2
              exact skE_in (f := fun q => isDg (x q)) (show q + 1 ≤ r by omega) h2
      · have eE : tkE x N q = skE (fun q => isLt (x q)) N (q + 1) := by unfold tkE; rw [lt]; rfl
        have lo := (tkE_lo (x := x) qN).1
        have hi := (tkE_lo (x := x) qN).2
        have hb : isBl (x q) = false := by
          have lt2 := lt
          unfold isLt at lt2
          rw [Bool.and_eq_true, decide_eq_true_eq, decide_eq_true_eq] at lt2
          unfold isBl
          rw [decide_eq_false (by omega), decide_eq_false (by omega)]
          rfl
        rw [lt, if_neg (by decide), x_a1, bd1 (c15_l (p := 0) (c := 0) hx (N - (q + 1)) (q + 1) n (by omega) (by omega))]
        dsimp only
        rw [← eE]
        rw [if_pos k_109, bd1 (c21 (n := n) hP hx (show q < tkE x N q by omega) hi lt hT.1 (by omega) (by omega))]
        dsimp only
        refine on (tkE x N q) _ _ (by omega) hi hb rfl ?_ ?_
        · unfold tkK; rw [lt]; rfl
        · unfold tkN; rw [lt]; rfl
/-- all tokens, the end's behind them -/
def TkC (C : AmC) (x : Nat → Nat) (N : Nat) : Prop := ∃ M, M ≤ 900 ∧ cI C 109 3 = nI (M + 1) ∧ ps x N M = N ∧ (∀ i, i < M → ps x N i < N) ∧ ∀ i, i ≤ M → cI C 110 i = nI (tK x N i) ∧ cI C 111 i = nI (ps x N i) ∧ cI C 112 i = nI (tN x N i)
theorem c15 (hP : PInv C) (hx : TpC C x N) (hn : 2000 ≤ n) : Rt (f_15 n 109 1 (nI N) C) (fun _ C' => TkC C' x N ∧ Fr (fun b => 109 ≤ b ∧ b ≤ 112) C C') := by
  have N9 := hx.1
  have F0 : Fr (fun b => 109 ≤ b ∧ b ≤ 112) C (uI C 109 3 0) := (Fr.refl _ C).uI (by omega)
  have L := c15_lp (x := x) (N := N) N 0 0 n (uI C 109 3 0) 0 (by omega) (by omega) (Nat.le_refl _) (Nat.le_refl _) (hP.of rfl) ⟨N9, fun j hj => by rw [r_In (by decide)]; exact hx.2 j hj⟩ ⟨by rw [r_I, if_pos ⟨rfl, rfl⟩]; rfl, fun i hi => absurd hi (Nat.not_lt_zero i)⟩ rfl
  rw [x_0] at L
  unfold f_15
  rw [if_pos k_109]
  refine rt_bind (rt_mono L (fun _ C1 H => ?_))
  obtain ⟨rfl, ⟨M, hM, hT, hE⟩, F1⟩ := H
  have w := c19 (n := n) (C := C1) (m := M) (k := 132) (st := nI N) (nu := 0) (hP.of (F0.trans F1).1) hT.1 (by omega)
  dsimp only
  rw [if_pos k_109, bd1 w]
  refine rt_ret ⟨⟨M, by omega, by unfold c19C; rw [r_I, if_pos ⟨rfl, rfl⟩], hE, fun i hi => (hT.2 i hi).1, fun i hi => ?_⟩, (F0.trans F1).trans c19_fr⟩
  unfold c19C
  by_cases d : i = M
  · subst d
    refine ⟨?_, ?_, ?_⟩
    · rw [r_In (by decide), r_In (by decide), r_In (by decide), r_I, if_pos ⟨rfl, rfl⟩]
      unfold tK
      rw [if_neg (by omega)]
      rfl
    · rw [r_In (by decide), r_In (by decide), r_I, if_pos ⟨rfl, rfl⟩, hE]
    · rw [r_In (by decide), r_I, if_pos ⟨rfl, rfl⟩]
      unfold tN
      rw [if_neg (by omega)]
      rfl
  · obtain ⟨_, a2, a3, a4⟩ := hT.2 i (by omega)
    refine ⟨?_, ?_, ?_⟩
    · rw [r_In (by decide), r_In (by decide), r_In (by decide), r_I, if_neg (by omega)]; exact a2
    · rw [r_In (by decide), r_In (by decide), r_I, if_neg (by omega), r_In (by decide)]; exact a3
    · rw [r_In (by decide), r_I, if_neg (by omega), r_In (by decide), r_In (by decide)]; exact a4
end
