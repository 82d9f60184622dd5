/-! The class cuts a text into tokens. -/
theorem t8_lo : ∀ v, v < 128 → (nI v).toInt8.toInt32 = nI v := by decide +kernel
theorem t8_hi : ∀ v, v < 256 → 128 ≤ v → (nI v).toInt8.toInt32 < 0 := by decide +kernel
/-- a byte as the class has it -/
def by8 (v : Nat) : Int32 := (nI v).toInt8.toInt32
theorem by_eq {v c : Nat} (hv : v < 256) (hc : c < 128) : (by8 v = nI c) ↔ v = c := by
  unfold by8
  by_cases l : v < 128
  · rw [t8_lo v l, x_eq (by omega) (by omega)]
  · constructor
    · intro h
      have := t8_hi v hv (by omega)
      rw [h, x_lt0 (by omega)] at this
      exact this.elim
    · intro h; omega
theorem by_lt {v c : Nat} (hv : v < 256) (hc : c < 128) : (by8 v < nI c) ↔ v < c ∨ 128 ≤ v := by
  unfold by8
  by_cases l : v < 128
  · rw [t8_lo v l, x_lt (by omega) (by omega)]
    omega
  · refine ⟨fun _ => Or.inr (by omega), fun _ => ?_⟩
    have h1 := t8_hi v hv (by omega)
    rw [Int32.lt_iff_toInt_lt] at h1 ⊢
    have : (0 : Int32).toInt = 0 := by decide
    rw [nI_toInt (by omega)]
    omega
theorem by_gt {v c : Nat} (hv : v < 256) (hc : c < 128) : (nI c < by8 v) ↔ c < v ∧ v < 128 := by
  unfold by8
  by_cases l : v < 128
  · rw [t8_lo v l, x_lt (by omega) (by omega)]
    omega
  · constructor
    · intro h
      have h1 := t8_hi v hv (by omega)
      rw [Int32.lt_iff_toInt_lt] at h1 h
      have : (0 : Int32).toInt = 0 := by decide
      rw [nI_toInt (by omega)] at h
      omega
    · intro h; omega
def TpC (C : AmC) (x : Nat → Nat) (N : Nat) : Prop := N ≤ 900 ∧ ∀ k, k < N → x k < 256 ∧ cI C 1 k = by8 (x k)
section
variable {n : Nat} {C C' : AmC} {x : Nat → Nat} {N : Nat}
theorem c16 {v : Nat} (hv : v < 256) : f_16 n (by8 v) C = some (if isLt v = true then 1 else 0, C) := by
  have n97 : (97 : Int32) = nI 97 := rfl
  have n122 : (122 : Int32) = nI 122 := rfl
  unfold f_16 isLt
  rw [n97, n122]
  by_cases a : by8 v < nI 97
  · rw [if_pos a]
    rw [by_lt hv (by omega)] at a
    have : (decide (97 ≤ v) && decide (v ≤ 122)) = false := by
      rcases a with a | a
      · rw [decide_eq_false (by omega), Bool.false_and]
      · rw [decide_eq_false (show ¬ v ≤ 122 by omega), Bool.and_false]
    rw [this]
    rfl
  · rw [if_neg a]
    rw [by_lt hv (by omega)] at a
    by_cases b : nI 122 < by8 v
    · rw [if_pos b]
      rw [by_gt hv (by omega)] at b
      rw [decide_eq_false (show ¬ v ≤ 122 by omega), Bool.and_false]
      rfl
    · rw [if_neg b]
      rw [by_gt hv (by omega)] at b
      rw [decide_eq_true (show 97 ≤ v by omega), decide_eq_true (show v ≤ 122 by omega)]
      rfl
theorem c17 {v : Nat} (hv : v < 256) : f_17 n (by8 v) C = some (if isDg v = true then 1 else 0, C) := by
  have n48 : (48 : Int32) = nI 48 := rfl
  have n57 : (57 : Int32) = nI 57 := rfl
  unfold f_17 isDg
  rw [n48, n57]
  by_cases a : by8 v < nI 48
  · rw [if_pos a]
    rw [by_lt hv (by omega)] at a
    have : (decide (48 ≤ v) && decide (v ≤ 57)) = false := by
      rcases a with a | a
      · rw [decide_eq_false (by omega), Bool.false_and]
      · rw [decide_eq_false (show ¬ v ≤ 57 by omega), Bool.and_false]
    rw [this]
    rfl
  · rw [if_neg a]
    rw [by_lt hv (by omega)] at a
    by_cases b : nI 57 < by8 v
    · rw [if_pos b]
      rw [by_gt hv (by omega)] at b
      rw [decide_eq_false (show ¬ v ≤ 57 by omega), Bool.and_false]
      rfl
    · rw [if_neg b]
      rw [by_gt hv (by omega)] at b
      rw [decide_eq_true (show 48 ≤ v by omega), decide_eq_true (show v ≤ 57 by omega)]
      rfl
theorem c18 {v : Nat} (hv : v < 256) : f_18 n (by8 v) C = some (if isSg v = true then 1 else 0, C) := by
  have e : ∀ c, c < 128 → ((by8 v = nI c) ↔ v = c) := fun c hc => by_eq hv hc
  have a1 : (by8 v = (59 : Int32)) = (v = 59) := propext (e 59 (by omega))
  have a2 : (by8 v = (44 : Int32)) = (v = 44) := propext (e 44 (by omega))
  have a3 : (by8 v = (43 : Int32)) = (v = 43) := propext (e 43 (by omega))
  have a4 : (by8 v = (45 : Int32)) = (v = 45) := propext (e 45 (by omega))
  have a5 : (by8 v = (42 : Int32)) = (v = 42) := propext (e 42 (by omega))
  have a6 : (by8 v = (60 : Int32)) = (v = 60) := propext (e 60 (by omega))
  have a7 : (by8 v = (61 : Int32)) = (v = 61) := propext (e 61 (by omega))
  have a8 : (by8 v = (62 : Int32)) = (v = 62) := propext (e 62 (by omega))
  unfold f_18 isSg
  simp only [a1, a2, a3, a4, a5, a6, a7, a8]
  by_cases h1 : v = 59
  · simp [h1]
  · by_cases h2 : v = 44
    · simp [h2]
    · by_cases h3 : v = 43
      · simp [h3]
      · by_cases h4 : v = 45
        · simp [h4]
        · by_cases h5 : v = 42
          · simp [h5]
          · by_cases h6 : v = 60
            · simp [h6]
            · by_cases h7 : v = 61
              · simp [h7]
              · by_cases h8 : v = 62
                · simp [h8]
                · simp [h1, h2, h3, h4, h5, h6, h7, h8]
def chW (j : Nat) : Nat := (flat wlC).getD j 0
theorem chW_c : ∀ j, j < 95 → amWc j = nI (chW j) ∧ chW j < 128 := by decide +kernel
theorem wlC_ok : (flat wlC).length = 95 ∧ ∀ w ∈ wlC, ∀ j, j < w.length → ¬ w.getD j 0 = 32 := by decide
theorem c22_lp {p e : Nat} (hx : TpC C x N) (hpe : p ≤ e) (he : e ≤ N) : ∀ k i n w pl (lk : Bool), i + k = 95 → k < n → w ≤ i → pl ≤ p + i → lp_22_8 n 1 (nI p) (nI e) (nI (200 + w)) (nI pl) (if lk = true then 1 else 0) (nI i) C = some (match au chW x p e k i w pl lk with
    | some v => .inl (nI (200 + v))
    | none => .inr (), C) := by
  have N9 := hx.1
  intro k
  induction k with
  | zero =>
    intro i n w pl lk h1 hn hw hp
    obtain ⟨n, rfl⟩ : ∃ m, n = m + 1 := ⟨n - 1, by omega⟩
    have n95 : (95 : Int32) = nI 95 := rfl
    rw [lp_22_8, n95, if_pos ((x_le (by omega) (by omega)).mpr (by omega)), au]
  | succ k ih =>
    intro i n w pl lk h1 hn hw hp
    obtain ⟨n, rfl⟩ : ∃ m, n = m + 1 := ⟨n - 1, by omega⟩
    have n95 : (95 : Int32) = nI 95 := rfl
    have n32 : (32 : Int32) = nI 32 := rfl
    have i95 : i < 95 := by omega
    obtain ⟨c1, c2⟩ := chW_c i i95
    rw [lp_22_8, n95, if_neg (by rw [x_le (by omega) (by omega)]; omega), if_pos ((x_in (by omega)).mpr i95), x_cl (by omega), c1, n32, au]
    by_cases sp : chW i = 32
    · rw [if_pos ((x_eq (by omega) (by omega)).mpr sp), if_pos sp]
      have I := ih (i + 1) n (w + 1) p true (by omega) (by omega) (by omega) (by omega)
      rw [if_pos rfl] at I
      rcases bcs lk with l | l
      · rw [l, if_pos (by decide), Bool.false_and, if_neg (by decide), x_a1, x_a1, Nat.add_assoc]
        exact I
      · rw [l, if_pos rfl, if_neg (by decide), Bool.true_and]
        by_cases d : pl = e
        · rw [if_neg (fun z => z ((x_eq (by omega) (by omega)).mpr d)), if_pos (decide_eq_true d)]
        · rw [if_pos (by rw [x_eq (by omega) (by omega)]; exact d), if_neg (by simpa using d), x_a1, x_a1, Nat.add_assoc]
          exact I
    · rw [if_neg (by rw [x_eq (by omega) (by omega)]; exact sp), if_neg sp]
      have I := fun b => ih (i + 1) n w (pl + 1) b (by omega) (by omega) (by omega) (by omega)
      rcases bcs lk with l | l
      · have I := I false
        rw [if_neg (by decide)] at I
        rw [l, if_pos (by decide), Bool.false_and, Bool.false_and, x_a1, x_a1]
        exact I
      · rw [l, if_pos rfl, if_neg (by decide), if_neg (by rw [x_lt0 (by omega)]; exact id), Bool.true_and]
        by_cases d : pl < e
        · have p9 : pl < 900 := by omega
          obtain ⟨b1, b2⟩ := hx.2 pl (by omega)
          have nl : ¬ Int32.ofNat 900 ≤ nI pl := by rw [x_ofNat, x_le (by omega) (by omega)]; omega
          rw [if_neg (by rw [x_le (by omega) (by omega)]; omega), if_pos k_1, l_1, if_neg nl, if_pos ((x_in (by omega)).mpr p9), x_cl (by omega), b2, decide_eq_true d, Bool.true_and]
          by_cases q : x pl = chW i
          · have I := I true
            rw [if_pos rfl] at I
            rw [if_neg (fun z => z ((by_eq b1 c2).mpr q)), decide_eq_true q, x_a1, x_a1]
            exact I
          · have I := I false
            rw [if_neg (by decide)] at I
            rw [if_pos (by rw [by_eq b1 c2]; exact q), decide_eq_false q, x_a1, x_a1]
            exact I
        · have I := I false
          rw [if_neg (by decide)] at I
          rw [if_pos ((x_le (by omega) (by omega)).mpr (by omega)), decide_eq_false d, Bool.false_and, x_a1, x_a1]
          exact I
theorem c22 {p e : Nat} (hx : TpC C x N) (hpe : p ≤ e) (he : e ≤ N) (hn : 100 ≤ n) : f_22 n 1 (nI p) (nI e) C = some (nI (wdK (sl x p e)), C) := by
  have L := c22_lp hx hpe he 95 0 n 0 p true rfl (by omega) (Nat.le_refl _) (by omega)
  rw [if_pos rfl, x_0, au_all hpe wlC 95 0 0 wlC_ok.1.symm (fun j _ => by rw [Nat.zero_add]; rfl) wlC_ok.2] at L
  have e200 : (200 : Int32) = nI (200 + 0) := rfl
  unfold f_22 wdK
  rw [e200, bd1 L]
  cases wIx (sl x p e) wlC 0 with
  | none => rfl
  | some v => rfl
/-- a token is added -/
def c19C (C : AmC) (m : Nat) (k st nu : Int32) : AmC := uI (uI (uI (uI C 110 m k) 111 m st) 112 m nu) 109 3 (nI (m + 1))
theorem c19 {m : Nat} {k st nu : Int32} (hP : PInv C) (e3 : cI C 109 3 = nI m) (hm : m ≤ 900) : f_19 n 109 k st nu C = some ((), c19C C m k st nu) := by
  have P1 : PInv (uI C 110 m k) := hP.of rfl
  have P2 : PInv (uI (uI C 110 m k) 111 m st) := hP.of rfl
  have e1 : cI (uI C 110 m k) 109 3 = nI m := by rw [r_In (by decide)]; exact e3
  have e2 : cI (uI (uI C 110 m k) 111 m st) 109 3 = nI m := by rw [r_In (by decide), r_In (by decide)]; exact e3
  have e4 : cI (uI (uI (uI C 110 m k) 111 m st) 112 m nu) 109 3 = nI m := by rw [r_In (by decide), r_In (by decide), r_In (by decide)]; exact e3
  have i9 : m < 901 := by omega
  unfold f_19 c19C
  rw [if_pos k_109, e3, if_neg (by rw [x_lt0 (by omega)]; exact id), n_900, if_pos ((x_le (by omega) (by omega)).mpr hm), bd1 (w_109_0 hP), if_pos k_110, l_110, if_pos ((x_in (by omega)).mpr i9), x_cl (by omega), bd1 (w_109_1 P1), if_pos k_111, e1, l_111, if_pos ((x_in (by omega)).mpr i9), x_cl (by omega), bd1 (w_109_2 P2), if_pos k_112, e2, l_112, if_pos ((x_in (by omega)).mpr i9), x_cl (by omega), e4, x_a1]
theorem c19_fr {m : Nat} {k st nu : Int32} : Fr (fun b => 109 ≤ b ∧ b ≤ 112) C (c19C C m k st nu) := by
  unfold c19C
  exact ((((Fr.refl _ C).uI (by omega)).uI (by omega)).uI (by omega)).uI (by omega)
end
