/-! Where the reference stands, told by the class's kinds of tokens. -/
/-- a word's number at the reference, by the class's -/
def mp (k : Nat) : Nat := if k < 11 then k else if k < 15 then k + 2 else k - 4
theorem wIx_s {L : List Nat} : ∀ (ws : List (List Nat)) (k j : Nat), wIx L ws k = some j → ∃ i, i < ws.length ∧ j = k + i ∧ L = ws.getD i [] := by
  intro ws
  induction ws with
  | nil => intro k j h; cases h
  | cons w ws ih =>
    intro k j h
    rw [wIx] at h
    by_cases d : L = w
    · rw [if_pos d] at h
      cases h
      exact ⟨0, by simp, by omega, d⟩
    · rw [if_neg d] at h
      obtain ⟨i, h1, h2, h3⟩ := ih (k + 1) j h
      exact ⟨i + 1, by simp; omega, by omega, h3⟩
theorem wIx_n {L : List Nat} : ∀ (ws : List (List Nat)) (k : Nat), wIx L ws k = none → ∀ w ∈ ws, ¬ L = w := by
  intro ws
  induction ws with
  | nil => intro k _ w hw; cases hw
  | cons a ws ih =>
    intro k h w hw
    rw [wIx] at h
    by_cases d : L = a
    · rw [if_pos d] at h; cases h
    · rw [if_neg d] at h
      rcases List.mem_cons.mp hw with e | e
      · rw [e]; exact d
      · exact ih (k + 1) h w e
theorem wIx_no {L : List Nat} : ∀ (ws : List (List Nat)) (k : Nat), (∀ w ∈ ws, ¬ L = w) → wIx L ws k = none := by
  intro ws
  induction ws with
  | nil => intro k _; rfl
  | cons a ws ih =>
    intro k h
    rw [wIx, if_neg (h a List.mem_cons_self)]
    exact ih (k + 1) (fun w hw => h w (List.mem_cons_of_mem _ hw))
theorem wl_mp : ∀ k, k < 17 → wIx (wlC.getD k []) wlM 0 = some (mp k) := by decide +kernel
theorem wl_co : ∀ w ∈ wlM, w ∈ wlC ∨ isCo w = true := by decide +kernel
theorem wl_1 : wIx [97] wlM 0 = some 17 ∧ wIx [98] wlM 0 = some 18 ∧ wIx [99] wlM 0 = some 19 ∧ wIx [100] wlM 0 = some 20 := by decide +kernel
theorem wl_len : wlC.length = 17 := by decide
/-- a word of the reference's, by what the class takes it for -/
theorem word_m {L : List Nat} (hc : isCo L = false) : wIo (wIx L wlM 0) = (match wIx L wlC 0 with
    | some k => nI (mp k)
    | none => -1) ∧ ∀ k, wIx L wlC 0 = some k → k < 17 := by
  cases h : wIx L wlC 0 with
  | some k =>
    obtain ⟨i, h1, h2, h3⟩ := wIx_s wlC 0 k h
    rw [wl_len] at h1
    have : k = i := by omega
    subst this
    rw [h3, wl_mp k h1]
    exact ⟨rfl, fun j hj => by cases hj; exact h1⟩
  | none =>
    have hn := wIx_n wlC 0 h
    have : wIx L wlM 0 = none := wIx_no wlM 0 (fun w hw e => by
      rcases wl_co w hw with g | g
      · exact hn w g e
      · rw [e, g] at hc; cases hc)
    rw [this]
    exact ⟨rfl, fun j hj => by cases hj⟩
/-- the reference stands at a token of kind K with the number v -/
def AtT (C : AmC) (K v : Nat) : Prop :=
  (K = 132 ∧ cI C 145 48 = 0 ∧ cI C 145 50 = -1)
  ∨ (K = 128 ∧ cI C 145 48 = 2 ∧ cI C 145 49 = nI v ∧ v ≤ 9999 ∧ cI C 145 50 = -1)
  ∨ (K = 129 ∧ cI C 145 48 = 2 ∧ cI C 145 49 = nI 99999 ∧ cI C 145 50 = -1)
  ∨ (K = 130 ∧ cI C 145 48 = 1 ∧ v < 4 ∧ cI C 145 50 = nI (17 + v))
  ∨ (∃ k, k < 17 ∧ K = 200 + k ∧ cI C 145 48 = 1 ∧ cI C 145 50 = nI (mp k))
  ∨ (K = 131 ∧ (cI C 145 48 = 1 ∨ cI C 145 48 = 4) ∧ cI C 145 50 = -1)
  ∨ (isSg K = true ∧ cI C 145 48 = 3 ∧ cI C 145 49 = nI K ∧ cI C 145 50 = -1)
section
variable {n : Nat} {C C' : AmC} {x : Nat → Nat} {N : Nat}
theorem dgV_le {p : Nat} : ∀ j, (∀ q, p ≤ q → q < p + j → isDg (x q) = true) → dgV x p j < 10 ^ j := by
  intro j
  induction j with
  | zero => intro _; exact Nat.one_pos
  | succ j ih =>
    intro h
    have I := ih (fun q h1 h2 => h q h1 (by omega))
    have d := h (p + j) (by omega) (by omega)
    unfold isDg at d
    rw [Bool.and_eq_true, decide_eq_true_eq, decide_eq_true_eq] at d
    rw [dgV, Nat.pow_succ]
    omega
theorem at_t {i : Nat} (h : AtP C x N (ps x N i)) : AtT C (tK x N i) (tN x N i) := by
  obtain ⟨_, h1, h2⟩ := h
  unfold tK tN
  by_cases pN : ps x N i < N
  · obtain ⟨_, g2, g3, g4⟩ := h1 pN
    rw [if_pos pN, if_pos pN]
    generalize ps x N i = p at pN g2 g3 g4
    have lo := tkE_lo (x := x) pN
    unfold tkK tkN
    unfold rSo at g2
    unfold rVa at g3
    unfold rWo at g4
    rcases bcs (isLt (x p)) with lt | lt
    · rw [lt] at g2 g3 g4 ⊢
      simp only [↓reduceIte, Bool.false_eq_true, if_false] at g2 g3 g4 ⊢
      rcases bcs (isDg (x p)) with dg | dg
      · rw [dg] at g2 g3 ⊢
        simp only [↓reduceIte, Bool.false_eq_true, if_false] at g2 g3 ⊢
        rcases bcs (isSg (x p)) with sg | sg
        · rw [sg] at g2 ⊢
          simp only [↓reduceIte, Bool.false_eq_true, if_false] at g2 ⊢
          exact Or.inr (Or.inr (Or.inr (Or.inr (Or.inr (Or.inl ⟨rfl, Or.inr g2, g4⟩)))))
        · rw [sg] at g2 ⊢
          simp only [↓reduceIte, if_true] at g2 ⊢
          exact Or.inr (Or.inr (Or.inr (Or.inr (Or.inr (Or.inr ⟨sg, g2, g3, g4⟩)))))
      · have eE : tkE x N p = skE (fun q => isDg (x q)) N p := by unfold tkE; rw [lt, dg, skE_t (f := fun q => isDg (x q)) pN dg]; rfl
        rw [dg] at g2 g3 ⊢
        simp only [↓reduceIte, if_true] at g2 g3 ⊢
        unfold dg9 at g3
        by_cases d : tkE x N p - p ≤ 4
        · rw [if_pos d] at g3
          rw [if_pos d, show min 4 (tkE x N p - p) = tkE x N p - p by omega]
          have b := dgV_le (x := x) (p := p) (tkE x N p - p) (fun q z1 z2 => skE_in (f := fun q => isDg (x q)) (N := N) z1 (by rw [← eE]; omega))
          have : 10 ^ (tkE x N p - p) ≤ 10 ^ 4 := Nat.pow_le_pow_right (by omega) d
          have e4 : (10 : Nat) ^ 4 = 10000 := by decide
          exact Or.inr (Or.inl ⟨rfl, g2, g3, by omega, g4⟩)
        · rw [if_neg d] at g3
          rw [if_neg d]
          exact Or.inr (Or.inr (Or.inl ⟨rfl, g2, g3, g4⟩))
    · rw [lt] at g2 g3 g4 ⊢
      simp only [↓reduceIte, if_true] at g2 g3 g4 ⊢
      have ltv := lt
      unfold isLt at ltv
      rw [Bool.and_eq_true, decide_eq_true_eq, decide_eq_true_eq] at ltv
      rcases bcs (isCo (sl x p (tkE x N p))) with co | co
      · obtain ⟨w1, w2⟩ := word_m co
        rw [w1] at g4
        rw [co]
        simp only [↓reduceIte, Bool.false_eq_true, if_false]
        unfold wdK
        cases hw : wIx (sl x p (tkE x N p)) wlC 0 with
        | some k =>
          rw [hw] at g4
          exact Or.inr (Or.inr (Or.inr (Or.inr (Or.inl ⟨k, w2 k hw, rfl, g2, g4⟩))))
        | none =>
          rw [hw] at g4
          exact Or.inr (Or.inr (Or.inr (Or.inr (Or.inr (Or.inl ⟨rfl, Or.inl g2, g4⟩)))))
      · have ce := isCo_eq (x := x) (show p < tkE x N p by omega)
        rw [co] at ce
        have ce := ce.symm
        rw [Bool.and_eq_true, decide_eq_true_eq, decide_eq_true_eq] at ce
        rw [co]
        simp only [↓reduceIte, if_true]
        have es : sl x p (tkE x N p) = [x p] := by
          rw [sl_eq]
          refine ⟨by simp; omega, fun j hj => ?_⟩
          have : j = 0 := by simp at hj; omega
          subst this
          rfl
        rw [es] at g4
        have v : x p = 97 ∨ x p = 98 ∨ x p = 99 ∨ x p = 100 := by omega
        refine Or.inr (Or.inr (Or.inr (Or.inl ⟨rfl, g2, by omega, ?_⟩)))
        rcases v with v | v | v | v
        · rw [v] at g4 ⊢; rw [g4, wl_1.1]; rfl
        · rw [v] at g4 ⊢; rw [g4, wl_1.2.1]; rfl
        · rw [v] at g4 ⊢; rw [g4, wl_1.2.2.1]; rfl
        · rw [v] at g4 ⊢; rw [g4, wl_1.2.2.2]; rfl
  · obtain ⟨_, g2, _, g4⟩ := h2 pN
    rw [if_neg pN, if_neg pN]
    exact Or.inl ⟨rfl, g2, g4⟩
theorem sg_ne {K : Nat} (h : isSg K = true) : K < 63 ∧ 42 ≤ K := by
  unfold isSg at h
  simp only [Bool.or_eq_true, decide_eq_true_eq] at h
  omega
/-- is: a word -/
theorem m171 {K v w : Nat} (hw : w < 17) (h : AtT C K v) (h0 : cI C 145 51 = 0) : f_171 n 145 (nI (mp w)) C = some (if K = 200 + w then 1 else 0, C) := by
  have mb : mp w < 17 := by unfold mp; split <;> (try split) <;> omega
  have nm : ∀ (D : Int32), D = -1 → ¬ D = nI (mp w) := fun D e z => by rw [e] at z; exact ((x_eqm (by omega)).mp z.symm).elim
  unfold f_171
  rw [if_pos k_145, if_neg (fun z => z h0)]
  rcases h with ⟨a, b, c⟩ | ⟨a, b, _, _, c⟩ | ⟨a, b, _, c⟩ | ⟨a, b, d, c⟩ | ⟨k, d, a, b, c⟩ | ⟨a, b, c⟩ | ⟨a, b, _, c⟩
  · rw [if_pos (by rw [b]; decide), if_neg (by omega)]
  · rw [if_pos (by rw [b]; decide), if_neg (by omega)]
  · rw [if_pos (by rw [b]; decide), if_neg (by omega)]
  · rw [if_neg (fun z => z b), if_pos (by rw [c, x_eq (by omega) (by omega)]; omega), if_neg (by omega)]
  · have kb : mp k < 17 := by unfold mp; split <;> (try split) <;> omega
    rw [if_neg (fun z => z b), c]
    by_cases e : k = w
    · rw [if_neg (fun z => z (by rw [e])), if_pos (by omega)]
    · rw [if_pos (by rw [x_eq (by omega) (by omega)]; unfold mp; split <;> split <;> (try split) <;> (try split) <;> omega), if_neg (by omega)]
  · rcases b with b | b
    · rw [if_neg (fun z => z b), if_pos (nm _ c), if_neg (by omega)]
    · rw [if_pos (by rw [b]; decide), if_neg (by omega)]
  · have := sg_ne a
    rw [if_pos (by rw [b]; decide), if_neg (by omega)]
/-- isSignHere -/
theorem m172 {K v c : Nat} (hc : isSg c = true) (h : AtT C K v) (h0 : cI C 145 51 = 0) : f_172 n 145 (nI c) C = some (if K = c then 1 else 0, C) := by
  have cb := sg_ne hc
  unfold f_172
  rw [if_pos k_145, if_neg (fun z => z h0)]
  rcases h with ⟨a, b, _⟩ | ⟨a, b, _⟩ | ⟨a, b, _⟩ | ⟨a, b, _⟩ | ⟨k, d, a, b, _⟩ | ⟨a, b, _⟩ | ⟨a, b, e, _⟩
  · rw [if_pos (by rw [b]; decide), if_neg (by omega)]
  · rw [if_pos (by rw [b]; decide), if_neg (by omega)]
  · rw [if_pos (by rw [b]; decide), if_neg (by omega)]
  · rw [if_pos (by rw [b]; decide), if_neg (by omega)]
  · rw [if_pos (by rw [b]; decide), if_neg (by omega)]
  · rcases b with b | b
    · rw [if_pos (by rw [b]; decide), if_neg (by omega)]
    · rw [if_pos (by rw [b]; decide), if_neg (by omega)]
  · have kb := sg_ne a
    rw [if_neg (fun z => z b), e]
    by_cases d : K = c
    · rw [if_neg (fun z => z (by rw [d])), if_pos d]
    · rw [if_pos (by rw [x_eq (by omega) (by omega)]; exact d), if_neg d]
end
