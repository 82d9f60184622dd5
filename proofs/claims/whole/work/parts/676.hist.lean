/-! Acts are kept and taken back. -/
def psh (H : List Tab) (T : Tab) : List Tab := if H.length < 40 then H ++ [T] else H.tail ++ [T]
theorem psh_len {H : List Tab} {T : Tab} (h : H.length ≤ 40) : (psh H T).length = if H.length < 40 then H.length + 1 else 40 := by
  unfold psh
  split
  · simp
  · simp; omega
theorem psh_get {H : List Tab} {T : Tab} (h : H.length ≤ 40) {k : Nat} (hk : k < (psh H T).length) : (k = (psh H T).length - 1 ∧ (psh H T)[k] = T) ∨ ∃ j, ∃ (hj : j < H.length), (psh H T)[k] = H[j] ∧ (H.length < 40 ∧ j = k ∨ H.length = 40 ∧ j = k + 1) := by
  unfold psh at hk ⊢
  by_cases c : H.length < 40
  · simp only [↓reduceIte, c, if_true] at hk ⊢
    by_cases d : k < H.length
    · exact Or.inr ⟨k, d, by rw [List.getElem_append_left d], Or.inl ⟨trivial, rfl⟩⟩
    · simp at hk
      refine Or.inl ⟨by simp; omega, ?_⟩
      rw [List.getElem_append_right (by omega)]
      simp
  · simp only [↓reduceIte, c, if_false] at hk ⊢
    have l : H.tail.length = 39 := by simp; omega
    by_cases d : k < H.tail.length
    · refine Or.inr ⟨k + 1, by omega, ?_, Or.inr ⟨by omega, rfl⟩⟩
      rw [List.getElem_append_left d, List.getElem_tail]
    · simp at hk
      refine Or.inl ⟨by simp; omega, ?_⟩
      rw [List.getElem_append_right (by omega)]
      simp
theorem psh_mem {H : List Tab} {T U : Tab} (h : U ∈ psh H T) : U ∈ H ∨ U = T := by
  unfold psh at h
  split at h
  · rcases List.mem_append.mp h with h | h
    · exact Or.inl h
    · exact Or.inr (List.mem_singleton.mp h)
  · rcases List.mem_append.mp h with h | h
    · exact Or.inl (List.mem_of_mem_tail h)
    · exact Or.inr (List.mem_singleton.mp h)
theorem TabW.of {cols : Nat} {w w' : Int32} {f f' : Nat → Int32} {T : Tab} (h4 : cols ≤ 4) (h : TabW cols w f T) (e : w' = w) (e2 : ∀ m, m < 120 → f' m = f m) : TabW cols w' f' T := by
  subst e
  exact ⟨h.1, h.2.1, fun p hp tp c hc => by rw [e2 _ (by omega)]; exact h.2.2 p hp tp c hc⟩
theorem x_mod {a : Nat} (ha : a < 2147483648) : nI a - nI a / 40 * 40 = nI (a % 40) := by
  rw [n_40, x_div ha (by omega) (by omega), x_mul, x_sub (by omega)]
  congr 1
  omega
theorem c73 {n : Nat} {C : AmC} {r a x : Nat} (h : RwK C r) (ka : isK a 12 = true) (la : aLen a = 4800) (hx : x < 40) : f_73 n r a (nI (x * 120)) C = some ((), uA C a (va_cpy (cI C (r + 1)) (cI C a) 0 (x * 120) 120)) := by
  have c120 : Int32.toNatClampNeg (Int32.ofNat 120) = 120 := by decide
  have c0 : Int32.toNatClampNeg (0 : Int32) = 0 := by decide
  have n0 : ¬ (0 : Int32) < 0 := by decide
  have n1 : ¬ (Int32.ofNat 120) < 0 := by decide
  have n2 : 0 + 120 ≤ 120 := by decide
  have n3 : x * 120 + 120 ≤ 4800 := by omega
  have n4 : Int32.ofNat 4800 - Int32.ofNat 120 = nI 4680 := by decide
  have n5 : ¬ 4680 < x * 120 := by omega
  unfold f_73
  simp (disch := omega) only [↓reduceIte, x_lt0, if_false, ka, if_true, h.1, ↓bd1 h.2.1, h.2.2.1, la, h.2.2.2, n4, x_lt, n5, c120, c0, n0, n1, n2, n3, x_cl, not_false_iff, and_self]
theorem c74 {n : Nat} {C : AmC} {r a x : Nat} {v : Int32} (h : RwK C r) (ka : isK a 12 = true) (la : aLen a = 4800) (hx : x < 40) : f_74 n r a (nI (x * 120)) v C = some ((), uI (uA C (r + 1) (va_cpy (cI C a) (cI C (r + 1)) (x * 120) 0 120)) r 1 v) := by
  have c120 : Int32.toNatClampNeg (Int32.ofNat 120) = 120 := by decide
  have c0 : Int32.toNatClampNeg (0 : Int32) = 0 := by decide
  have n0 : ¬ (0 : Int32) < 0 := by decide
  have n1 : ¬ (Int32.ofNat 120) < 0 := by decide
  have n2 : 0 + 120 ≤ 120 := by decide
  have n3 : x * 120 + 120 ≤ 4800 := by omega
  have n4 : Int32.ofNat 4800 - Int32.ofNat 120 = nI 4680 := by decide
  have n5 : ¬ 4680 < x * 120 := by omega
  unfold f_74
  simp (disch := omega) only [↓reduceIte, x_lt0, if_false, ka, if_true, h.1, ↓bd1 h.2.1, h.2.2.1, la, h.2.2.2, n4, x_lt, n5, c120, c0, n0, n1, n2, n3, x_cl, not_false_iff, and_self]
theorem cpy_in {f g : Nat → Int32} {s d l m : Nat} (hm : m < l) : va_cpy f g s d l (d + m) = f (s + m) := by
  unfold va_cpy
  rw [if_pos (by omega)]
  congr 1
  omega
theorem cpy_out {f g : Nat → Int32} {s d l m : Nat} (hm : m < d ∨ d + l ≤ m) : va_cpy f g s d l m = g m := by
  unfold va_cpy
  rw [if_neg (by omega)]
/-- what a push leaves -/
def c11C (C : AmC) (x L : Nat) : AmC := uI (uI (uI (uA C 86 (va_cpy (cI C 84) (cI C 86) 0 (x * 120) 120)) 87 x (cI C 83 1)) 85 2 (nI ((x + 1) % 40))) 85 3 (nI (if L < 40 then L + 1 else 40))
theorem c11 {n : Nat} {C : AmC} {x L : Nat} (hP : PInv C) (hx : x < 40) (hL : L ≤ 40) (e2 : cI C 85 2 = nI x) (e3 : cI C 85 3 = nI L) : f_11 n 85 83 C = some ((), c11C C x L) := by
  have w := c73 (n := n) (a := 86) (x := x) (rw_of hP (show 83 ∈ rowsL by decide)) k_86 l_86 hx
  have P1 : PInv (uA C 86 (va_cpy (cI C (83 + 1)) (cI C 86) 0 (x * 120) 120)) := hP.of rfl
  have n120 : (120 : Int32) = nI 120 := rfl
  unfold f_11 c11C
  simp (disch := omega) only [↓reduceIte, k_85, if_true, if_false, e2, x_lt0, n_40, x_lt, hx, ↓bd1 (w_85_0 hP), k_83, n120, x_mul, ↓bd1 w, ↓bd1 (w_85_1 P1), k_87, l_87]
  have q85 : cI (uA C 86 (va_cpy (cI C (83 + 1)) (cI C 86) 0 (x * 120) 120)) 85 = cI C 85 := r_An (by decide)
  have q83 : cI (uA C 86 (va_cpy (cI C (83 + 1)) (cI C 86) 0 (x * 120) 120)) 83 = cI C 83 := r_An (by decide)
  generalize uA C 86 (va_cpy (cI C (83 + 1)) (cI C 86) 0 (x * 120) 120) = D at q85 q83
  have q : ∀ v, cI (uI D 87 x v) 85 = cI C 85 := fun v => by rw [r_In (by decide), q85]
  have i3 : ∀ v u, cI (uI (uI D 87 x v) 85 2 u) 85 3 = nI L := fun v u => by rw [r_I, if_neg (by omega), q, e3]
  have md : nI (x + 1) - nI (x + 1) / nI 40 * nI 40 = nI ((x + 1) % 40) := by rw [← n_40]; exact x_mod (by omega)
  simp (disch := omega) only [↓reduceIte, q85, q83, e2, x_in, x_cl, hx, if_true, q, i3, x_a1, x_lt]
  rw [md]
  by_cases l : L < 40
  · rw [if_pos l, if_neg (by omega)]
  · have l : L = 40 := by omega
    subst l
    rfl
theorem c11_h {cols : Nat} {C : AmC} {x : Nat} {H : List Tab} {T : Tab} (h4 : cols ≤ 4) (hx : x < 40) (hL : H.length ≤ 40) (hH : ∀ k (_ : k < H.length), TabW cols (cI C (85 + 2) ((x + 40 - H.length + k) % 40)) (fun m => cI C (85 + 1) ((x + 40 - H.length + k) % 40 * 120 + m)) H[k]) (hT : TabC cols C 83 T) : HisC cols (c11C C x H.length) 85 (psh H T) := by
  have ln := psh_len (T := T) hL
  have e2 : cI (c11C C x H.length) 85 2 = nI ((x + 1) % 40) := by unfold c11C; rw [r_I, if_neg (by omega), r_I, if_pos ⟨rfl, rfl⟩]
  have e3 : cI (c11C C x H.length) 85 3 = nI (if H.length < 40 then H.length + 1 else 40) := by unfold c11C; rw [r_I, if_pos ⟨rfl, rfl⟩]
  have ep : ∀ j, cI (c11C C x H.length) (85 + 2) j = if j = x then cI C 83 1 else cI C (85 + 2) j := fun j => by
    unfold c11C
    rw [r_In (by decide), r_In (by decide), r_I, r_An (by decide)]
    simp
  have en : cI (c11C C x H.length) (85 + 1) = va_cpy (cI C 84) (cI C 86) 0 (x * 120) 120 := by
    unfold c11C
    rw [r_In (by decide), r_In (by decide), r_In (by decide), r_Ae]
  refine ⟨(x + 1) % 40, by omega, e2, by rw [e3, ln], fun k hk => ?_⟩
  rw [ln]
  rcases psh_get hL hk with ⟨ek, et⟩ | ⟨j, hj, et, ej⟩
  · rw [ln] at ek
    have es : ((x + 1) % 40 + 40 - (if H.length < 40 then H.length + 1 else 40) + k) % 40 = x := by split at ek <;> split <;> omega
    rw [es, et]
    refine TabW.of h4 hT.w (by rw [ep, if_pos rfl]) (fun m hm => ?_)
    rw [en, cpy_in hm, Nat.zero_add]
  · have es : ((x + 1) % 40 + 40 - (if H.length < 40 then H.length + 1 else 40) + k) % 40 = (x + 40 - H.length + j) % 40 := by
      rcases ej with ⟨l, rfl⟩ | ⟨l, rfl⟩
      · rw [if_pos l]; omega
      · rw [if_neg (by omega)]; omega
    have ne : ¬ (x + 40 - H.length + j) % 40 = x := by
      rcases ej with ⟨l, rfl⟩ | ⟨l, rfl⟩ <;> omega
    rw [es, et]
    refine TabW.of h4 (hH j hj) (by rw [ep, if_neg ne]) (fun m hm => ?_)
    rw [en, cpy_out (by omega)]
/-- what a pop leaves -/
def c12C (C : AmC) (x L : Nat) : AmC := uI (uI (uI (uA C 84 (va_cpy (cI C 86) (cI C 84) ((x + 39) % 40 * 120) 0 120)) 83 1 (cI C 87 ((x + 39) % 40))) 85 2 (nI ((x + 39) % 40))) 85 3 (nI (L - 1))
theorem c12 {n : Nat} {C : AmC} {x L : Nat} (hP : PInv C) (hx : x < 40) (hL : L ≤ 40) (h0 : ¬ L = 0) (e2 : cI C 85 2 = nI x) (e3 : cI C 85 3 = nI L) : f_12 n 85 83 C = some ((), c12C C x L) := by
  have hy : (x + 39) % 40 < 40 := by omega
  have w := c74 (n := n) (a := 86) (x := (x + 39) % 40) (v := cI C 87 ((x + 39) % 40)) (rw_of hP (show 83 ∈ rowsL by decide)) k_86 l_86 hy
  have md : ((nI x + (40 : Int32)) - 1) - ((nI x + (40 : Int32)) - 1) / (40 : Int32) * (40 : Int32) = nI ((x + 39) % 40) := by
    rw [n_40, x_add, x_s1 (by omega), ← n_40]
    exact x_mod (by omega)
  have n120 : (120 : Int32) = nI 120 := rfl
  unfold f_12 c12C
  simp only [e2, md]
  simp (disch := omega) only [↓reduceIte, k_85, if_true, if_false, e3, x_le0, h0, x_0le, ↓bd1 (w_85_0 hP), ↓bd1 (w_85_1 hP), k_87, l_87, x_in, x_cl, hy, k_83, n120, x_mul, ↓bd1 w]
  have q : ∀ v, cI (uI (uI (uA C 84 (va_cpy (cI C 86) (cI C 84) ((x + 39) % 40 * 120) 0 120)) 83 1 (cI C 87 ((x + 39) % 40))) 85 2 v) 85 3 = nI L := fun v => by rw [r_I, if_neg (by omega), r_In (by decide), r_An (by decide), e3]
  rw [q, x_s1 (by omega)]
theorem c12_h {cols : Nat} {C : AmC} {x : Nat} {H : List Tab} {U : Tab} (h4 : cols ≤ 4) (hx : x < 40) (hL : (H ++ [U]).length ≤ 40) (hH : ∀ k (_ : k < (H ++ [U]).length), TabW cols (cI C (85 + 2) ((x + 40 - (H ++ [U]).length + k) % 40)) (fun m => cI C (85 + 1) ((x + 40 - (H ++ [U]).length + k) % 40 * 120 + m)) (H ++ [U])[k]) : HisC cols (c12C C x (H ++ [U]).length) 85 H ∧ TabC cols (c12C C x (H ++ [U]).length) 83 U := by
  have ll : (H ++ [U]).length = H.length + 1 := by simp
  rw [ll] at hL
  refine ⟨⟨(x + 39) % 40, by omega, ?_, ?_, fun k hk => ?_⟩, ?_⟩
  · unfold c12C; rw [r_I, if_neg (by omega), r_I, if_pos ⟨rfl, rfl⟩]
  · unfold c12C; rw [r_I, if_pos ⟨rfl, rfl⟩, ll]; rfl
  · have hh := hH k (by omega)
    rw [List.getElem_append_left hk, ll] at hh
    have es : ((x + 39) % 40 + 40 - H.length + k) % 40 = (x + 40 - (H.length + 1) + k) % 40 := by omega
    rw [es]
    have e1 : cI (c12C C x (H ++ [U]).length) (85 + 2) = cI C (85 + 2) := by unfold c12C; rw [r_In (by decide), r_In (by decide), r_In (by decide), r_An (by decide)]
    have e2 : cI (c12C C x (H ++ [U]).length) (85 + 1) = cI C (85 + 1) := by unfold c12C; rw [r_In (by decide), r_In (by decide), r_In (by decide), r_An (by decide)]
    rw [e1, e2]
    exact hh
  · have hh := hH H.length (by omega)
    have gU : (H ++ [U])[H.length]'(by omega) = U := by rw [List.getElem_append_right (by omega)]; simp
    rw [gU] at hh
    have es : (x + 40 - (H ++ [U]).length + H.length) % 40 = (x + 39) % 40 := by omega
    rw [es] at hh
    refine TabW.c (TabW.of h4 hh ?_ (fun m hm => ?_))
    · unfold c12C; rw [r_In (by decide), r_In (by decide), r_I, if_pos ⟨rfl, rfl⟩]
    · unfold c12C
      rw [r_In (by decide), r_In (by decide), r_In (by decide), r_Ae]
      have := cpy_in (f := cI C 86) (g := cI C 84) (s := (x + 39) % 40 * 120) (d := 0) (l := 120) hm
      rw [Nat.zero_add] at this
      exact this
/-! the reference -/
theorem m164_lp {f t N : Nat} (hf : f + N ≤ 12500) (ht : t + N ≤ 12500) (hd : f + N ≤ t ∨ t + N ≤ f) : ∀ k j n C, j + k = N → k < n → PInv C → Rt (lp_164_2 n 145 (nI f) (nI t) (nI N) (nI j) C) (fun _ C' => cP C' = cP C ∧ cJ C' = cJ C ∧ (∀ b, ¬ b = 146 → cI C' b = cI C b) ∧ ∀ m, cI C' 146 m = if t + j ≤ m ∧ m < t + N then cI C 146 (f + (m - t)) else cI C 146 m) := by
  intro k
  induction k with
  | zero =>
    intro j n C h1 hn hP
    obtain ⟨n, rfl⟩ : ∃ m, n = m + 1 := ⟨n - 1, by omega⟩
    have b1 : N ≤ j := by omega
    simp (disch := omega) only [↓reduceIte, lp_164_2, x_le, b1, if_true]
    exact rt_ret ⟨rfl, rfl, fun _ _ => rfl, fun m => by rw [if_neg (by omega)]⟩
  | succ k ih =>
    intro j n C h1 hn hP
    obtain ⟨n, rfl⟩ : ∃ m, n = m + 1 := ⟨n - 1, by omega⟩
    have b1 : ¬ N ≤ j := by omega
    have i1 : f + j < 12500 := by omega
    have i2 : t + j < 12500 := by omega
    have I := ih (j + 1) n (uI C 146 (t + j) (cI C 146 (f + j))) (by omega) (by omega) (hP.of rfl)
    simp (disch := omega) only [↓reduceIte, lp_164_2, x_le, b1, if_true, if_false, Option.bind_some, k_145, ↓bd1 (w_145_0 hP), k_146, l_146, x_add, x_in, x_cl, i1, i2, x_a1]
    refine rt_mono I (fun _ C' H => ⟨H.1, H.2.1, fun q hq => by rw [H.2.2.1 q hq, r_In hq], fun m => ?_⟩)
    rw [H.2.2.2 m]
    by_cases e : m = t + j
    · subst e
      rw [if_neg (by omega), r_I, if_pos ⟨rfl, rfl⟩, if_pos (by omega)]
      congr 1
      omega
    · by_cases g : t + (j + 1) ≤ m ∧ m < t + N
      · rw [if_pos g, if_pos (by omega), r_I, if_neg (by omega)]
      · rw [if_neg g, if_neg (by omega), r_I, if_neg (by omega)]
theorem m164 {n : Nat} {C : AmC} {f t N : Nat} (hP : PInv C) (hf : f + N ≤ 12500) (ht : t + N ≤ 12500) (hd : f + N ≤ t ∨ t + N ≤ f) (hn : N < n) : Rt (f_164 n 145 (nI f) (nI t) (nI N) C) (fun _ C' => cP C' = cP C ∧ cJ C' = cJ C ∧ (∀ b, ¬ b = 146 → cI C' b = cI C b) ∧ ∀ m, cI C' 146 m = if t ≤ m ∧ m < t + N then cI C 146 (f + (m - t)) else cI C 146 m) := by
  have L := m164_lp hf ht hd N 0 n C (by omega) hn hP
  rw [x_0] at L
  unfold f_164
  refine rt_bind (rt_mono L (fun _ C' H => rt_ret ⟨H.1, H.2.1, H.2.2.1, H.2.2.2⟩))
theorem TMZ.cp {cols : Nat} {C C' : AmC} {f t : Nat} {T : Tab} (h4 : cols ≤ 4) (h : TMZ cols C f T) (e : ∀ m, m < 150 → cI C' 146 (t + m) = cI C 146 (f + m)) : TMZ cols C' t T := by
  refine ⟨⟨fun p hp => ?_, fun p hp tp c hc => ?_⟩, fun p hp tp c h1 h2 => ?_⟩
  · rw [e p (by omega)]; exact h.1.1 p hp
  · have := e (30 + 4 * p + c) (by omega)
    rw [show t + 30 + 4 * p + c = t + (30 + 4 * p + c) by omega, this, show f + (30 + 4 * p + c) = f + 30 + 4 * p + c by omega]
    exact h.1.2 p hp tp c hc
  · have := e (30 + 4 * p + c) (by omega)
    rw [show t + 30 + 4 * p + c = t + (30 + 4 * p + c) by omega, this, show f + (30 + 4 * p + c) = f + 30 + 4 * p + c by omega]
    exact h.2 p hp tp c h1 h2
theorem m270 {n : Nat} {C : AmC} {x L : Nat} (hP : PInv C) (hx : x < 40) (hL : L ≤ 40) (e6 : cI C 145 6 = nI L) (e7 : cI C 145 7 = nI x) (hn : 200 ≤ n) : Rt (f_270 n 145 C) (fun _ C' => cP C' = cP C ∧ (∀ b, ¬ b = 145 → ¬ b = 146 → cI C' b = cI C b) ∧ (∀ f, ¬ f = 6 → ¬ f = 7 → cI C' 145 f = cI C 145 f) ∧ cI C' 145 6 = nI (if L < 40 then L + 1 else 40) ∧ cI C' 145 7 = nI (if L < 40 then x else (x + 1) % 40) ∧ ∀ m, cI C' 146 m = if 300 + 150 * ((x + L) % 40) ≤ m ∧ m < 300 + 150 * ((x + L) % 40) + 150 then cI C 146 (m - (300 + 150 * ((x + L) % 40))) else cI C 146 m) := by
  have n150 : (150 : Int32) = nI 150 := rfl
  have n300 : (300 : Int32) = nI 300 := rfl
  have w269 : ∀ (a b : Nat) (D : AmC), a < 1000 → b < 1000 → f_269 n (nI a) (nI b) D = some (nI (300 + 150 * ((a + b) % 40)), D) := by
    intro a b D ha hb
    unfold f_269
    rw [x_add, x_mod (by omega), n150, x_mul, n300, x_add]
  have fin : ∀ (D : AmC) (y M : Nat), PInv D → y < 40 → M < 40 → cP D = cP C → (∀ b, ¬ b = 145 → cI D b = cI C b) → (∀ f, ¬ f = 6 → ¬ f = 7 → cI D 145 f = cI C 145 f) → cI D 145 6 = nI M → cI D 145 7 = nI y → (y + M) % 40 = (x + L) % 40 → M + 1 = (if L < 40 then L + 1 else 40) → y = (if L < 40 then x else (x + 1) % 40) → Rt ((f_269 n (cI D 145 7) (cI D 145 6) D).bind (fun z => match z with | (q3, C4) => (f_164 n 145 (0 : Int32) q3 (150 : Int32) C4).bind (fun z => match z with | (_, C7) => some ((), uI C7 145 6 ((cI C7 145 6) + (1 : Int32)))))) (fun _ C' => cP C' = cP C ∧ (∀ b, ¬ b = 145 → ¬ b = 146 → cI C' b = cI C b) ∧ (∀ f, ¬ f = 6 → ¬ f = 7 → cI C' 145 f = cI C 145 f) ∧ cI C' 145 6 = nI (if L < 40 then L + 1 else 40) ∧ cI C' 145 7 = nI (if L < 40 then x else (x + 1) % 40) ∧ ∀ m, cI C' 146 m = if 300 + 150 * ((x + L) % 40) ≤ m ∧ m < 300 + 150 * ((x + L) % 40) + 150 then cI C 146 (m - (300 + 150 * ((x + L) % 40))) else cI C 146 m) := by
    intro D y M hPD hy hM pD oD fD d6 d7 em eM ey
    rw [d6, d7, bd1 (w269 y M D (by omega) (by omega))]
    have W := m164 (n := n) (f := 0) (t := 300 + 150 * ((y + M) % 40)) (N := 150) hPD (by omega) (by omega) (by omega) (by omega)
    rw [x_0, ← n150] at W
    refine rt_bind (rt_mono W (fun _ C7 H => ?_))
    obtain ⟨p7, _, o7, b7⟩ := H
    have q145 : cI C7 145 = cI D 145 := o7 145 (by decide)
    refine rt_ret ⟨by show cP C7 = _; rw [p7, pD], fun b z1 z2 => by rw [r_In z1, o7 b z2, oD b z1], fun f z1 z2 => by rw [r_I, if_neg (by omega), q145, fD f z1 z2], by rw [r_I, if_pos ⟨rfl, rfl⟩, q145, d6, x_a1, eM], by rw [r_I, if_neg (by omega), q145, d7, ey], fun m => ?_⟩
    rw [r_In (by decide), b7 m, em, oD 146 (by decide)]
    simp
  unfold f_270
  rw [if_pos k_145]
  by_cases l : L = 40
  · have e : (cI C 145 6 = (40 : Int32)) := by rw [e6, l]; rfl
    rw [if_neg (fun z => z e)]
    have md : cI C 145 7 + 1 - (cI C 145 7 + 1) / (40 : Int32) * (40 : Int32) = nI ((x + 1) % 40) := by rw [e7, x_a1]; exact x_mod (by omega)
    have q6 : ∀ v, cI (uI C 145 7 v) 145 6 = nI 40 := fun v => by rw [r_I, if_neg (by omega), e6, l]
    have s1 : nI 40 - (1 : Int32) = nI 39 := by decide
    rw [md, q6, s1]
    exact fin _ ((x + 1) % 40) 39 (hP.of rfl) (by omega) (by omega) rfl (fun b z => by rw [r_In z, r_In z]) (fun f z1 z2 => by rw [r_I, if_neg (by omega), r_I, if_neg (by omega)]) (by rw [r_I, if_pos ⟨rfl, rfl⟩]) (by rw [r_I, if_neg (by omega), r_I, if_pos ⟨rfl, rfl⟩]) (by omega) (by rw [if_neg (by omega)]) (by rw [if_neg (by omega)])
  · have e : ¬ (cI C 145 6 = (40 : Int32)) := by rw [e6, n_40, x_eq (by omega) (by omega)]; exact l
    rw [if_pos e]
    exact fin C x L hP hx (by omega) rfl (fun _ _ => rfl) (fun _ _ _ => rfl) e6 e7 rfl (by rw [if_pos (by omega)]) (by rw [if_pos (by omega)])
