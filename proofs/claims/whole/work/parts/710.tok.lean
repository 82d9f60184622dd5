/-! Tokens of a text, as mathematical values. -/
def isLt (v : Nat) : Bool := decide (97 ≤ v) && decide (v ≤ 122)
def isDg (v : Nat) : Bool := decide (48 ≤ v) && decide (v ≤ 57)
def isBl (v : Nat) : Bool := decide (v = 32) || decide (v = 10)
def isSg (v : Nat) : Bool := decide (v = 59) || decide (v = 44) || decide (v = 43) || decide (v = 45) || decide (v = 42) || decide (v = 60) || decide (v = 61) || decide (v = 62)
/-- the first place from p on at which it isn't so, the text's end -/
def skE (f : Nat → Bool) (N p : Nat) : Nat := (qf (fun q => !f q) (N - p) p).getD N
theorem skE_ge {f : Nat → Bool} {N p : Nat} (h : N ≤ p) : skE f N p = N := by
  unfold skE
  rw [show N - p = 0 by omega]
  rfl
theorem skE_f {f : Nat → Bool} {N p : Nat} (h : p < N) (hf : f p = false) : skE f N p = p := by
  unfold skE
  rw [show N - p = (N - (p + 1)) + 1 by omega, qf, hf]
  rfl
theorem skE_t {f : Nat → Bool} {N p : Nat} (h : p < N) (hf : f p = true) : skE f N p = skE f N (p + 1) := by
  unfold skE
  rw [show N - p = (N - (p + 1)) + 1 by omega, qf, hf]
  rfl
theorem skE_le {f : Nat → Bool} {N p : Nat} : skE f N p ≤ N := by
  unfold skE
  cases h : qf (fun q => !f q) (N - p) p with
  | none => exact Nat.le_refl _
  | some q =>
    have h1 := (qf_some h).1
    have h2 := (qf_some h).2.1
    show q ≤ N
    omega
theorem skE_lo {f : Nat → Bool} {N p : Nat} (h : p ≤ N) : p ≤ skE f N p := by
  unfold skE
  cases e : qf (fun q => !f q) (N - p) p with
  | none => exact h
  | some q => exact (qf_some e).1
theorem skE_no {f : Nat → Bool} {N p : Nat} (h : skE f N p < N) : f (skE f N p) = false := by
  unfold skE at h ⊢
  cases e : qf (fun q => !f q) (N - p) p with
  | none => rw [e] at h; exact absurd h (Nat.lt_irrefl _)
  | some q =>
    have := (qf_some e).2.2.1
    rw [Bool.not_eq_true'] at this
    exact this
theorem skE_in {f : Nat → Bool} {N p q : Nat} (h1 : p ≤ q) (h2 : q < skE f N p) : f q = true := by
  unfold skE at h2
  cases e : qf (fun q => !f q) (N - p) p with
  | none =>
    rw [e] at h2
    have h2 : q < N := h2
    have := qf_none.mp e q h1 (by omega)
    rw [Bool.not_eq_false'] at this
    exact this
  | some r =>
    rw [e] at h2
    have := (qf_some e).2.2.2 q h1 h2
    rw [Bool.not_eq_false'] at this
    exact this
def sl (x : Nat → Nat) (p e : Nat) : List Nat := (List.range (e - p)).map (fun j => x (p + j))
/-- the words, as the class has them -/
def wlC : List (List Nat) := [[99, 111, 108, 117, 109, 110, 115], [114, 111, 119], [111, 116, 104, 101, 114], [107, 101, 121], [105, 110, 100, 101, 120], [117, 112, 100, 97, 116, 101], [100, 101, 108, 101, 116, 101], [105, 110, 115, 101, 114, 116], [109, 101, 114, 103, 101], [115, 101, 116], [107, 101, 101, 112], [115, 117, 109], [108, 101, 97, 115, 116], [109, 111, 115, 116], [99, 111, 117, 110, 116], [119, 104, 101, 114, 101], [97, 110, 100]]
/-- the words, as the reference has them -/
def wlM : List (List Nat) := [[99, 111, 108, 117, 109, 110, 115], [114, 111, 119], [111, 116, 104, 101, 114], [107, 101, 121], [105, 110, 100, 101, 120], [117, 112, 100, 97, 116, 101], [100, 101, 108, 101, 116, 101], [105, 110, 115, 101, 114, 116], [109, 101, 114, 103, 101], [115, 101, 116], [107, 101, 101, 112], [119, 104, 101, 114, 101], [97, 110, 100], [115, 117, 109], [108, 101, 97, 115, 116], [109, 111, 115, 116], [99, 111, 117, 110, 116], [97], [98], [99], [100]]
/-- which of the words it is -/
def wIx (L : List Nat) : List (List Nat) → Nat → Option Nat
  | [], _ => none
  | w :: ws, k => if L = w then some k else wIx L ws (k + 1)
def wdK (L : List Nat) : Nat := match wIx L wlC 0 with
  | some k => 200 + k
  | none => 131
def isCo (L : List Nat) : Bool := decide (L.length = 1) && decide (L.getD 0 0 ≤ 100)
/-- a number of digits, the first four -/
def dgV (x : Nat → Nat) (p : Nat) : Nat → Nat
  | 0 => 0
  | k + 1 => 10 * dgV x p k + (x (p + k) - 48)
/-- a token: its end, kind, number -/
def tkE (x : Nat → Nat) (N p : Nat) : Nat := if isLt (x p) = true then skE (fun q => isLt (x q)) N (p + 1) else if isDg (x p) = true then skE (fun q => isDg (x q)) N (p + 1) else p + 1
def tkK (x : Nat → Nat) (N p : Nat) : Nat := if isLt (x p) = true then (if isCo (sl x p (tkE x N p)) = true then 130 else wdK (sl x p (tkE x N p))) else if isDg (x p) = true then (if tkE x N p - p ≤ 4 then 128 else 129) else if isSg (x p) = true then x p else 131
def tkN (x : Nat → Nat) (N p : Nat) : Nat := if isLt (x p) = true then (if isCo (sl x p (tkE x N p)) = true then x p - 97 else 0) else if isDg (x p) = true then dgV x p (min 4 (tkE x N p - p)) else 0
def skB (x : Nat → Nat) (N p : Nat) : Nat := skE (fun q => isBl (x q)) N p
/-- where token i starts -/
def ps (x : Nat → Nat) (N : Nat) : Nat → Nat
  | 0 => skB x N 0
  | i + 1 => if ps x N i < N then skB x N (tkE x N (ps x N i)) else N
def tK (x : Nat → Nat) (N i : Nat) : Nat := if ps x N i < N then tkK x N (ps x N i) else 132
def tN (x : Nat → Nat) (N i : Nat) : Nat := if ps x N i < N then tkN x N (ps x N i) else 0
theorem ps_le {x : Nat → Nat} {N : Nat} : ∀ i, ps x N i ≤ N := by
  intro i
  cases i with
  | zero => exact skE_le
  | succ i =>
    rw [ps]
    split
    · exact skE_le
    · exact Nat.le_refl _
theorem tkE_lo {x : Nat → Nat} {N p : Nat} (h : p < N) : p + 1 ≤ tkE x N p ∧ tkE x N p ≤ N := by
  unfold tkE
  split
  · exact ⟨skE_lo (by omega), skE_le⟩
  · split
    · exact ⟨skE_lo (by omega), skE_le⟩
    · omega
theorem ps_s {x : Nat → Nat} {N i : Nat} (h : ps x N i < N) : ps x N (i + 1) = skB x N (tkE x N (ps x N i)) := by rw [ps, if_pos h]
theorem ps_mono {x : Nat → Nat} {N i : Nat} (h : ps x N i < N) : tkE x N (ps x N i) ≤ ps x N (i + 1) := by
  rw [ps_s h]
  exact skE_lo (tkE_lo h).2
theorem ps_up {x : Nat → Nat} {N i : Nat} (h : ps x N i < N) : ps x N i + 1 ≤ ps x N (i + 1) := by
  have := (tkE_lo (x := x) h).1
  have := ps_mono h
  omega
theorem ps_ge {x : Nat → Nat} {N : Nat} : ∀ i, ps x N i < N → i ≤ ps x N i := by
  intro i
  induction i with
  | zero => intro _; omega
  | succ i ih =>
    intro h
    by_cases g : ps x N i < N
    · have := ih g
      have := ps_up g
      omega
    · rw [ps, if_neg g] at h
      exact absurd h (Nat.lt_irrefl _)
/-! one machine for both: it goes through the words -/
def au (ch x : Nat → Nat) (p e : Nat) : Nat → Nat → Nat → Nat → Bool → Option Nat
  | 0, _, _, _, _ => none
  | k + 1, i, w, pl, lk => if ch i = 32 then (if (lk && decide (pl = e)) = true then some w else au ch x p e k (i + 1) (w + 1) p true) else au ch x p e k (i + 1) w (pl + 1) (lk && decide (pl < e) && decide (x pl = ch i))
/-- words one behind the other, a blank behind each -/
def flat : List (List Nat) → List Nat
  | [] => []
  | w :: ws => w ++ 32 :: flat ws
theorem au_w {ch x : Nat → Nat} {p e : Nat} : ∀ (w : List Nat) (k i n pl : Nat) (lk : Bool), (∀ j, j < w.length → ch (i + j) = w.getD j 0 ∧ ¬ w.getD j 0 = 32) → au ch x p e (w.length + k) i n pl lk = au ch x p e k (i + w.length) n (pl + w.length) (lk && decide (∀ j, j < w.length → pl + j < e ∧ x (pl + j) = w.getD j 0)) := by
  intro w
  induction w with
  | nil =>
    intro k i n pl lk h
    have : decide (∀ j, j < ([] : List Nat).length → pl + j < e ∧ x (pl + j) = ([] : List Nat).getD j 0) = true := decide_eq_true (fun j hj => absurd hj (Nat.not_lt_zero j))
    rw [this, Bool.and_true]
    simp
  | cons a w ih =>
    intro k i n pl lk h
    obtain ⟨h0, h0'⟩ := h 0 (by simp)
    rw [Nat.add_zero] at h0
    have h0 : ch i = a := h0
    have h0' : ¬ a = 32 := h0'
    rw [show (a :: w).length + k = (w.length + k) + 1 by simp; omega, au, h0, if_neg h0', ih k (i + 1) n (pl + 1) _ (fun j hj => ?_)]
    · have e1 : i + 1 + w.length = i + (a :: w).length := by simp; omega
      have e2 : pl + 1 + w.length = pl + (a :: w).length := by simp; omega
      rw [e1, e2]
      congr 1
      rw [Bool.and_assoc, Bool.and_assoc]
      congr 1
      rw [← Bool.decide_and, ← Bool.decide_and, decide_eq_decide]
      constructor
      · rintro ⟨g1, g2, g3⟩ j hj
        cases j with
        | zero => exact ⟨g1, g2⟩
        | succ j =>
          have := g3 j (by simp at hj; omega)
          rw [show pl + (j + 1) = pl + 1 + j by omega]
          exact this
      · intro g
        refine ⟨(g 0 (by simp)).1, (g 0 (by simp)).2, fun j hj => ?_⟩
        have := g (j + 1) (by simp; omega)
        rw [show pl + (j + 1) = pl + 1 + j by omega] at this
        exact this
    · have := h (j + 1) (by simp; omega)
      rw [show i + (j + 1) = i + 1 + j by omega] at this
      exact this
theorem sl_eq {x : Nat → Nat} {p e : Nat} {w : List Nat} : sl x p e = w ↔ e - p = w.length ∧ ∀ j, j < w.length → x (p + j) = w.getD j 0 := by
  constructor
  · intro h
    subst h
    unfold sl
    refine ⟨by simp, fun j hj => ?_⟩
    rw [List.getD_eq_getElem?_getD, List.getElem?_eq_getElem hj]
    simp
  · rintro ⟨h1, h2⟩
    unfold sl
    apply List.ext_getElem
    · simp; exact h1
    · intro j g1 g2
      have := h2 j g2
      rw [List.getD_eq_getElem?_getD, List.getElem?_eq_getElem g2] at this
      simpa using this
theorem au_all {ch x : Nat → Nat} {p e : Nat} (hpe : p ≤ e) : ∀ (ws : List (List Nat)) (k i n : Nat), k = (flat ws).length → (∀ j, j < (flat ws).length → ch (i + j) = (flat ws).getD j 0) → (∀ w ∈ ws, ∀ j, j < w.length → ¬ w.getD j 0 = 32) → au ch x p e k i n p true = wIx (sl x p e) ws n := by
  intro ws
  induction ws with
  | nil => intro k i n hk _ _; rw [hk]; rfl
  | cons w ws ih =>
    intro k i n hk hc hw
    have fl : flat (w :: ws) = w ++ 32 :: flat ws := rfl
    have ll : (flat (w :: ws)).length = w.length + ((flat ws).length + 1) := by rw [fl]; simp
    have g1 : ∀ j, j < w.length → ch (i + j) = w.getD j 0 ∧ ¬ w.getD j 0 = 32 := fun j hj => by
      refine ⟨?_, hw w List.mem_cons_self j hj⟩
      rw [hc j (by omega), fl, List.getD_eq_getElem?_getD, List.getD_eq_getElem?_getD, List.getElem?_append_left hj]
    have g2 : ch (i + w.length) = 32 := by
      rw [hc w.length (by omega), fl, List.getD_eq_getElem?_getD, List.getElem?_append_right (Nat.le_refl _)]
      simp
    rw [hk, ll, au_w w _ i n p true g1, au, g2, if_pos rfl, Bool.true_and, wIx]
    have cond : (decide (∀ j, j < w.length → p + j < e ∧ x (p + j) = w.getD j 0) && decide (p + w.length = e)) = decide (sl x p e = w) := by
      rw [← Bool.decide_and, decide_eq_decide, sl_eq]
      constructor
      · rintro ⟨a1, a2⟩
        exact ⟨by omega, fun j hj => (a1 j hj).2⟩
      · rintro ⟨a1, a2⟩
        exact ⟨fun j hj => ⟨by omega, a2 j hj⟩, by omega⟩
    rw [cond]
    by_cases d : sl x p e = w
    · rw [if_pos (decide_eq_true d), if_pos d]
    · rw [if_neg (by simpa using d), if_neg d]
      refine ih _ (i + w.length + 1) (n + 1) rfl (fun j hj => ?_) (fun w' hw' => hw w' (List.mem_cons_of_mem _ hw'))
      have := hc (w.length + 1 + j) (by omega)
      rw [show i + (w.length + 1 + j) = i + w.length + 1 + j by omega] at this
      rw [this, fl, List.getD_eq_getElem?_getD, List.getD_eq_getElem?_getD, List.getElem?_append_right (by omega), show w.length + 1 + j - w.length = j + 1 by omega]
      rfl
