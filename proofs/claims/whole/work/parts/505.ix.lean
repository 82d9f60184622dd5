/-! Numbers as indices; contents read behind a write; loops that look for the first, and that fold. -/
theorem n_2 : (2 : Int32) = nI 2 := rfl
theorem n_3 : (3 : Int32) = nI 3 := rfl
theorem n_4 : (4 : Int32) = nI 4 := rfl
theorem n_5 : (5 : Int32) = nI 5 := rfl
theorem n_6 : (6 : Int32) = nI 6 := rfl
theorem n_7 : (7 : Int32) = nI 7 := rfl
theorem n_8 : (8 : Int32) = nI 8 := rfl
theorem n_10 : (10 : Int32) = nI 10 := rfl
theorem n_12 : (12 : Int32) = nI 12 := rfl
theorem n_20 : (20 : Int32) = nI 20 := rfl
theorem n_30 : (30 : Int32) = nI 30 := rfl
theorem n_40 : (40 : Int32) = nI 40 := rfl
theorem n_100 : (100 : Int32) = nI 100 := rfl
theorem n_120 : (120 : Int32) = nI 120 := rfl
theorem n_150 : (150 : Int32) = nI 150 := rfl
theorem n_200 : (200 : Int32) = nI 200 := rfl
theorem n_230 : (230 : Int32) = nI 230 := rfl
theorem n_320 : (320 : Int32) = nI 320 := rfl
theorem n_450 : (450 : Int32) = nI 450 := rfl
theorem n_900 : (900 : Int32) = nI 900 := rfl
theorem n_24 : (24 : Int32) = nI 24 := rfl
theorem n_160 : (160 : Int32) = nI 160 := rfl
theorem n_9999 : (9999 : Int32) = nI 9999 := rfl
theorem n_100000 : (100000 : Int32) = nI 100000 := rfl
theorem n_6300 : (6300 : Int32) = nI 6300 := rfl
theorem n_6450 : (6450 : Int32) = nI 6450 := rfl
theorem n_6000 : (6000 : Int32) = nI 6000 := rfl
theorem n_300 : (300 : Int32) = nI 300 := rfl
theorem n_800 : (800 : Int32) = nI 800 := rfl
theorem n_1150 : (1150 : Int32) = nI 1150 := rfl
theorem x_le {a b : Nat} (ha : a < 2147483648) (hb : b < 2147483648) : (nI a ≤ nI b) ↔ a ≤ b := nI_leI ha hb
theorem x_lt {a b : Nat} (ha : a < 2147483648) (hb : b < 2147483648) : (nI a < nI b) ↔ a < b := nI_ltI ha hb
theorem x_eq {a b : Nat} (ha : a < 2147483648) (hb : b < 2147483648) : (nI a = nI b) ↔ a = b := nI_eq ha hb
theorem x_lt0 {j : Nat} (hj : j < 2147483648) : (nI j < 0) ↔ False := ⟨fun h => nI_pos hj h, False.elim⟩
theorem x_le0 {j : Nat} (hj : j < 2147483648) : (nI j ≤ 0) ↔ j = 0 := by
  rw [← nI_0, nI_leI hj (by decide)]
  omega
theorem x_0le {j : Nat} (hj : j < 2147483648) : (0 ≤ nI j) ↔ True := ⟨fun _ => trivial, fun _ => nI_pos' hj⟩
theorem x_0lt {j : Nat} (hj : j < 2147483648) : (0 < nI j) ↔ 0 < j := by rw [← nI_0, nI_ltI (by decide) hj]
theorem x_eq0 {j : Nat} (hj : j < 2147483648) : (nI j = 0) ↔ j = 0 := by rw [← nI_0, nI_eq hj (by decide)]
theorem x_eq1 {j : Nat} (hj : j < 2147483648) : (nI j = 1) ↔ j = 1 := nI_eq (b := 1) hj (by decide)
theorem x_1lt {j : Nat} (hj : j < 2147483648) : (1 < nI j) ↔ 1 < j := nI_ltI (a := 1) (by decide) hj
theorem x_le1 {j : Nat} (hj : j < 2147483648) : (nI j ≤ 1) ↔ j ≤ 1 := nI_leI (b := 1) hj (by decide)
theorem x_lt1 {j : Nat} (hj : j < 2147483648) : (nI j < 1) ↔ j < 1 := nI_ltI (b := 1) hj (by decide)
theorem x_1le {j : Nat} (hj : j < 2147483648) : (1 ≤ nI j) ↔ 1 ≤ j := nI_leI (a := 1) (by decide) hj
theorem x_eqm {j : Nat} (hj : j < 2147483648) : (nI j = (-1 : Int32)) ↔ False := by
  constructor
  · intro h
    have h1 : (nI j).toInt = (j : Int) := nI_toInt hj
    rw [h] at h1
    have h2 : ((-1 : Int32)).toInt = -1 := by decide
    omega
  · exact False.elim
theorem x_add (a b : Nat) : nI a + nI b = nI (a + b) := nI_add a b
theorem x_a1 (a : Nat) : nI a + 1 = nI (a + 1) := nI_add a 1
theorem x_1a (a : Nat) : 1 + nI a = nI (1 + a) := nI_add 1 a
theorem x_a0 (a : Nat) : nI a + 0 = nI a := nI_add a 0
theorem x_0a (a : Nat) : 0 + nI a = nI a := by rw [← nI_0, nI_add, Nat.zero_add]
theorem x_mul (a b : Nat) : nI a * nI b = nI (a * b) := pk_mul a b
theorem x_sub {a b : Nat} (h : b ≤ a) : nI a - nI b = nI (a - b) := pk_sub h
theorem x_s1 {a : Nat} (h : 1 ≤ a) : nI a - 1 = nI (a - 1) := pk_sub h
theorem x_1s {a : Nat} (h : a ≤ 1) : 1 - nI a = nI (1 - a) := pk_sub h
theorem x_div {a k : Nat} (ha : a < 2147483648) (h0 : 0 < k) (hk : k < 2147483648) : nI a / nI k = nI (a / k) := pk_div ha h0 hk
theorem x_cl {j : Nat} (hj : j < 2147483648) : (nI j).toNatClampNeg = j := nI_clamp hj
theorem x_cl0 : (0 : Int32).toNatClampNeg = 0 := rfl
theorem x_cl1 : (1 : Int32).toNatClampNeg = 1 := rfl
theorem x_in {j N : Nat} (hj : j < 2147483648) : (amIn (nI j) N = true) ↔ j < N := by
  have h1 : ¬ nI j < 0 := nI_pos hj
  simp [amIn, h1, nI_clamp hj]
theorem x_in0 {N : Nat} : (amIn 0 N = true) ↔ 0 < N := x_in (j := 0) (by decide)
theorem x_in1 {N : Nat} : (amIn 1 N = true) ↔ 1 < N := x_in (j := 1) (by decide)
theorem x_ofNat (k : Nat) : Int32.ofNat k = nI k := rfl
theorem x_ti {j : Nat} (hj : j < 2147483648) : (nI j).toInt = (j : Int) := nI_toInt hj
theorem x_0 : nI 0 = 0 := rfl
/-! reading behind a write -/
theorem r_I (C : AmC) (a j : Nat) (v : Int32) (b k : Nat) : cI (uI C a j v) b k = if b = a ∧ k = j then v else cI C b k := by
  show va_up (cI C) a (va_up (cI C a) j v) b k = _
  unfold va_up
  by_cases h : b = a
  · subst h
    by_cases h2 : k = j <;> simp [h2]
  · simp [h]
theorem r_In {C : AmC} {a j : Nat} {v : Int32} {b : Nat} (h : b ≠ a) : cI (uI C a j v) b = cI C b := by
  funext k
  rw [r_I, if_neg (fun z => h z.1)]
theorem r_A (C : AmC) (a : Nat) (f : Nat → Int32) (b k : Nat) : cI (uA C a f) b k = if b = a then f k else cI C b k := by
  show va_up (cI C) a f b k = _
  unfold va_up
  by_cases h : b = a <;> simp [h]
theorem r_An {C : AmC} {a : Nat} {f : Nat → Int32} {b : Nat} (h : b ≠ a) : cI (uA C a f) b = cI C b := by
  funext k
  rw [r_A, if_neg h]
theorem r_Ae {C : AmC} {a : Nat} {f : Nat → Int32} : cI (uA C a f) a = f := by
  funext k
  rw [r_A, if_pos rfl]
theorem r_J (C : AmC) (a j : Nat) (v : Int64) : cI (uJ C a j v) = cI C := rfl
theorem r_P (C : AmC) (a j q : Nat) : cI (uP C a j q) = cI C := rfl
theorem p_I (C : AmC) (a j : Nat) (v : Int32) : cP (uI C a j v) = cP C := rfl
theorem p_A (C : AmC) (a : Nat) (f : Nat → Int32) : cP (uA C a f) = cP C := rfl
theorem p_J (C : AmC) (a j : Nat) (v : Int64) : cP (uJ C a j v) = cP C := rfl
theorem p_P (C : AmC) (a j q : Nat) (b k : Nat) : cP (uP C a j q) b k = if b = a ∧ k = j then some q else cP C b k := by
  show va_up (cP C) a (va_up (cP C a) j (some q)) b k = _
  unfold va_up
  by_cases h : b = a
  · subst h
    by_cases h2 : k = j <;> simp [h2]
  · simp [h]
theorem j_I (C : AmC) (a j : Nat) (v : Int32) : cJ (uI C a j v) = cJ C := rfl
theorem j_A (C : AmC) (a : Nat) (f : Nat → Int32) : cJ (uA C a f) = cJ C := rfl
theorem j_P (C : AmC) (a j q : Nat) : cJ (uP C a j q) = cJ C := rfl
theorem j_J (C : AmC) (a j : Nat) (v : Int64) (b k : Nat) : cJ (uJ C a j v) b k = if b = a ∧ k = j then v else cJ C b k := by
  show va_up (cJ C) a (va_up (cJ C a) j v) b k = _
  unfold va_up
  by_cases h : b = a
  · subst h
    by_cases h2 : k = j <;> simp [h2]
  · simp [h]
theorem bd1 {α β : Type} {x : Option α} {y : α} (e : x = some y) (k : α → Option β) : x.bind k = k y := by rw [e]; rfl
theorem bp_I {β : Type} (C : AmC) (a j : Nat) (v : Int32) (b i : Nat) (k : Nat → Option β) : (cP (uI C a j v) b i).bind k = (cP C b i).bind k := rfl
theorem bp_A {β : Type} (C : AmC) (a : Nat) (f : Nat → Int32) (b i : Nat) (k : Nat → Option β) : (cP (uA C a f) b i).bind k = (cP C b i).bind k := rfl
theorem bp_J {β : Type} (C : AmC) (a j : Nat) (v : Int64) (b i : Nat) (k : Nat → Option β) : (cP (uJ C a j v) b i).bind k = (cP C b i).bind k := rfl
/-- nothing changes but cells of S; references stay -/
def Fr (S : Nat → Prop) (C C' : AmC) : Prop := cP C' = cP C ∧ (∀ a, ¬ S a → cI C' a = cI C a) ∧ ∀ a, ¬ S a → cJ C' a = cJ C a
theorem Fr.refl (S : Nat → Prop) (C : AmC) : Fr S C C := ⟨rfl, fun _ _ => rfl, fun _ _ => rfl⟩
theorem Fr.trans {S : Nat → Prop} {C C1 C2 : AmC} (h : Fr S C C1) (g : Fr S C1 C2) : Fr S C C2 := ⟨g.1.trans h.1, fun a z => (g.2.1 a z).trans (h.2.1 a z), fun a z => (g.2.2 a z).trans (h.2.2 a z)⟩
theorem Fr.mono {S S' : Nat → Prop} {C C1 : AmC} (h : Fr S C C1) (g : ∀ a, S a → S' a) : Fr S' C C1 := ⟨h.1, fun a z => h.2.1 a (fun y => z (g a y)), fun a z => h.2.2 a (fun y => z (g a y))⟩
theorem Fr.uI {S : Nat → Prop} {C C1 : AmC} (h : Fr S C C1) {a j : Nat} {v : Int32} (g : S a) : Fr S C (uI C1 a j v) := ⟨h.1, fun b z => (r_In (fun (e : b = a) => z (e ▸ g))).trans (h.2.1 b z), fun b z => h.2.2 b z⟩
theorem Fr.uA {S : Nat → Prop} {C C1 : AmC} (h : Fr S C C1) {a : Nat} {f : Nat → Int32} (g : S a) : Fr S C (uA C1 a f) := ⟨h.1, fun b z => (r_An (fun (e : b = a) => z (e ▸ g))).trans (h.2.1 b z), fun b z => h.2.2 b z⟩
theorem Fr.uJ {S : Nat → Prop} {C C1 : AmC} (h : Fr S C C1) {a j : Nat} {v : Int64} (g : S a) : Fr S C (uJ C1 a j v) := ⟨h.1, fun b z => h.2.1 b z, fun b z => by
  funext k
  rw [j_J, if_neg (fun (e : b = a ∧ k = j) => z (e.1 ▸ g)), h.2.2 b z]⟩
/-- a method ends, and so -/
def Rt {α : Type} (x : Option (α × AmC)) (Q : α → AmC → Prop) : Prop := ∃ r C', x = some (r, C') ∧ Q r C'
theorem rt_ret {α : Type} {r : α} {C : AmC} {Q : α → AmC → Prop} (h : Q r C) : Rt (some (r, C)) Q := ⟨r, C, rfl, h⟩
theorem rt_bind {α β : Type} {x : Option (α × AmC)} {k : α × AmC → Option (β × AmC)} {Q : β → AmC → Prop} (h : Rt x (fun r C => Rt (k (r, C)) Q)) : Rt (x.bind k) Q := by
  obtain ⟨r, C, e, h⟩ := h
  rw [e]
  exact h
theorem rt_eq {α β : Type} {x : Option (α × AmC)} {k : α × AmC → Option (β × AmC)} {Q : β → AmC → Prop} {r : α} {C : AmC} (e : x = some (r, C)) (h : Rt (k (r, C)) Q) : Rt (x.bind k) Q := by
  rw [e]
  exact h
theorem rt_ref {β : Type} {x : Option Nat} {k : Nat → Option (β × AmC)} {Q : β → AmC → Prop} {r : Nat} (e : x = some r) (h : Rt (k r) Q) : Rt (x.bind k) Q := by
  rw [e]
  exact h
theorem rt_if {α : Type} {c : Prop} (d : Decidable c) {x y : Option (α × AmC)} {Q : α → AmC → Prop} (h1 : c → Rt x Q) (h2 : ¬ c → Rt y Q) : Rt (ite c x y) Q := by
  by_cases h : c
  · rw [if_pos h]; exact h1 h
  · rw [if_neg h]; exact h2 h
theorem rt_mono {α : Type} {x : Option (α × AmC)} {Q Q' : α → AmC → Prop} (h : Rt x Q) (g : ∀ r C, Q r C → Q' r C) : Rt x Q' := by
  obtain ⟨r, C, e, h⟩ := h
  exact ⟨r, C, e, g r C h⟩
/-! loops: the first, and a fold -/
def qf (f : Nat → Bool) : Nat → Nat → Option Nat
  | 0, _ => none
  | k + 1, j => if f j = true then some j else qf f k (j + 1)
def qo {α : Type} (g : Nat → α → α) : Nat → Nat → α → α
  | 0, _, a => a
  | k + 1, j, a => qo g k (j + 1) (g j a)
theorem qf_some {f : Nat → Bool} : ∀ {k j p : Nat}, qf f k j = some p → j ≤ p ∧ p < j + k ∧ f p = true ∧ ∀ q, j ≤ q → q < p → f q = false := by
  intro k
  induction k with
  | zero => intro j p h; cases h
  | succ k ih =>
    intro j p h
    unfold qf at h
    by_cases c : f j = true
    · rw [if_pos c] at h
      cases h
      exact ⟨Nat.le_refl _, by omega, c, fun q h1 h2 => by omega⟩
    · rw [if_neg c] at h
      obtain ⟨h1, h2, h3, h4⟩ := ih h
      refine ⟨by omega, by omega, h3, fun q h5 h6 => ?_⟩
      by_cases e : q = j
      · subst e; simpa using c
      · exact h4 q (by omega) h6
theorem qf_none {f : Nat → Bool} : ∀ {k j : Nat}, qf f k j = none ↔ ∀ q, j ≤ q → q < j + k → f q = false := by
  intro k
  induction k with
  | zero => intro j; exact ⟨fun _ q h1 h2 => by omega, fun _ => rfl⟩
  | succ k ih =>
    intro j
    unfold qf
    by_cases c : f j = true
    · rw [if_pos c]
      constructor
      · intro h; cases h
      · intro h; rw [h j (by omega) (by omega)] at c; cases c
    · rw [if_neg c, ih]
      constructor
      · intro h q h1 h2
        by_cases e : q = j
        · subst e; simpa using c
        · exact h q (by omega) (by omega)
      · intro h q h1 h2; exact h q (by omega) (by omega)
theorem qf_cong {f g : Nat → Bool} : ∀ {k j : Nat}, (∀ q, j ≤ q → q < j + k → f q = g q) → qf f k j = qf g k j := by
  intro k
  induction k with
  | zero => intro j _; rfl
  | succ k ih =>
    intro j h
    unfold qf
    rw [h j (by omega) (by omega), ih (fun q h1 h2 => h q (by omega) (by omega))]
theorem qo_cong {α : Type} {f g : Nat → α → α} : ∀ {k j : Nat} {a : α}, (∀ q b, j ≤ q → q < j + k → f q b = g q b) → qo f k j a = qo g k j a := by
  intro k
  induction k with
  | zero => intro j a _; rfl
  | succ k ih =>
    intro j a h
    unfold qo
    rw [h j a (by omega) (by omega), ih (fun q b h1 h2 => h q b (by omega) (by omega))]
