/-! What the class and the reference keep from call to call. -/
theorem i_cs (a : Int32) : a < 0 ∨ ∃ k, k < 2147483648 ∧ a = nI k := by
  by_cases h : a < 0
  · exact Or.inl h
  · refine Or.inr ⟨a.toNatClampNeg, ?_, ?_⟩
    · have h1 : a.toNatClampNeg = a.toInt.toNat := rfl
      have h2 := a.toInt_lt
      omega
    · have h1 : a.toNatClampNeg = a.toInt.toNat := rfl
      have h2 := a.toInt_lt
      have h3 : 0 ≤ a.toInt := by
        rw [Int32.lt_iff_toInt_lt] at h
        have : (0 : Int32).toInt = 0 := by decide
        omega
      apply Int32.toInt_inj.mp
      rw [nI_toInt (by omega), h1]
      omega
/-- table, tables ahead of the latest acts (the oldest first), what was seen, what was refused -/
abbrev Sta : Type := Tab × List Tab × List (Nat × Nat × Int32) × (Nat → Int32)
def zT (z : Sta) : Tab := z.1
def zH (z : Sta) : List Tab := z.2.1
def zS (z : Sta) : List (Nat × Nat × Int32) := z.2.2.1
def zR (z : Sta) : Nat → Int32 := z.2.2.2
def TabG (S : Scr) (T : Tab) : Prop := TabN (sCols S) T ∧ sClash 30 S T = none
def StaOK (S : Scr) (z : Sta) : Prop := TabG S (zT z) ∧ (zH z).length ≤ 40 ∧ (∀ T ∈ zH z, TabG S T) ∧ (zS z).length ≤ 8 ∧ ∀ q ∈ zS z, q.1 < 30 ∧ q.2.1 < sCols S
def TabW (cols : Nat) (w : Int32) (f : Nat → Int32) (T : Tab) : Prop := (∀ p, p < 30 → bt w p = T.1 p) ∧ (∀ p, 30 ≤ p → bt w p = false) ∧ ∀ p, p < 30 → T.1 p = true → ∀ c, c < cols → f (p * 4 + c) = T.2 p c
theorem TabC.w {cols : Nat} {C : AmC} {r : Nat} {T : Tab} (h : TabC cols C r T) : TabW cols (cI C r 1) (cI C (r + 1)) T := h
theorem TabW.c {cols : Nat} {C : AmC} {r : Nat} {T : Tab} (h : TabW cols (cI C r 1) (cI C (r + 1)) T) : TabC cols C r T := h
def HisC (cols : Nat) (C : AmC) (b : Nat) (H : List Tab) : Prop := ∃ x, x < 40 ∧ cI C b 2 = nI x ∧ cI C b 3 = nI H.length ∧ ∀ k (_ : k < H.length), TabW cols (cI C (b + 2) ((x + 40 - H.length + k) % 40)) (fun m => cI C (b + 1) ((x + 40 - H.length + k) % 40 * 120 + m)) H[k]
def StaC (cols : Nat) (C : AmC) (a : Nat) (z : Sta) : Prop := TabC cols C (a + 1) (zT z) ∧ HisC cols C (a + 3) (zH z) ∧ cI C a 5 = nI (zS z).length ∧ (∀ i (_ : i < (zS z).length), cI C (a + 6) i = nI (zS z)[i].1 ∧ cI C (a + 7) i = nI (zS z)[i].2.1 ∧ cI C (a + 8) i = (zS z)[i].2.2) ∧ ∀ k, k < 3 → cI C (a + 9) k = zR z k
def TMZ (cols : Nat) (C : AmC) (f : Nat) (T : Tab) : Prop := TabM 30 cols C 146 f T ∧ TabZ 30 cols C 146 f T
def StaM (cols : Nat) (C : AmC) (f g e q m : Nat) (z : Sta) : Prop := TMZ cols C f (zT z) ∧ (∃ x, x < 40 ∧ cI C 145 e = nI (zH z).length ∧ cI C 145 (e + 1) = nI x ∧ ∀ k (_ : k < (zH z).length), TMZ cols C (g + 150 * ((x + k) % 40)) (zH z)[k]) ∧ cI C 145 (e + 2) = nI (zS z).length ∧ (∀ i (_ : i < (zS z).length), cI C 147 (q + i) = nI (zS z)[i].1 ∧ cI C 148 (q + i) = nI (zS z)[i].2.1 ∧ cI C 149 (q + i) = (zS z)[i].2.2) ∧ ∀ k, k < 3 → cI C 150 (m + k) = zR z k
/-- the text taken last; how much of the tape is fed, what, the fault's place; what is now; the image -/
abbrev Big : Type := Scr × (Nat × (Nat → Int32) × Int32) × Sta × Option Sta
def bS (B : Big) : Scr := B.1
def bN (B : Big) : Nat := B.2.1.1
def bT (B : Big) : Nat → Int32 := B.2.1.2.1
def bF (B : Big) : Int32 := B.2.1.2.2
def bZ (B : Big) : Sta := B.2.2.1
def bI (B : Big) : Option Sta := B.2.2.2
def BigOK (B : Big) : Prop := ScrOK (bS B) ∧ bN B ≤ 900 ∧ (∀ k, k < bN B → ∃ v, v < 256 ∧ bT B k = nI v) ∧ StaOK (bS B) (bZ B) ∧ ∀ y, bI B = some y → StaOK (bS B) y
/-- the class bears it -/
def CI (C : AmC) (s : Nat) (B : Big) : Prop := PInv C ∧ s ∈ scrL ∧ cP C 0 4 = some s ∧ cP C 0 5 = some (44 - s) ∧ ScrC C s (bS B) ∧ cI C 0 1 = nI (bN B) ∧ (∀ k, k < bN B → cI C 1 k = (bT B k).toInt8.toInt32) ∧ cI C 0 2 = bF B ∧ StaC (sCols (bS B)) C 82 (bZ B) ∧ cI C 0 8 = (if (bI B).isSome = true then 1 else 0) ∧ ∀ y, bI B = some y → StaC (sCols (bS B)) C 92 y
/-- the reference bears it -/
def MI (C : AmC) (h : Nat) (B : Big) : Prop := MC C h (bS B) ∧ cI C 145 43 = nI (bN B) ∧ (∀ k, k < bN B → cI C 178 k = bT B k) ∧ cI C 145 44 = bF B ∧ StaM (sCols (bS B)) C 0 300 6 0 0 (bZ B) ∧ cI C 145 12 = (if (bI B).isSome = true then 1 else 0) ∧ ∀ y, bI B = some y → StaM (sCols (bS B)) C 6300 6450 9 8 3 y
/-! a call of the class that changes nothing of it -/
def FrC (C C' : AmC) : Prop := PInv C' ∧ (∀ b, b < 102 → cI C' b = cI C b) ∧ (∀ b, 145 ≤ b → cI C' b = cI C b) ∧ cP C' 0 = cP C 0
theorem FrC.refl {C : AmC} (h : PInv C) : FrC C C := ⟨h, fun _ _ => rfl, fun _ _ => rfl, rfl⟩
theorem FrC.trans {C C1 C2 : AmC} (h : FrC C C1) (g : FrC C1 C2) : FrC C C2 := ⟨g.1, fun b z => (g.2.1 b z).trans (h.2.1 b z), fun b z => (g.2.2.1 b z).trans (h.2.2.1 b z), g.2.2.2.trans h.2.2.2⟩
theorem StaC.fr {cols : Nat} {C C' : AmC} {a : Nat} {z : Sta} (h : StaC cols C a z) (e : ∀ b, a ≤ b → b < a + 10 → cI C' b = cI C b) : StaC cols C' a z := by
  obtain ⟨h1, ⟨x, h2⟩, h3, h4, h5⟩ := h
  have e0 := e a (by omega) (by omega)
  have e1 := e (a + 1) (by omega) (by omega)
  have e2 := e (a + 1 + 1) (by omega) (by omega)
  have e3 := e (a + 3) (by omega) (by omega)
  have e4 := e (a + 3 + 1) (by omega) (by omega)
  have e5 := e (a + 3 + 2) (by omega) (by omega)
  have e6 := e (a + 6) (by omega) (by omega)
  have e7 := e (a + 7) (by omega) (by omega)
  have e8 := e (a + 8) (by omega) (by omega)
  have e9 := e (a + 9) (by omega) (by omega)
  refine ⟨h1.of e1 e2, ⟨x, by rw [e3, e4, e5]; exact h2⟩, by rw [e0]; exact h3, by rw [e6, e7, e8]; exact h4, by rw [e9]; exact h5⟩
theorem CI.fr {C C' : AmC} {s : Nat} {B : Big} (hB : BigOK B) (h : CI C s B) (F : FrC C C') : CI C' s B := by
  obtain ⟨h1, h2, h3, h4, h5, h6, h7, h8, h9, h10, h11⟩ := h
  obtain ⟨F1, F2, _, F4⟩ := F
  have l := scr_lt h2
  refine ⟨F1, h2, by rw [F4]; exact h3, by rw [F4]; exact h4, h5.of hB.1.2.2.2.2.2.2.2.1 (fun a z1 z2 => F2 a (by omega)), by rw [F2 0 (by omega)]; exact h6, by rw [F2 1 (by omega)]; exact h7, by rw [F2 0 (by omega)]; exact h8, h9.fr (fun b z1 z2 => F2 b (by omega)), by rw [F2 0 (by omega)]; exact h10, fun y hy => (h11 y hy).fr (fun b z1 z2 => F2 b (by omega))⟩
theorem TMZ.of {cols : Nat} {C C' : AmC} {f : Nat} {T : Tab} (h4 : cols ≤ 4) (h : TMZ cols C f T) (e : ∀ j, f ≤ j → j < f + 150 → cI C' 146 j = cI C 146 j) : TMZ cols C' f T := by
  refine ⟨⟨fun p hp => ?_, fun p hp tp c hc => ?_⟩, fun p hp tp c h1 h2 => ?_⟩
  · rw [e _ (by omega) (by omega)]; exact h.1.1 p hp
  · rw [e _ (by omega) (by omega)]; exact h.1.2 p hp tp c hc
  · rw [e _ (by omega) (by omega)]; exact h.2 p hp tp c h1 h2
theorem StaM.of {cols : Nat} {C C' : AmC} {f g e q m : Nat} {z : Sta} (h4 : cols ≤ 4) (h : StaM cols C f g e q m z) (e1 : ∀ j, f ≤ j → j < f + 150 → cI C' 146 j = cI C 146 j) (e2 : ∀ j, g ≤ j → j < g + 6000 → cI C' 146 j = cI C 146 j) (e3 : ∀ j, e ≤ j → j < e + 3 → cI C' 145 j = cI C 145 j) (e4 : cI C' 147 = cI C 147 ∧ cI C' 148 = cI C 148 ∧ cI C' 149 = cI C 149 ∧ cI C' 150 = cI C 150) : StaM cols C' f g e q m z := by
  obtain ⟨h1, ⟨x, h2, h3, h5, h6⟩, h7, h8, h9⟩ := h
  obtain ⟨e4, e5, e6, e7⟩ := e4
  refine ⟨h1.of h4 e1, ⟨x, h2, by rw [e3 _ (by omega) (by omega)]; exact h3, by rw [e3 _ (by omega) (by omega)]; exact h5, fun k hk => (h6 k hk).of h4 (fun j z1 z2 => e2 j (by omega) (by omega))⟩, by rw [e3 _ (by omega) (by omega)]; exact h7, by rw [e4, e5, e6]; exact h8, by rw [e7]; exact h9⟩
theorem MC.of2 {C C1 : AmC} {h : Nat} {S : Scr} (hM : MC C h S) (hp : PInv C1) (h0 : cI C1 145 40 = cI C 145 40) (hc : ∀ a, 151 ≤ a → a < 178 → cI C1 a = cI C a) : MC C1 h S :=
  ⟨hp, (MC.of (C1 := (cI C1, cJ C, cP C)) hM rfl h0 hc).2⟩
theorem MI.fr {C C' : AmC} {h : Nat} {B : Big} (hB : BigOK B) (hM : MI C h B) (F : FrC C C') : MI C' h B := by
  obtain ⟨h1, h2, h3, h4, h5, h6, h7⟩ := hM
  obtain ⟨F1, _, F3, _⟩ := F
  have e145 := F3 145 (by omega)
  have e146 := F3 146 (by omega)
  have e4 := And.intro (F3 147 (by omega)) (And.intro (F3 148 (by omega)) (And.intro (F3 149 (by omega)) (F3 150 (by omega))))
  have c4 := hB.1.2.1
  exact ⟨h1.of2 F1 (by rw [e145]) (fun a z1 z2 => F3 a (by omega)), by rw [e145]; exact h2, by rw [F3 178 (by omega)]; exact h3, by rw [e145]; exact h4, h5.of c4 (fun _ _ _ => by rw [e146]) (fun _ _ _ => by rw [e146]) (fun _ _ _ => by rw [e145]) e4, by rw [e145]; exact h6, fun y hy => (h7 y hy).of c4 (fun _ _ _ => by rw [e146]) (fun _ _ _ => by rw [e146]) (fun _ _ _ => by rw [e145]) e4⟩
/-! a call of the reference that changes nothing of it -/
def FrR (C C' : AmC) : Prop := cP C' = cP C ∧ (∀ b, b < 145 → cI C' b = cI C b) ∧ (∀ b, 147 ≤ b → b ≤ 178 → cI C' b = cI C b) ∧ (∀ j, ¬ (150 ≤ j ∧ j < 300) → cI C' 146 j = cI C 146 j) ∧ ∀ f, f ≤ 44 → ¬ f = 5 → cI C' 145 f = cI C 145 f
theorem FrR.refl (C : AmC) : FrR C C := ⟨rfl, fun _ _ => rfl, fun _ _ _ => rfl, fun _ _ => rfl, fun _ _ _ => rfl⟩
theorem FrR.trans {C C1 C2 : AmC} (h : FrR C C1) (g : FrR C1 C2) : FrR C C2 := ⟨g.1.trans h.1, fun b z => (g.2.1 b z).trans (h.2.1 b z), fun b y z => (g.2.2.1 b y z).trans (h.2.2.1 b y z), fun b z => (g.2.2.2.1 b z).trans (h.2.2.2.1 b z), fun b y z => (g.2.2.2.2 b y z).trans (h.2.2.2.2 b y z)⟩
theorem FrR.uF {C C1 : AmC} (h : FrR C C1) {f : Nat} {v : Int32} (hf : f = 5 ∨ 44 < f) : FrR C (uI C1 145 f v) := ⟨h.1, fun b z => by rw [r_In (by omega)]; exact h.2.1 b z, fun b y z => by rw [r_In (by omega)]; exact h.2.2.1 b y z, fun b z => by rw [r_In (by decide)]; exact h.2.2.2.1 b z, fun b y z => by rw [r_I, if_neg (by omega)]; exact h.2.2.2.2 b y z⟩
theorem FrR.uC {C C1 : AmC} (h : FrR C C1) {a f : Nat} {v : Int32} (hf : 178 < a) : FrR C (uI C1 a f v) := ⟨h.1, fun b z => by rw [r_In (by omega)]; exact h.2.1 b z, fun b y z => by rw [r_In (by omega)]; exact h.2.2.1 b y z, fun b z => by rw [r_In (by omega)]; exact h.2.2.2.1 b z, fun b y z => by rw [r_In (by omega)]; exact h.2.2.2.2 b y z⟩
theorem FrM.r {lo : Nat} {C C1 : AmC} (h : FrM lo C C1) (hl : 45 ≤ lo) : FrR C C1 := ⟨h.1, fun b z => h.2.2.1 b (by unfold MX; omega), fun b y z => h.2.2.1 b (by unfold MX; omega), fun j _ => by rw [h.2.2.1 146 (by unfold MX; omega)], fun f z _ => h.2.2.2 f (by omega)⟩
theorem FrQ.r {X : Nat → Prop} {C C1 : AmC} (h : FrQ X C C1) (hX : ∀ b, X b → 178 < b) : FrR C C1 := ⟨h.1, fun b z => h.2.1 b (by omega) (fun w => by have := hX b w; omega), fun b y z => h.2.1 b (by omega) (fun w => by have := hX b w; omega), fun j _ => by rw [h.2.1 146 (by omega) (fun w => by have := hX _ w; omega)], fun f z _ => h.2.2 f (by omega) (by omega)⟩
theorem MI.frR {C C' : AmC} {h : Nat} {B : Big} (hB : BigOK B) (hM : MI C h B) (F : FrR C C') : MI C' h B := by
  obtain ⟨h1, h2, h3, h4, h5, h6, h7⟩ := hM
  obtain ⟨F1, _, F3, F4, F5⟩ := F
  have e4 := And.intro (F3 147 (by omega) (by omega)) (And.intro (F3 148 (by omega) (by omega)) (And.intro (F3 149 (by omega) (by omega)) (F3 150 (by omega) (by omega))))
  have c4 := hB.1.2.1
  exact ⟨h1.of F1 (F5 40 (by omega) (by omega)) (fun a z1 z2 => F3 a (by omega) (by omega)), by rw [F5 43 (by omega) (by omega)]; exact h2, by rw [F3 178 (by omega) (by omega)]; exact h3, by rw [F5 44 (by omega) (by omega)]; exact h4, h5.of c4 (fun _ _ _ => F4 _ (by omega)) (fun _ _ _ => F4 _ (by omega)) (fun _ _ _ => F5 _ (by omega) (by omega)) e4, by rw [F5 12 (by omega) (by omega)]; exact h6, fun y hy => (h7 y hy).of c4 (fun _ _ _ => F4 _ (by omega)) (fun _ _ _ => F4 _ (by omega)) (fun _ _ _ => F5 _ (by omega) (by omega)) e4⟩
theorem CI.cells {C C' : AmC} {s : Nat} {B : Big} (hB : BigOK B) (h : CI C s B) (p : cP C' = cP C) (e : ∀ b, b < 102 → cI C' b = cI C b) : CI C' s B := by
  obtain ⟨h1, h2, h3, h4, h5, h6, h7, h8, h9, h10, h11⟩ := h
  have l := scr_lt h2
  refine ⟨h1.of p, h2, by rw [p]; exact h3, by rw [p]; exact h4, h5.of hB.1.2.2.2.2.2.2.2.1 (fun a z1 z2 => e a (by omega)), by rw [e 0 (by omega)]; exact h6, by rw [e 1 (by omega)]; exact h7, by rw [e 0 (by omega)]; exact h8, h9.fr (fun b z1 z2 => e b (by omega)), by rw [e 0 (by omega)]; exact h10, fun y hy => (h11 y hy).fr (fun b z1 z2 => e b (by omega))⟩
theorem CI.frR {C C' : AmC} {s : Nat} {B : Big} (hB : BigOK B) (h : CI C s B) (F : FrR C C') : CI C' s B := h.cells hB F.1 (fun b z => F.2.1 b (by omega))
/-! answers -/
/-- an answer, or the number of what is thrown; as the reference tells it -/
def An (C' : AmC) (z : Int32) (A : Int32 ⊕ Nat) : Prop := match A with
  | .inl v => cI C' 145 5 = 0 ∧ z = v
  | .inr x => cI C' 145 5 = nI (x + 1)
/-- a number below N -/
def ixO (N : Nat) (a : Int32) : Option Nat := if ¬ a < 0 ∧ a.toNatClampNeg < N then some a.toNatClampNeg else none
theorem ix_cs {N : Nat} (hN : N < 2147483648) (a : Int32) : (ixO N a = none ∧ (a < 0 ∨ (¬ a < 0 ∧ ¬ a < nI N))) ∨ ∃ k, k < N ∧ a = nI k ∧ ixO N a = some k := by
  rcases i_cs a with h | ⟨k, hk, rfl⟩
  · refine Or.inl ⟨?_, Or.inl h⟩
    unfold ixO
    rw [if_neg (fun z => z.1 h)]
  · have h0 : ¬ nI k < 0 := by rw [x_lt0 hk]; exact id
    by_cases g : k < N
    · refine Or.inr ⟨k, g, rfl, ?_⟩
      unfold ixO
      rw [x_cl hk, if_pos ⟨h0, g⟩]
    · refine Or.inl ⟨?_, Or.inr ⟨h0, by rw [x_lt hk hN]; exact g⟩⟩
      unfold ixO
      rw [x_cl hk, if_neg (fun z => g z.2)]
theorem m163n {n N : Nat} {a : Int32} {C : AmC} (hN : N < 2147483648) : f_163 n a 0 (nI N - 1) C = some (if (ixO N a).isSome = true then 1 else 0, C) := by
  unfold f_163
  rcases ix_cs hN a with ⟨e, h | h⟩ | ⟨k, hk, rfl, e⟩
  · rw [e, if_pos h]; rfl
  · rw [e, if_neg h.1]
    obtain ⟨k, hk, rfl⟩ := (i_cs a).resolve_left h.1
    have h2 := h.2
    rw [x_lt hk hN] at h2
    by_cases N0 : N = 0
    · subst N0
      have : nI 0 - 1 < nI k := by
        rw [Int32.lt_iff_toInt_lt, nI_toInt hk]
        have : (nI 0 - 1 : Int32).toInt = -1 := by decide
        omega
      rw [if_pos this]; rfl
    · rw [x_s1 (by omega), if_pos ((x_lt (by omega) hk).mpr (by omega))]; rfl
  · have k31 : k < 2147483648 := by omega
    rw [e, if_neg (by rw [x_lt0 k31]; exact id), x_s1 (by omega), if_neg (by rw [x_lt (by omega) k31]; omega)]; rfl
theorem m162 {n : Nat} {C : AmC} {w : Int32} (b : Bool) (h0 : cI C 145 5 = 0) (hw : ¬ w = 0) : f_162 n 145 (if b = true then 1 else 0) w C = some (if b = true then 1 else 0, if b = true then C else uI C 145 5 w) := by
  have e : cI (uI C 145 5 w) 145 5 = w := by rw [r_I, if_pos ⟨rfl, rfl⟩]
  unfold f_162
  cases b
  · simp [k_145, h0, e, hw]
  · simp [k_145, h0]
