/-! The reference's parser: where it stands, what its small methods tell. -/
/-- nothing changes but what W names; references stay -/
def FrZ (W : Nat → Nat → Prop) (C C' : AmC) : Prop := cP C' = cP C ∧ ∀ b j, ¬ W b j → cI C' b j = cI C b j
theorem FrZ.refl {W : Nat → Nat → Prop} (C : AmC) : FrZ W C C := ⟨rfl, fun _ _ _ => rfl⟩
theorem FrZ.trans {W : Nat → Nat → Prop} {C C1 C2 : AmC} (h : FrZ W C C1) (g : FrZ W C1 C2) : FrZ W C C2 := ⟨g.1.trans h.1, fun b j z => (g.2 b j z).trans (h.2 b j z)⟩
theorem FrZ.mono {W W' : Nat → Nat → Prop} {C C1 : AmC} (h : FrZ W C C1) (g : ∀ b j, W b j → W' b j) : FrZ W' C C1 := ⟨h.1, fun b j z => h.2 b j (fun y => z (g b j y))⟩
theorem FrZ.u {W : Nat → Nat → Prop} {C C1 : AmC} {a f : Nat} {v : Int32} (h : FrZ W C C1) (g : W a f) : FrZ W C (uI C1 a f v) := ⟨h.1, fun b j z => by
  rw [r_I, if_neg (fun e => z (by rw [e.1, e.2]; exact g))]
  exact h.2 b j z⟩
theorem FrZ.c {W : Nat → Nat → Prop} {C C1 : AmC} {b : Nat} (h : FrZ W C C1) (g : ∀ j, ¬ W b j) : cI C1 b = cI C b := by
  funext j
  exact h.2 b j (g j)
def W0 (b j : Nat) : Prop := b = 145 ∧ 44 ≤ j ∧ j ≤ 51 ∧ j ≠ 47
theorem FrG.w {C C' : AmC} (h : FrG C C') : FrZ W0 C C' := ⟨h.1, fun b j z => by
  unfold W0 at z
  by_cases e : b = 145
  · subst e
    exact h.2.2 j (by omega)
  · rw [h.2.1 b e]⟩
section
variable {n h i j N : Nat} {C C' : AmC} {x : Nat → Nat}
/-- the reference reads a text into its half h and stands at token i -/
def Pm (C : AmC) (h : Nat) (x : Nat → Nat) (N i : Nat) : Prop := PInv C ∧ h < 2 ∧ cI C 145 41 = nI h ∧ TpM C x N ∧ AtP C x N (ps x N i) ∧ cI C 145 51 = 0 ∧ cI C 145 44 = -1
theorem Pm.of (hp : Pm C h x N i) (p : cP C' = cP C) (e : ∀ j, 41 ≤ j → j ≤ 51 → cI C' 145 j = cI C 145 j) (e8 : cI C' 178 = cI C 178) : Pm C' h x N i := by
  obtain ⟨h1, h2, h3, ⟨t1, t2, t3⟩, ⟨a1, a2, a3⟩, h6, h7⟩ := hp
  refine ⟨h1.of p, h2, by rw [e 41 (by omega) (by omega)]; exact h3, ⟨t1, by rw [e 47 (by omega) (by omega)]; exact t2, by rw [e8]; exact t3⟩, ⟨by rw [e 46 (by omega) (by omega)]; exact a1, ?_, ?_⟩, by rw [e 51 (by omega) (by omega)]; exact h6, by rw [e 44 (by omega) (by omega)]; exact h7⟩
  · rw [e 45 (by omega) (by omega), e 48 (by omega) (by omega), e 49 (by omega) (by omega), e 50 (by omega) (by omega)]; exact a2
  · rw [e 45 (by omega) (by omega), e 48 (by omega) (by omega), e 49 (by omega) (by omega), e 50 (by omega) (by omega)]; exact a3
theorem Pm.at (hp : Pm C h x N i) : AtT C (tK x N i) (tN x N i) := at_t hp.2.2.2.2.1
/-- it goes on by a token -/
theorem Pm.go (hp : Pm C h x N i) (hn : 1100 ≤ n) : Rt (f_169 n 145 C) (fun _ C' => Pm C' h x N (i + 1) ∧ FrZ W0 C C') := by
  obtain ⟨h1, h2, h3, h4, h5, h6, h7⟩ := hp
  have pl := ps_le (x := x) (N := N) i
  have H : ∃ p, p ≤ N ∧ cI C 145 45 = nI p ∧ skB x N p = ps x N (i + 1) := by
    by_cases g : ps x N i < N
    · exact ⟨tkE x N (ps x N i), (tkE_lo g).2, (h5.2.1 g).1, (ps_s g).symm⟩
    · refine ⟨N, Nat.le_refl _, (h5.2.2 g).1, ?_⟩
      rw [ps, if_neg g]
      exact skE_ge (Nat.le_refl _)
  obtain ⟨p, q1, q2, q3⟩ := H
  refine rt_mono (m169 (n := n) h1 h4 q1 q2 hn) (fun _ D H => ?_)
  obtain ⟨a, F⟩ := H
  rw [q3] at a
  exact ⟨⟨h1.of F.1, h2, by rw [F.2.2 41 (by omega)]; exact h3, h4.fr F, a, by rw [F.2.2 51 (by omega)]; exact h6, by rw [F.2.2 44 (by omega)]; exact h7⟩, F.w⟩
/-- a fault is told -/
def FltM (C' : AmC) (x : Nat → Nat) (N k j : Nat) : Prop := 1 ≤ k ∧ k ≤ 4 ∧ cI C' 145 51 = nI k ∧ cI C' 145 44 = nI (ps x N j)
abbrev Bd (C : AmC) : Prop := ¬ cI C 145 51 = 0
theorem FltM.bd {k : Nat} (f : FltM C x N k j) : Bd C := by
  unfold Bd
  rw [f.2.2.1, x_eq0 (by have := f.2.1; omega)]
  have := f.1
  omega
theorem FltM.of {k : Nat} (f : FltM C x N k j) (e : cI C' 145 51 = cI C 145 51) (e4 : cI C' 145 44 = cI C 145 44) : FltM C' x N k j := ⟨f.1, f.2.1, by rw [e]; exact f.2.2.1, by rw [e4]; exact f.2.2.2⟩
def PRm {α : Type} (C' : AmC) (h : Nat) (x : Nat → Nat) (N : Nat) (r : PE α) (Q : α → Nat → Prop) : Prop :=
  (∃ k j, r = .inl (k, j) ∧ FltM C' x N k j) ∨ ∃ a j, r = .inr (a, j) ∧ Pm C' h x N j ∧ Q a j
theorem b170 {b v : Int32} (g : Bd C) : f_170 n 145 b v C = some (0, C) := by
  unfold f_170
  rw [if_pos k_145, if_pos g, if_pos g]
theorem b171 {v : Int32} (g : Bd C) : f_171 n 145 v C = some (0, C) := by
  unfold f_171
  rw [if_pos k_145, if_pos g]
theorem b172 {v : Int32} (g : Bd C) : f_172 n 145 v C = some (0, C) := by
  unfold f_172
  rw [if_pos k_145, if_pos g]
theorem b173 {v : Int32} (g : Bd C) : f_173 n 145 v C = some ((), C) := by
  unfold f_173
  rw [if_pos k_145, bd1 (b172 g)]
  dsimp only
  rw [bd1 (b170 g)]
  dsimp only
  rw [if_pos rfl]
theorem b174 (g : Bd C) : f_174 n 145 C = some (0, C) := by
  unfold f_174
  rw [if_pos k_145, bd1 (b172 g)]
  dsimp only
  rw [if_pos rfl]
  by_cases e : ¬ cI C 145 48 = 2
  · rw [if_pos e, bd1 (b170 g)]
    dsimp only
    rw [if_pos rfl]
  · rw [if_neg e, bd1 (b170 g)]
    dsimp only
    rw [if_pos rfl]
theorem m175x : ∃ b, f_175 n 145 C = some (b, C) := by
  unfold f_175
  rw [if_pos k_145]
  by_cases e : ¬ cI C 145 48 = 1
  · rw [if_pos e]; exact ⟨_, rfl⟩
  · rw [if_neg e]
    by_cases e2 : cI C 145 50 < 17
    · rw [if_pos e2]; exact ⟨_, rfl⟩
    · rw [if_neg e2]; exact ⟨_, rfl⟩
theorem b176 (g : Bd C) : f_176 n 145 C = some (0, C) := by
  obtain ⟨b, e⟩ := m175x (n := n) (C := C)
  unfold f_176
  rw [if_pos k_145, bd1 e]
  dsimp only
  rw [bd1 (b170 g)]
  dsimp only
  rw [if_pos rfl]
theorem b177 {a b c : Int32} (g : Bd C) : f_177 n 145 a b c C = some ((), C) := by
  unfold f_177
  rw [if_pos k_145, if_neg g]
theorem b178 {a b c : Int32} (g : Bd C) : f_178 n 145 a b c C = some ((), C) := by
  unfold f_178
  rw [if_pos k_145, if_neg g]
/-- wants: so -/
theorem m170t {b v : Int32} (hp : Pm C h x N i) (hb : ¬ b = 0) : f_170 n 145 b v C = some (1, C) := by
  have g := hp.2.2.2.2.2.1
  unfold f_170
  rw [if_pos k_145, if_neg (fun z => z g), if_pos hb, if_neg (fun z => z g)]
def wF (C : AmC) (v : Int32) : AmC := uI (uI C 145 51 v) 145 44 (cI (uI C 145 51 v) 145 46)
/-- wants: not so -/
theorem m170f {v : Int32} {k : Nat} (hp : Pm C h x N i) (hk : 1 ≤ k ∧ k ≤ 4) (ev : v = nI k) : f_170 n 145 0 v C = some (0, wF C v) ∧ FltM (wF C v) x N k i ∧ FrZ W0 C (wF C v) := by
  have g := hp.2.2.2.2.2.1
  have v0 : ¬ v = 0 := by rw [ev, x_eq0 (by omega)]; omega
  have e : cI (wF C v) 145 51 = v := by unfold wF; rw [r_I, if_neg (by omega), r_I, if_pos ⟨rfl, rfl⟩]
  refine ⟨?_, ⟨hk.1, hk.2, by rw [e, ev], ?_⟩, ?_⟩
  · unfold f_170
    rw [if_pos k_145, if_neg (fun z => z g), if_neg (fun z => z rfl)]
    have : ¬ cI (uI (uI C 145 51 v) 145 44 (cI (uI C 145 51 v) 145 46)) 145 51 = 0 := by
      intro z
      exact v0 (e.symm.trans z)
    rw [if_pos this]
    rfl
  · unfold wF
    rw [r_I, if_pos ⟨rfl, rfl⟩, r_I, if_neg (by omega)]
    exact hp.2.2.2.2.1.1
  · unfold wF
    exact ((FrZ.refl C).u (by unfold W0; omega)).u (by unfold W0; omega)
theorem mIs {w : Nat} {v : Int32} (hp : Pm C h x N i) (hw : w < 17) (ev : v = nI (mp w)) : f_171 n 145 v C = some (if tK x N i = 200 + w then 1 else 0, C) := by
  rw [ev]
  exact m171 hw hp.at hp.2.2.2.2.2.1
theorem mSg {c : Nat} {v : Int32} (hp : Pm C h x N i) (hc : isSg c = true) (ev : v = nI c) : f_172 n 145 v C = some (if tK x N i = c then 1 else 0, C) := by
  rw [ev]
  exact m172 hc hp.at hp.2.2.2.2.2.1
theorem b10 {p : Prop} [Decidable p] : ((if p then (1 : Int32) else 0) = 0) ↔ ¬ p := by
  by_cases hp : p
  · rw [if_pos hp]; exact ⟨fun z => absurd z (by decide), fun z => absurd hp z⟩
  · rw [if_neg hp]; exact ⟨fun _ => hp, fun _ => rfl⟩
theorem m173 {c : Nat} {v : Int32} (hn : 1100 ≤ n) (hp : Pm C h x N i) (hc : isSg c = true) (ev : v = nI c) : Rt (f_173 n 145 v C) (fun _ C' => FrZ W0 C C' ∧ PRm C' h x N (spP x N c i) (fun _ _ => True)) := by
  unfold f_173 spP
  rw [if_pos k_145, bd1 (mSg hp hc ev)]
  dsimp only
  by_cases e : tK x N i = c
  · rw [if_pos e, if_pos e, bd1 (m170t hp (by decide))]
    dsimp only
    rw [if_neg (by decide)]
    refine rt_bind (rt_mono (hp.go hn) (fun _ D H => ?_))
    exact rt_ret ⟨H.2, Or.inr ⟨(), i + 1, rfl, H.1, trivial⟩⟩
  · obtain ⟨q1, q2, q3⟩ := m170f (n := n) (k := 1) (v := 1) hp (by omega) rfl
    rw [if_neg e, if_neg e, bd1 q1]
    dsimp only
    rw [if_pos rfl]
    exact rt_ret ⟨q3, Or.inl ⟨1, i, rfl, q2⟩⟩
/-- what sort of token it is -/
theorem at_2 {K v : Nat} (g : AtT C K v) : (cI C 145 48 = 2 ↔ K = 128 ∨ K = 129) ∧ (K = 128 → cI C 145 49 = nI v ∧ v ≤ 9999) ∧ (K = 129 → cI C 145 49 = nI 99999) := by
  rcases g with ⟨a, b, _⟩ | ⟨a, b, c, d, _⟩ | ⟨a, b, c, _⟩ | ⟨a, b, _⟩ | ⟨k, d, a, b, _⟩ | ⟨a, b, _⟩ | ⟨a, b, e, _⟩
  · exact ⟨⟨fun z => absurd (b.symm.trans z) (by decide), fun z => by omega⟩, fun z => by omega, fun z => by omega⟩
  · exact ⟨⟨fun _ => Or.inl a, fun _ => b⟩, fun _ => ⟨c, d⟩, fun z => by omega⟩
  · exact ⟨⟨fun _ => Or.inr a, fun _ => b⟩, fun z => by omega, fun _ => c⟩
  · exact ⟨⟨fun z => absurd (b.symm.trans z) (by decide), fun z => by omega⟩, fun z => by omega, fun z => by omega⟩
  · exact ⟨⟨fun z => absurd (b.symm.trans z) (by decide), fun z => by omega⟩, fun z => by omega, fun z => by omega⟩
  · exact ⟨⟨fun z => by rcases b with b | b <;> exact absurd (b.symm.trans z) (by decide), fun z => by omega⟩, fun z => by omega, fun z => by omega⟩
  · have := sg_ne a
    exact ⟨⟨fun z => absurd (b.symm.trans z) (by decide), fun z => by omega⟩, fun z => by omega, fun z => by omega⟩
theorem at_1 {K v : Nat} (g : AtT C K v) : (cI C 145 48 = 1 → 200 ≤ K ∨ K = 130 ∨ K = 131) ∧ (200 ≤ K ∨ K = 130 → cI C 145 48 = 1) ∧ (K = 130 → v < 4 ∧ cI C 145 50 = nI (17 + v)) ∧ (∀ k, K = 200 + k → k < 17 ∧ cI C 145 50 = nI (mp k)) ∧ (¬ K = 130 → ¬ 200 ≤ K → cI C 145 50 = -1) := by
  rcases g with ⟨a, b, c⟩ | ⟨a, b, _, _, c⟩ | ⟨a, b, _, c⟩ | ⟨a, b, d, c⟩ | ⟨k, d, a, b, c⟩ | ⟨a, b, c⟩ | ⟨a, b, _, c⟩
  · exact ⟨fun z => absurd (b.symm.trans z) (by decide), fun z => by omega, fun z => by omega, fun k z => by omega, fun _ _ => c⟩
  · exact ⟨fun z => absurd (b.symm.trans z) (by decide), fun z => by omega, fun z => by omega, fun k z => by omega, fun _ _ => c⟩
  · exact ⟨fun z => absurd (b.symm.trans z) (by decide), fun z => by omega, fun z => by omega, fun k z => by omega, fun _ _ => c⟩
  · exact ⟨fun _ => Or.inr (Or.inl a), fun _ => b, fun _ => ⟨d, c⟩, fun k z => by omega, fun z => absurd a z⟩
  · exact ⟨fun _ => Or.inl (by omega), fun _ => b, fun z => by omega, fun k' z => by
      have : k' = k := by omega
      subst this
      exact ⟨d, c⟩, fun _ z => by omega⟩
  · exact ⟨fun _ => Or.inr (Or.inr a), fun z => by omega, fun z => by omega, fun k z => by omega, fun _ _ => c⟩
  · have := sg_ne a
    exact ⟨fun z => absurd (b.symm.trans z) (by decide), fun z => by omega, fun z => by omega, fun k z => by omega, fun _ _ => c⟩
theorem mp_lt {k : Nat} (hk : k < 17) : mp k < 17 := by
  unfold mp
  split <;> (try split) <;> omega
/-- isColumnWord -/
theorem m175 (hp : Pm C h x N i) : f_175 n 145 C = some (if tK x N i = 130 then 1 else 0, C) := by
  obtain ⟨a1, a2, a3, a4, a5⟩ := at_1 hp.at
  have n17 : (17 : Int32) = nI 17 := rfl
  unfold f_175
  rw [if_pos k_145]
  by_cases e : tK x N i = 130
  · rw [if_neg (fun z => z (a2 (Or.inr e))), (a3 e).2, n17, if_neg (by rw [x_lt (by have := (a3 e).1; omega) (by omega)]; omega), if_pos e]
  · rw [if_neg e]
    by_cases e1 : cI C 145 48 = 1
    · rw [if_neg (fun z => z e1)]
      rcases a1 e1 with g | g | g
      · obtain ⟨k, ek⟩ : ∃ k, tK x N i = 200 + k := ⟨tK x N i - 200, by omega⟩
        obtain ⟨k1, k2⟩ := a4 k ek
        have := mp_lt k1
        rw [k2, n17, if_pos ((x_lt (by omega) (by omega)).mpr this)]
      · exact absurd g e
      · rw [a5 e (by omega), if_pos (by decide)]
    · rw [if_pos e1]
/-- a number behind its sign -/
theorem m174n (ng : Bool) (hn : 1100 ≤ n) (hp : Pm C h x N j) : Rt (if ¬ (cI C 145 48) = (2 : Int32) then (f_170 n 145 (0 : Int32) (1 : Int32) C).bind (fun z => match z with | (q65, C66) => (if q65 = 0 then some ((0 : Int32), C66) else (if (9999 : Int32) < (cI C66 145 49) then (f_170 n 145 (0 : Int32) (2 : Int32) C66).bind (fun z => match z with | (q70, C71) => (if ¬ q70 = 0 then (if (if ng = true then (1 : Int32) else 0) = 0 then (f_169 n 145 C71).bind (fun z => match z with | (_, C76) => some ((cI C71 145 49), C76)) else (f_169 n 145 C71).bind (fun z => match z with | (_, C79) => some ((-(cI C71 145 49)), C79))) else some ((0 : Int32), C71))) else (f_170 n 145 (1 : Int32) (2 : Int32) C66).bind (fun z => match z with | (q81, C82) => (if ¬ q81 = 0 then (if (if ng = true then (1 : Int32) else 0) = 0 then (f_169 n 145 C82).bind (fun z => match z with | (_, C87) => some ((cI C82 145 49), C87)) else (f_169 n 145 C82).bind (fun z => match z with | (_, C90) => some ((-(cI C82 145 49)), C90))) else some ((0 : Int32), C82)))))) else (f_170 n 145 (1 : Int32) (1 : Int32) C).bind (fun z => match z with | (q92, C93) => (if q92 = 0 then some ((0 : Int32), C93) else (if (9999 : Int32) < (cI C93 145 49) then (f_170 n 145 (0 : Int32) (2 : Int32) C93).bind (fun z => match z with | (q97, C98) => (if ¬ q97 = 0 then (if (if ng = true then (1 : Int32) else 0) = 0 then (f_169 n 145 C98).bind (fun z => match z with | (_, C103) => some ((cI C98 145 49), C103)) else (f_169 n 145 C98).bind (fun z => match z with | (_, C106) => some ((-(cI C98 145 49)), C106))) else some ((0 : Int32), C98))) else (f_170 n 145 (1 : Int32) (2 : Int32) C93).bind (fun z => match z with | (q108, C109) => (if ¬ q108 = 0 then (if (if ng = true then (1 : Int32) else 0) = 0 then (f_169 n 145 C109).bind (fun z => match z with | (_, C114) => some ((cI C109 145 49), C114)) else (f_169 n 145 C109).bind (fun z => match z with | (_, C117) => some ((-(cI C109 145 49)), C117))) else some ((0 : Int32), C109))))))) (fun z C' => FrZ W0 C C' ∧ PRm C' h x N (spN x N ng j) (fun v _ => z = v)) := by
  obtain ⟨a1, a2, a3⟩ := at_2 hp.at
  have n9 : (9999 : Int32) = nI 9999 := rfl
  by_cases e : tK x N j = 129
  · rw [if_neg (fun z => z (a1.mpr (Or.inr e))), bd1 (m170t hp (by decide))]
    dsimp only
    obtain ⟨q1, q2, q3⟩ := m170f (n := n) (k := 2) (v := 2) hp (by omega) rfl
    rw [if_neg (by decide), a3 e, n9, if_pos ((x_lt (by omega) (by omega)).mpr (by omega)), bd1 q1]
    dsimp only
    rw [if_neg (fun z => z rfl)]
    exact rt_ret ⟨q3, Or.inl ⟨2, j, by unfold spN; rw [if_pos e], q2⟩⟩
  · by_cases e8 : tK x N j = 128
    · obtain ⟨b1, b2⟩ := a2 e8
      rw [if_neg (fun z => z (a1.mpr (Or.inl e8))), bd1 (m170t hp (by decide))]
      dsimp only
      rw [if_neg (by decide), b1, n9, if_neg (by rw [x_lt (by omega) (by omega)]; omega), bd1 (m170t hp (by decide))]
      dsimp only
      rw [if_pos (by decide), b1]
      have er : spN x N ng j = .inr (if ng = true then -nI (tN x N j) else nI (tN x N j), j + 1) := by unfold spN; rw [if_neg e, if_pos e8]
      rw [er]
      cases ng
      · rw [if_pos (by decide)]
        refine rt_bind (rt_mono (hp.go hn) (fun _ D H => ?_))
        exact rt_ret ⟨H.2, Or.inr ⟨_, j + 1, rfl, H.1, rfl⟩⟩
      · rw [if_neg (by decide)]
        refine rt_bind (rt_mono (hp.go hn) (fun _ D H => ?_))
        exact rt_ret ⟨H.2, Or.inr ⟨_, j + 1, rfl, H.1, rfl⟩⟩
    · obtain ⟨q1, q2, q3⟩ := m170f (n := n) (k := 1) (v := 1) hp (by omega) rfl
      rw [if_pos (fun z => by rcases a1.mp z with z | z; exact e8 z; exact e z), bd1 q1]
      dsimp only
      rw [if_pos rfl]
      exact rt_ret ⟨q3, Or.inl ⟨1, j, by unfold spN; rw [if_neg e, if_neg e8], q2⟩⟩
theorem m174 (hn : 1100 ≤ n) (hp : Pm C h x N i) : Rt (f_174 n 145 C) (fun z C' => FrZ W0 C C' ∧ PRm C' h x N (spS x N i) (fun v _ => z = v)) := by
  unfold f_174 spS
  rw [if_pos k_145, bd1 (mSg (c := 45) (v := 45) hp (by decide) rfl)]
  dsimp only
  by_cases e : tK x N i = 45
  · rw [if_pos e, if_pos e, if_neg (by decide)]
    refine rt_bind (rt_mono (hp.go hn) (fun _ D H => ?_))
    dsimp only
    exact rt_mono (m174n true hn H.1) (fun z D2 H2 => ⟨H.2.trans H2.1, H2.2⟩)
  · rw [if_neg e, if_neg e, if_pos rfl]
    exact m174n false hn hp
/-- column -/
theorem m176 {cols : Nat} (hn : 1100 ≤ n) (hp : Pm C h x N i) (hc : cI C 159 h = nI cols) (h4 : cols ≤ 4) : Rt (f_176 n 145 C) (fun z C' => FrZ W0 C C' ∧ PRm C' h x N (spC x N cols i) (fun c _ => z = nI c)) := by
  obtain ⟨_, _, a3, _, _⟩ := at_1 hp.at
  have hh := hp.2.1
  have n17 : (17 : Int32) = nI 17 := rfl
  unfold f_176 spC
  rw [if_pos k_145, bd1 (m175 hp)]
  dsimp only
  by_cases e : tK x N i = 130
  · obtain ⟨b1, b2⟩ := a3 e
    rw [if_pos e, if_pos e, bd1 (m170t hp (by decide))]
    dsimp only
    rw [if_neg (by decide), bd1 (w_145_21 hp.1), if_pos k_159, l_159, hp.2.2.1, if_pos ((x_in (by omega)).mpr hh), x_cl (by omega), hc, b2, n17, x_sub (by omega), show 17 + tN x N i - 17 = tN x N i by omega]
    by_cases g : tN x N i < cols
    · rw [if_neg (by rw [x_le (by omega) (by omega)]; omega), if_pos g, bd1 (m170t hp (by decide))]
      dsimp only
      rw [if_pos (by decide), b2, x_sub (by omega), show 17 + tN x N i - 17 = tN x N i by omega]
      refine rt_bind (rt_mono (hp.go hn) (fun _ D H => ?_))
      exact rt_ret ⟨H.2, Or.inr ⟨_, i + 1, rfl, H.1, rfl⟩⟩
    · obtain ⟨q1, q2, q3⟩ := m170f (n := n) (k := 3) (v := 3) hp (by omega) rfl
      rw [if_pos ((x_le (by omega) (by omega)).mpr (by omega)), if_neg g, bd1 q1]
      dsimp only
      rw [if_neg (fun z => z rfl)]
      exact rt_ret ⟨q3, Or.inl ⟨3, i, rfl, q2⟩⟩
  · obtain ⟨q1, q2, q3⟩ := m170f (n := n) (k := 1) (v := 1) hp (by omega) rfl
    rw [if_neg e, if_neg e, bd1 q1]
    dsimp only
    rw [if_pos rfl]
    exact rt_ret ⟨q3, Or.inl ⟨1, i, rfl, q2⟩⟩
end
