/-! Integer.bitCount counts bits. -/
def ush (x k : Int32) : Int32 := (x.toUInt32 >>> (k.toUInt32 &&& Int32.toUInt32 31)).toInt32
theorem f288_eq (n : Nat) (x : Int32) (C : AmC) : ∃ b1 b2 b3 b4, b1 = x - (ush x 1 &&& 1431655765) ∧ b2 = (b1 &&& 858993459) + (ush b1 2 &&& 858993459) ∧ b3 = (b2 + ush b2 4) &&& 252645135 ∧ b4 = b3 + ush b3 8 ∧ f_288 n x C = some ((b4 + ush b4 16) &&& 63, C) := ⟨_, _, _, _, rfl, rfl, rfl, rfl, rfl⟩
theorem and8 {a c : Nat} (b d : Nat) (ha : a < 256) (hc : c < 256) : (a + 256 * b) &&& (c + 256 * d) = (a &&& c) + 256 * (b &&& d) := by
  have h1 : a &&& c < 2 ^ 8 := Nat.lt_of_le_of_lt Nat.and_le_left ha
  apply Nat.eq_of_testBit_eq
  intro i
  rw [Nat.add_comm a, Nat.add_comm c, Nat.add_comm (a &&& c), show (256 : Nat) = 2 ^ 8 from rfl, Nat.testBit_and, Nat.testBit_two_pow_mul_add _ ha, Nat.testBit_two_pow_mul_add _ hc, Nat.testBit_two_pow_mul_add _ h1]
  by_cases z : i < 8
  · simp [z]
  · simp [z]
def g1 (a : Nat) : Nat := a - (a / 2 &&& 85)
def g2 (b : Nat) : Nat := (b &&& 51) + (b / 4 &&& 51)
def pcb (a : Nat) : Nat := qo (fun p s => if a.testBit p = true then s + 1 else s) 8 0 0
set_option maxRecDepth 100000 in
theorem g1_ok : ∀ a, a < 256 → (a / 2 &&& 85) ≤ a ∧ g1 a < 256 ∧ ∀ t, t < 2 → (a / 2 + 128 * t) &&& 85 = a / 2 &&& 85 := by decide +kernel
set_option maxRecDepth 100000 in
theorem g2_ok : ∀ b, b < 256 → (b &&& 51) ≤ 51 ∧ (b / 4 &&& 51) ≤ 51 ∧ ∀ t, t < 4 → (b / 4 + 64 * t) &&& 51 = b / 4 &&& 51 := by decide +kernel
set_option maxRecDepth 100000 in
theorem g3_ok : ∀ a, a < 256 → g2 (g1 a) ≤ 68 ∧ g2 (g1 a) % 16 ≤ 4 ∧ pcb a ≤ 8 ∧ ∀ t, t < 5 → (g2 (g1 a) + g2 (g1 a) / 16 + 16 * t) &&& 15 = pcb a := by decide +kernel
theorem ush_n {v : Nat} (hv : v < 4294967296) (s : Int32) (k : Nat) (hs : ((s.toUInt32 &&& Int32.toUInt32 31).toBitVec % 32).toNat = k) : ush (nI v) s = nI (v / 2 ^ k) := pk_ushrN hv s k hs
theorem pop_n (n : Nat) (C : AmC) {a0 a1 a2 a3 : Nat} (h0 : a0 < 256) (h1 : a1 < 256) (h2 : a2 < 256) (h3 : a3 < 256) : f_288 n (nI (a0 + 256 * (a1 + 256 * (a2 + 256 * a3)))) C = some (nI (pcb a0 + pcb a1 + pcb a2 + pcb a3), C) := by
  obtain ⟨b1, b2, b3, b4, e1, e2, e3, e4, e5⟩ := f288_eq n (nI (a0 + 256 * (a1 + 256 * (a2 + 256 * a3)))) C
  rw [e5]
  obtain ⟨p01, p02, p03⟩ := g1_ok a0 h0
  obtain ⟨p11, p12, p13⟩ := g1_ok a1 h1
  obtain ⟨p21, p22, p23⟩ := g1_ok a2 h2
  obtain ⟨p31, p32, p33⟩ := g1_ok a3 h3
  -- first
  have s1 : b1 = nI (g1 a0 + 256 * (g1 a1 + 256 * (g1 a2 + 256 * g1 a3))) := by
    rw [e1, ush_n (by omega) 1 1 (by decide), show (1431655765 : Int32) = nI (85 + 256 * (85 + 256 * (85 + 256 * 85))) from rfl, nx_and]
    have d : (a0 + 256 * (a1 + 256 * (a2 + 256 * a3))) / 2 ^ 1 = (a0 / 2 + 128 * (a1 % 2)) + 256 * ((a1 / 2 + 128 * (a2 % 2)) + 256 * ((a2 / 2 + 128 * (a3 % 2)) + 256 * (a3 / 2))) := by omega
    rw [d, and8 _ _ (by omega) (by omega), and8 _ _ (by omega) (by omega), and8 _ _ (by omega) (by omega), p03 _ (by omega), p13 _ (by omega), p23 _ (by omega)]
    rw [pk_sub (by omega)]
    congr 1
    unfold g1
    omega
  have q0 : g1 a0 < 256 := p02
  obtain ⟨r01, r02, r03⟩ := g2_ok _ p02
  obtain ⟨r11, r12, r13⟩ := g2_ok _ p12
  obtain ⟨r21, r22, r23⟩ := g2_ok _ p22
  obtain ⟨r31, r32, r33⟩ := g2_ok _ p32
  -- second
  have s2 : b2 = nI (g2 (g1 a0) + 256 * (g2 (g1 a1) + 256 * (g2 (g1 a2) + 256 * g2 (g1 a3)))) := by
    rw [e2, s1, ush_n (by omega) 2 2 (by decide), show (858993459 : Int32) = nI (51 + 256 * (51 + 256 * (51 + 256 * 51))) from rfl, nx_and, nx_and]
    have d : (g1 a0 + 256 * (g1 a1 + 256 * (g1 a2 + 256 * g1 a3))) / 2 ^ 2 = (g1 a0 / 4 + 64 * (g1 a1 % 4)) + 256 * ((g1 a1 / 4 + 64 * (g1 a2 % 4)) + 256 * ((g1 a2 / 4 + 64 * (g1 a3 % 4)) + 256 * (g1 a3 / 4))) := by omega
    rw [d, and8 _ _ p02 (by omega), and8 _ _ p12 (by omega), and8 _ _ p22 (by omega), and8 _ _ (by omega) (by omega), and8 _ _ (by omega) (by omega), and8 _ _ (by omega) (by omega), r03 _ (by omega), r13 _ (by omega), r23 _ (by omega), x_add]
    congr 1
    unfold g2
    omega
  obtain ⟨u01, u02, u03, u04⟩ := g3_ok a0 h0
  obtain ⟨u11, u12, u13, u14⟩ := g3_ok a1 h1
  obtain ⟨u21, u22, u23, u24⟩ := g3_ok a2 h2
  obtain ⟨u31, u32, u33, u34⟩ := g3_ok a3 h3
  -- third
  have s3 : b3 = nI (pcb a0 + 256 * (pcb a1 + 256 * (pcb a2 + 256 * pcb a3))) := by
    rw [e3, s2, ush_n (by omega) 4 4 (by decide), x_add, show (252645135 : Int32) = nI (15 + 256 * (15 + 256 * (15 + 256 * 15))) from rfl, nx_and]
    have d : (g2 (g1 a0) + 256 * (g2 (g1 a1) + 256 * (g2 (g1 a2) + 256 * g2 (g1 a3)))) + (g2 (g1 a0) + 256 * (g2 (g1 a1) + 256 * (g2 (g1 a2) + 256 * g2 (g1 a3)))) / 2 ^ 4 = (g2 (g1 a0) + g2 (g1 a0) / 16 + 16 * (g2 (g1 a1) % 16)) + 256 * ((g2 (g1 a1) + g2 (g1 a1) / 16 + 16 * (g2 (g1 a2) % 16)) + 256 * ((g2 (g1 a2) + g2 (g1 a2) / 16 + 16 * (g2 (g1 a3) % 16)) + 256 * (g2 (g1 a3) + g2 (g1 a3) / 16 + 16 * 0))) := by omega
    rw [d, and8 _ _ (by omega) (by omega), and8 _ _ (by omega) (by omega), and8 _ _ (by omega) (by omega), u04 _ (by omega), u14 _ (by omega), u24 _ (by omega), u34 0 (by omega)]
  have s4 : b4 = nI ((pcb a0 + 256 * (pcb a1 + 256 * (pcb a2 + 256 * pcb a3))) + (pcb a1 + 256 * (pcb a2 + 256 * pcb a3))) := by
    rw [e4, s3, ush_n (by omega) 8 8 (by decide), x_add]
    congr 1
    omega
  rw [s4, ush_n (by omega) 16 16 (by decide), x_add, show (63 : Int32) = nI (2 ^ 6 - 1) from rfl, nx_and, Nat.and_two_pow_sub_one_eq_mod]
  congr 2
  congr 1
  clear s1 s2 s3 s4 e1 e2 e3 e4 e5 u04 u14 u24 u34 u01 u02 u11 u12 u21 u22 u31 u32 p01 p02 p03 p11 p12 p13 p21 p22 p23 p31 p32 p33 r01 r02 r03 r11 r12 r13 r21 r22 r23 r31 r32 r33 q0
  generalize pcb a0 = c0 at *
  generalize pcb a1 = c1 at *
  generalize pcb a2 = c2 at *
  generalize pcb a3 = c3 at *
  have d : (c0 + 256 * (c1 + 256 * (c2 + 256 * c3)) + (c1 + 256 * (c2 + 256 * c3))) / 2 ^ 16 = (c2 + c3) + 256 * c3 := by omega
  rw [d]
  show _ % 64 = _
  omega
theorem bt_n {v i : Nat} (hv : v < 4294967296) : bt (nI v) i = v.testBit i := by
  unfold bt
  show (BitVec.ofNat 32 v).getLsbD i = _
  rw [BitVec.getLsbD_ofNat]
  by_cases h : i < 32
  · simp [h]
  · have : v.testBit i = false := Nat.testBit_lt_two_pow (Nat.lt_of_lt_of_le hv (Nat.pow_le_pow_right (n := 2) (by decide) (show 32 ≤ i by omega)))
    simp [h, this]
theorem qo_add {α : Type} {g : Nat → α → α} : ∀ k l j a, qo g (k + l) j a = qo g l (j + k) (qo g k j a) := by
  intro k
  induction k with
  | zero => intro l j a; simp [qo]
  | succ k ih =>
    intro l j a
    rw [show k + 1 + l = (k + l) + 1 from by omega, qo, qo, ih l (j + 1) (g j a), show j + 1 + k = j + (k + 1) from by omega]
theorem qo_cnt {f : Nat → Bool} : ∀ k j x, qo (fun p s => if f p = true then s + 1 else s) k j x = x + qo (fun p s => if f (p + j) = true then s + 1 else s) k 0 0 := by
  intro k
  induction k with
  | zero => intro j x; simp [qo]
  | succ k ih =>
    intro j x
    have e1 := ih (j + 1) (if f j = true then x + 1 else x)
    rw [qo, e1, qo]
    have e2 : qo (fun p s => if f (p + j) = true then s + 1 else s) k 1 (if f (0 + j) = true then 0 + 1 else 0) = (if f (0 + j) = true then 0 + 1 else 0) + qo (fun p s => if f (p + 1 + j) = true then s + 1 else s) k 0 0 := by
      have ih2 : ∀ k j x, qo (fun p s => if f (p + j) = true then s + 1 else s) k 1 x = x + qo (fun p s => if f (p + 1 + j) = true then s + 1 else s) k 0 0 := by
        clear ih e1 k j x
        intro k j
        have gen : ∀ k i x, qo (fun p s => if f (p + j) = true then s + 1 else s) k (i + 1) x = x + qo (fun p s => if f (p + 1 + j) = true then s + 1 else s) k i 0 := by
          intro k
          induction k with
          | zero => intro i x; simp [qo]
          | succ k ih3 =>
            intro i x
            rw [qo, ih3 (i + 1), qo]
            have : ∀ y, qo (fun p s => if f (p + 1 + j) = true then s + 1 else s) k (i + 1) y = y + qo (fun p s => if f (p + 1 + j) = true then s + 1 else s) k (i + 1) 0 := by
              intro y
              have w : ∀ k i y, qo (fun p s => if f (p + 1 + j) = true then s + 1 else s) k i y = y + qo (fun p s => if f (p + 1 + j) = true then s + 1 else s) k i 0 := by
                clear ih3
                intro k
                induction k with
                | zero => intro i y; simp [qo]
                | succ k ih4 =>
                  intro i y
                  rw [qo, qo, ih4 (i + 1) (if f (i + 1 + j) = true then y + 1 else y), ih4 (i + 1) (if f (i + 1 + j) = true then 0 + 1 else 0)]
                  split <;> omega
              exact w k (i + 1) y
            rw [this (if f (i + 1 + j) = true then 0 + 1 else 0)]
            split <;> omega
        intro x
        exact gen k 0 x
      exact ih2 k j _
    rw [Nat.zero_add, e2, Nat.zero_add]
    have e3 : (fun (p : Nat) (s : Nat) => if f (p + (j + 1)) = true then s + 1 else s) = (fun p s => if f (p + 1 + j) = true then s + 1 else s) := by
      funext p s
      rw [show p + (j + 1) = p + 1 + j from by omega]
    rw [e3]
    split <;> omega
theorem c288 {n : Nat} {C : AmC} {w : Int32} {T : Tab} (h1 : ∀ p, p < 30 → bt w p = T.1 p) (h2 : ∀ p, 30 ≤ p → bt w p = false) : f_288 n w C = some (nI (sSize T), C) := by
  obtain ⟨v, hv, rfl⟩ : ∃ v, v < 4294967296 ∧ w = nI v := ⟨w.toBitVec.toNat, w.toBitVec.isLt, by
    apply Int32.toBitVec_inj.1
    show w.toBitVec = BitVec.ofNat 32 w.toBitVec.toNat
    simp⟩
  have dv : v = v % 256 + 256 * (v / 256 % 256 + 256 * (v / 65536 % 256 + 256 * (v / 16777216))) := by omega
  have P := pop_n n C (a0 := v % 256) (a1 := v / 256 % 256) (a2 := v / 65536 % 256) (a3 := v / 16777216) (by omega) (by omega) (by omega) (by omega)
  rw [← dv] at P
  rw [P]
  congr 2
  congr 1
  have tb : ∀ k j (a : Nat), (∀ i, i < 8 → v.testBit (i + j) = a.testBit i) → qo (fun p s => if v.testBit p = true then s + 1 else s) 8 j k = k + pcb a := by
    intro k j a h
    rw [qo_cnt (f := fun p => v.testBit p)]
    unfold pcb
    rw [qo_cong (g := fun p s => if a.testBit p = true then s + 1 else s)]
    intro q b _ hq
    simp only [h q (by omega)]
  have q32 : qo (fun p s => if v.testBit p = true then s + 1 else s) 32 0 0 = pcb (v % 256) + pcb (v / 256 % 256) + pcb (v / 65536 % 256) + pcb (v / 16777216) := by
    have y0 : ∀ i, i < 8 → v.testBit (i + 0) = (v % 256).testBit i := fun i hi => by
      rw [show (256 : Nat) = 2 ^ 8 from rfl, Nat.testBit_mod_two_pow]; simp [hi]
    have y1 : ∀ i, i < 8 → v.testBit (i + (0 + 8)) = (v / 256 % 256).testBit i := fun i hi => by
      rw [show v / 256 % 256 = v / 2 ^ 8 % 2 ^ 8 from rfl, Nat.testBit_mod_two_pow, Nat.testBit_div_two_pow]; simp [hi]
    have y2 : ∀ i, i < 8 → v.testBit (i + (0 + 8 + 8)) = (v / 65536 % 256).testBit i := fun i hi => by
      rw [show v / 65536 % 256 = v / 2 ^ 16 % 2 ^ 8 from rfl, Nat.testBit_mod_two_pow, Nat.testBit_div_two_pow]; simp [hi]
    have y3 : ∀ i, i < 8 → v.testBit (i + (0 + 8 + 8 + 8)) = (v / 16777216).testBit i := fun i hi => by
      rw [show v / 16777216 = v / 2 ^ 24 from rfl, Nat.testBit_div_two_pow]
    rw [show (32 : Nat) = 8 + (8 + (8 + 8)) from rfl, qo_add, qo_add, qo_add, tb 0 0 (v % 256) y0, tb _ (0 + 8) (v / 256 % 256) y1, tb _ (0 + 8 + 8) (v / 65536 % 256) y2, tb _ (0 + 8 + 8 + 8) (v / 16777216) y3]
    omega
  rw [← q32]
  unfold sSize
  rw [show (32 : Nat) = 30 + 2 from rfl, qo_add]
  have t30 : v.testBit (0 + 30) = false := by rw [← bt_n hv]; exact h2 _ (by omega)
  have t31 : v.testBit (0 + 30 + 1) = false := by rw [← bt_n hv]; exact h2 _ (by omega)
  have last : ∀ x, qo (fun p s => if v.testBit p = true then s + 1 else s) 2 (0 + 30) x = x := fun x => by
    show (fun p s => if v.testBit p = true then s + 1 else s) (0 + 30 + 1) ((fun p s => if v.testBit p = true then s + 1 else s) (0 + 30) x) = x
    simp only [↓reduceIte, t30, t31, Bool.false_eq_true, if_false]
  rw [last]
  refine qo_cong (fun q b _ hq => ?_)
  rw [← bt_n hv, h1 q (by omega)]
theorem c81 {n : Nat} {C : AmC} {r cols : Nat} {T : Tab} (h : RwK C r) (hT : TabC cols C r T) : f_81 n r C = some (nI (sSize T), C) := by
  unfold f_81
  simp only [↓reduceIte, h.1, if_true, c288 hT.1 hT.2.1, Option.bind_some]
