/-! feed: numbers are taken to pieces, onto the tape. -/
theorem t8_eq {x y : Int32} (h : ∀ i, i < 8 → bt x i = bt y i) : x.toInt8 = y.toInt8 := by
  apply Int8.toBitVec_inj.mp
  apply BitVec.eq_of_getLsbD_eq
  intro i hi
  have a : ∀ z : Int32, (z.toInt8).toBitVec.getLsbD i = bt z i := by
    intro z
    rw [Int32.toBitVec_toInt8, BitVec.getLsbD_signExtend]
    unfold bt
    simp [hi, show i < 32 by omega]
  rw [a, a]
  exact h i hi
def bytI (v : Int32) (r : Nat) : Int32 := (v >>> (nI (24 - 8 * r) &&& 31)) &&& 255
theorem byt_c (v : Int32) {r : Nat} (hr : r < 4) : (Int32.toInt8 ((Int32.toInt8 ((Int32.toUInt32 v >>> (Int32.toUInt32 (nI (24 - 8 * r)) &&& Int32.toUInt32 31)).toInt32)).toInt32)).toInt32 = (bytI v r).toInt8.toInt32 := by
  have e : ∀ z : Int8, z.toInt32.toInt8 = z := fun z => by simp
  rw [e]
  congr 1
  apply t8_eq
  intro i hi
  unfold bytI
  rw [b_ushr _ (by omega), b_and, b_255, b_sshr _ (by omega) _ (by omega), if_pos (by omega)]
  simp [hi]
theorem byt_lt (v : Int32) (r : Nat) : ∃ w, w < 256 ∧ bytI v r = nI w := by
  have hb : ∀ i, 8 ≤ i → bt (bytI v r) i = false := fun i hi => by
    unfold bytI
    rw [b_and, b_255]
    simp [show ¬ i < 8 by omega]
  generalize bytI v r = x at hb
  have h1 : x.toBitVec.toNat < 256 := by
    have : x.toBitVec.toNat < 2 ^ 8 := by
      apply Nat.lt_pow_two_of_testBit
      intro i hi
      have := hb i hi
      unfold bt BitVec.getLsbD at this
      exact this
    omega
  refine ⟨x.toBitVec.toNat, h1, ?_⟩
  apply Int32.toBitVec_inj.mp
  apply BitVec.eq_of_toNat_eq
  show x.toBitVec.toNat = (BitVec.ofNat 32 x.toBitVec.toNat).toNat
  rw [BitVec.toNat_ofNat, Nat.mod_eq_of_lt (by omega)]
def fdW (a b c d e : Int32) (q : Nat) : Int32 := if q < 4 then a else if q < 8 then b else if q < 12 then c else if q < 16 then d else e
def fdT (B : Big) (a b c d e : Int32) (k : Nat) : Int32 := if bN B ≤ k ∧ k < bN B + 20 then bytI (fdW a b c d e (k - bN B)) ((k - bN B) % 4) else bT B k
def bFed (B : Big) (a b c d e : Int32) : Big := if bN B + 20 ≤ 900 then (bS B, (bN B + 20, fdT B a b c d e, bF B), bZ B, bI B) else B
def sFed (B : Big) : Int32 := if bN B + 20 ≤ 900 then nI (bN B + 20) else -1
theorem bFed_ok {B : Big} {a b c d e : Int32} (hB : BigOK B) : BigOK (bFed B a b c d e) := by
  unfold bFed
  split
  · rename_i l
    refine ⟨hB.1, l, fun k hk => ?_, hB.2.2.2.1, hB.2.2.2.2⟩
    show ∃ v, v < 256 ∧ fdT B a b c d e k = nI v
    have hk : k < bN B + 20 := hk
    unfold fdT
    split
    · exact byt_lt _ _
    · exact hB.2.2.1 k (by omega)
  · exact hB
section
variable {n : Nat} {C C' : AmC} {s h : Nat} {B : Big} {S : Scr}
theorem c142_s {N r : Nat} {v : Int32} (hP : PInv C) (e1 : cI C 0 1 = nI N) (hN : N < 900) (hr : r < 4) : lp_142_2 (n + 1) 0 v (nI (24 - 8 * r)) C = lp_142_2 n 0 v (nI (24 - 8 * r) + (-8 : Int32)) (uI (uI C 1 N (bytI v r).toInt8.toInt32) 0 1 (nI (N + 1))) := by
  have b1 : ¬ 900 ≤ N := by omega
  have k1 : isK 1 11 = true := k_1
  have l1 : aLen 1 = 900 := l_1
  have q : ∀ w, cI (uI C 1 N w) 0 1 = nI N := fun w => by rw [r_In (by decide)]; exact e1
  rw [lp_142_2]
  simp (disch := omega) only [↓reduceIte, x_lt0, if_false, k_0, if_true, e1, n_900, x_le, b1, ↓bd1 (w_0_0 hP), k1, l1, x_in, x_cl, hN, byt_c v hr, q, x_a1]
theorem c142 {N : Nat} {v : Int32} (hP : PInv C) (e1 : cI C 0 1 = nI N) (hN : N + 4 ≤ 900) (hn : 10 ≤ n) : Rt (f_142 n 0 v C) (fun _ C' => cI C' 0 1 = nI (N + 4) ∧ (∀ k, k < N → cI C' 1 k = cI C 1 k) ∧ (∀ r, r < 4 → cI C' 1 (N + r) = (bytI v r).toInt8.toInt32) ∧ Fr (fun b => b = 0 ∨ b = 1) C C' ∧ ∀ f, ¬ f = 1 → cI C' 0 f = cI C 0 f) := by
  obtain ⟨n, rfl⟩ : ∃ m, n = m + 5 := ⟨n - 5, by omega⟩
  have s0 : (24 : Int32) = nI (24 - 8 * 0) := rfl
  have s1 : nI (24 - 8 * 0) + (-8 : Int32) = nI (24 - 8 * 1) := by decide
  have s2 : nI (24 - 8 * 1) + (-8 : Int32) = nI (24 - 8 * 2) := by decide
  have s3 : nI (24 - 8 * 2) + (-8 : Int32) = nI (24 - 8 * 3) := by decide
  have s4 : (nI (24 - 8 * 3) + (-8 : Int32) < 0) = True := eq_true (by decide)
  have A := c142_s (n := n + 4) (v := v) (r := 0) hP e1 (by omega) (by omega)
  rw [s1] at A
  have E1 : cI (uI (uI C 1 N (bytI v 0).toInt8.toInt32) 0 1 (nI (N + 1))) 0 1 = nI (N + 1) := by rw [r_I, if_pos ⟨rfl, rfl⟩]
  have e1f : ∀ f, ¬ f = 1 → cI (uI (uI C 1 N (bytI v 0).toInt8.toInt32) 0 1 (nI (N + 1))) 0 f = cI C 0 f := fun f hf => by rw [r_I, if_neg (by omega), r_In (by decide)]
  have t1 : ∀ k, cI (uI (uI C 1 N (bytI v 0).toInt8.toInt32) 0 1 (nI (N + 1))) 1 k = if k = N then (bytI v 0).toInt8.toInt32 else cI C 1 k := fun k => by rw [r_In (by decide), r_I]; simp
  have F1 : Fr (fun b => b = 0 ∨ b = 1) C (uI (uI C 1 N (bytI v 0).toInt8.toInt32) 0 1 (nI (N + 1))) := ((Fr.refl _ C).uI (Or.inr rfl)).uI (Or.inl rfl)
  generalize uI (uI C 1 N (bytI v 0).toInt8.toInt32) 0 1 (nI (N + 1)) = C1 at A E1 e1f t1 F1
  have P1 : PInv C1 := hP.of F1.1
  have A2 := c142_s (n := n + 3) (v := v) (r := 1) P1 E1 (by omega) (by omega)
  rw [s2] at A2
  have E2 : cI (uI (uI C1 1 (N + 1) (bytI v 1).toInt8.toInt32) 0 1 (nI (N + 1 + 1))) 0 1 = nI (N + 2) := by rw [r_I, if_pos ⟨rfl, rfl⟩]
  have e2f : ∀ f, ¬ f = 1 → cI (uI (uI C1 1 (N + 1) (bytI v 1).toInt8.toInt32) 0 1 (nI (N + 1 + 1))) 0 f = cI C 0 f := fun f hf => by rw [r_I, if_neg (by omega), r_In (by decide), e1f f hf]
  have t2 : ∀ k, cI (uI (uI C1 1 (N + 1) (bytI v 1).toInt8.toInt32) 0 1 (nI (N + 1 + 1))) 1 k = if k = N + 1 then (bytI v 1).toInt8.toInt32 else cI C1 1 k := fun k => by rw [r_In (by decide), r_I]; simp
  have F2 : Fr (fun b => b = 0 ∨ b = 1) C (uI (uI C1 1 (N + 1) (bytI v 1).toInt8.toInt32) 0 1 (nI (N + 1 + 1))) := (F1.uI (Or.inr rfl)).uI (Or.inl rfl)
  generalize uI (uI C1 1 (N + 1) (bytI v 1).toInt8.toInt32) 0 1 (nI (N + 1 + 1)) = C2 at A2 E2 e2f t2 F2
  have P2 : PInv C2 := hP.of F2.1
  have A3 := c142_s (n := n + 2) (v := v) (r := 2) P2 E2 (by omega) (by omega)
  rw [s3] at A3
  have E3 : cI (uI (uI C2 1 (N + 2) (bytI v 2).toInt8.toInt32) 0 1 (nI (N + 2 + 1))) 0 1 = nI (N + 3) := by rw [r_I, if_pos ⟨rfl, rfl⟩]
  have e3f : ∀ f, ¬ f = 1 → cI (uI (uI C2 1 (N + 2) (bytI v 2).toInt8.toInt32) 0 1 (nI (N + 2 + 1))) 0 f = cI C 0 f := fun f hf => by rw [r_I, if_neg (by omega), r_In (by decide), e2f f hf]
  have t3 : ∀ k, cI (uI (uI C2 1 (N + 2) (bytI v 2).toInt8.toInt32) 0 1 (nI (N + 2 + 1))) 1 k = if k = N + 2 then (bytI v 2).toInt8.toInt32 else cI C2 1 k := fun k => by rw [r_In (by decide), r_I]; simp
  have F3 : Fr (fun b => b = 0 ∨ b = 1) C (uI (uI C2 1 (N + 2) (bytI v 2).toInt8.toInt32) 0 1 (nI (N + 2 + 1))) := (F2.uI (Or.inr rfl)).uI (Or.inl rfl)
  generalize uI (uI C2 1 (N + 2) (bytI v 2).toInt8.toInt32) 0 1 (nI (N + 2 + 1)) = C3 at A3 E3 e3f t3 F3
  have P3 : PInv C3 := hP.of F3.1
  have A4 := c142_s (n := n + 1) (v := v) (r := 3) P3 E3 (by omega) (by omega)
  have E4 : cI (uI (uI C3 1 (N + 3) (bytI v 3).toInt8.toInt32) 0 1 (nI (N + 3 + 1))) 0 1 = nI (N + 4) := by rw [r_I, if_pos ⟨rfl, rfl⟩]
  have e4f : ∀ f, ¬ f = 1 → cI (uI (uI C3 1 (N + 3) (bytI v 3).toInt8.toInt32) 0 1 (nI (N + 3 + 1))) 0 f = cI C 0 f := fun f hf => by rw [r_I, if_neg (by omega), r_In (by decide), e3f f hf]
  have t4 : ∀ k, cI (uI (uI C3 1 (N + 3) (bytI v 3).toInt8.toInt32) 0 1 (nI (N + 3 + 1))) 1 k = if k = N + 3 then (bytI v 3).toInt8.toInt32 else cI C3 1 k := fun k => by rw [r_In (by decide), r_I]; simp
  have F4 : Fr (fun b => b = 0 ∨ b = 1) C (uI (uI C3 1 (N + 3) (bytI v 3).toInt8.toInt32) 0 1 (nI (N + 3 + 1))) := (F3.uI (Or.inr rfl)).uI (Or.inl rfl)
  generalize uI (uI C3 1 (N + 3) (bytI v 3).toInt8.toInt32) 0 1 (nI (N + 3 + 1)) = C4 at A4 E4 e4f t4 F4
  unfold f_142
  rw [s0, A, A2, A3, A4, lp_142_2]
  simp only [↓reduceIte, s4, if_true, Option.bind_some]
  refine rt_ret ⟨E4, fun k hk => ?_, fun r hr => ?_, F4, e4f⟩
  · rw [t4, if_neg (by omega), t3, if_neg (by omega), t2, if_neg (by omega), t1, if_neg (by omega)]
  · have r4 : r = 0 ∨ r = 1 ∨ r = 2 ∨ r = 3 := by omega
    rcases r4 with rfl | rfl | rfl | rfl
    · rw [t4, if_neg (by omega), t3, if_neg (by omega), t2, if_neg (by omega), t1, if_pos (by omega)]
    · rw [t4, if_neg (by omega), t3, if_neg (by omega), t2, if_pos (by omega)]
    · rw [t4, if_neg (by omega), t3, if_pos (by omega)]
    · rw [t4, if_pos (by omega)]
theorem q118 (hC : CI C s B) (hB : BigOK B) (hn : 20 ≤ n) (a b c d e : Int32) : Rt (f_118 n 0 a b c d e C) (fun z C' => z = sFed B ∧ CI C' s (bFed B a b c d e) ∧ (∀ b, 145 ≤ b → cI C' b = cI C b)) := by
  have n9 := hB.2.1
  have e1 := hC.2.2.2.2.2.1
  have P := hC.1
  unfold f_118 sFed bFed
  rw [if_pos k_0, e1, n_20, x_add, n_900]
  by_cases l : bN B + 20 ≤ 900
  · rw [if_pos ((x_le (by omega) (by omega)).mpr l), if_pos l, if_pos l]
    refine rt_bind (rt_mono (c142 (n := n) (v := a) P e1 (by omega) (by omega)) (fun _ C1 H => ?_))
    obtain ⟨a1, b1, c1, F1, f1⟩ := H
    refine rt_bind (rt_mono (c142 (n := n) (v := b) (P.of F1.1) a1 (by omega) (by omega)) (fun _ C2 H => ?_))
    obtain ⟨a2, b2, c2, F2, f2⟩ := H
    have F2 := F1.trans F2
    refine rt_bind (rt_mono (c142 (n := n) (v := c) (P.of F2.1) a2 (by omega) (by omega)) (fun _ C3 H => ?_))
    obtain ⟨a3, b3, c3, F3, f3⟩ := H
    have F3 := F2.trans F3
    refine rt_bind (rt_mono (c142 (n := n) (v := d) (P.of F3.1) a3 (by omega) (by omega)) (fun _ C4 H => ?_))
    obtain ⟨a4, b4, c4, F4, f4⟩ := H
    have F4 := F3.trans F4
    refine rt_bind (rt_mono (c142 (n := n) (v := e) (P.of F4.1) a4 (by omega) (by omega)) (fun _ C5 H => ?_))
    obtain ⟨a5, b5, c5, F5, f5⟩ := H
    have F5 := F4.trans F5
    have ff : ∀ f, ¬ f = 1 → cI C5 0 f = cI C 0 f := fun f hf => by rw [f5 f hf, f4 f hf, f3 f hf, f2 f hf, f1 f hf]
    refine rt_ret ⟨a5, ?_, fun b hb => F5.2.1 b (by omega)⟩
    obtain ⟨h1, h2, h3, h4, h5, h6, h7, h8, h9, h10, h11⟩ := hC
    have lt := scr_lt h2
    have E : ∀ b, ¬ (b = 0 ∨ b = 1) → cI C5 b = cI C b := fun b hb => F5.2.1 b hb
    refine ⟨h1.of F5.1, h2, by rw [F5.1]; exact h3, by rw [F5.1]; exact h4, h5.of hB.1.2.2.2.2.2.2.2.1 (fun a z1 z2 => E a (by omega)), a5, fun k hk => ?_, by rw [ff 2 (by omega)]; exact h8, h9.fr (fun b z1 z2 => E b (by omega)), by rw [ff 8 (by omega)]; exact h10, fun y hy => (h11 y hy).fr (fun b z1 z2 => E b (by omega))⟩
    have hk : k < bN B + 20 := hk
    show cI C5 1 k = (fdT B a b c d e k).toInt8.toInt32
    unfold fdT
    by_cases k0 : k < bN B
    · rw [if_neg (by omega), b5 k (by omega), b4 k (by omega), b3 k (by omega), b2 k (by omega), b1 k (by omega)]
      exact h7 k k0
    · rw [if_pos (by omega)]
      unfold fdW
      by_cases k1 : k < bN B + 4
      · rw [if_pos (by omega), b5 k (by omega), b4 k (by omega), b3 k (by omega), b2 k (by omega)]
        have := c1 (k - bN B) (by omega)
        rw [show bN B + (k - bN B) = k by omega] at this
        rw [this, show (k - bN B) % 4 = k - bN B by omega]
      · rw [if_neg (by omega)]
        by_cases k2 : k < bN B + 8
        · rw [if_pos (by omega), b5 k (by omega), b4 k (by omega), b3 k (by omega)]
          have := c2 (k - bN B - 4) (by omega)
          rw [show bN B + 4 + (k - bN B - 4) = k by omega] at this
          rw [this, show (k - bN B) % 4 = k - bN B - 4 by omega]
        · rw [if_neg (by omega)]
          by_cases k3 : k < bN B + 12
          · rw [if_pos (by omega), b5 k (by omega), b4 k (by omega)]
            have := c3 (k - bN B - 8) (by omega)
            rw [show bN B + 4 + 4 + (k - bN B - 8) = k by omega] at this
            rw [this, show (k - bN B) % 4 = k - bN B - 8 by omega]
          · rw [if_neg (by omega)]
            by_cases k4 : k < bN B + 16
            · rw [if_pos (by omega), b5 k (by omega)]
              have := c4 (k - bN B - 12) (by omega)
              rw [show bN B + 4 + 4 + 4 + (k - bN B - 12) = k by omega] at this
              rw [this, show (k - bN B) % 4 = k - bN B - 12 by omega]
            · rw [if_neg (by omega)]
              have := c5 (k - bN B - 16) (by omega)
              rw [show bN B + 4 + 4 + 4 + 4 + (k - bN B - 16) = k by omega] at this
              rw [this, show (k - bN B) % 4 = k - bN B - 16 by omega]
  · rw [if_neg (by rw [x_le (by omega) (by omega)]; exact l), if_neg l, if_neg l]
    exact rt_ret ⟨rfl, hC, fun _ _ => rfl⟩
theorem m188_lp {N : Nat} {a b c d e : Int32} (hN : N + 20 ≤ 900) : ∀ m q n C, q + m = 20 → m < n → PInv C → cI C 145 43 = nI N → Rt (lp_188_13 n 145 a b c d e (nI q) C) (fun z C' => z = 145 ∧ cP C' = cP C ∧ (∀ b, ¬ b = 178 → cI C' b = cI C b) ∧ ∀ k, cI C' 178 k = if N + q ≤ k ∧ k < N + 20 then bytI (fdW a b c d e (k - N)) ((k - N) % 4) else cI C 178 k) := by
  intro m
  induction m with
  | zero =>
    intro q n C h1 hn hP e43
    obtain ⟨n, rfl⟩ : ∃ m, n = m + 1 := ⟨n - 1, by omega⟩
    have b1 : 20 ≤ q := by omega
    simp (disch := omega) only [↓reduceIte, lp_188_13, n_20, x_le, b1, if_true]
    exact rt_ret ⟨rfl, rfl, fun _ _ => rfl, fun k => by rw [if_neg (by omega)]⟩
  | succ m ih =>
    intro q n C h1 hn hP e43
    obtain ⟨n, rfl⟩ : ∃ m, n = m + 1 := ⟨n - 1, by omega⟩
    have b1 : ¬ 20 ≤ q := by omega
    have i1 : N + q < 900 := by omega
    have sh : (24 : Int32) - ((8 : Int32) * (nI q - nI q / (4 : Int32) * (4 : Int32))) = nI (24 - 8 * (q % 4)) := by
      rw [n_4, x_div (by omega) (by omega) (by omega), x_mul, x_sub (by omega), n_8, x_mul, show (24 : Int32) = nI 24 from rfl, x_sub (by omega)]
      congr 1
      omega
    have I := ih (q + 1) n (uI C 178 (N + q) (bytI (fdW a b c d e q) (q % 4))) (by omega) (by omega) (hP.of rfl) (by rw [r_In (by decide)]; exact e43)
    have fin : Rt (lp_188_13 n 145 a b c d e (nI (q + 1)) (uI C 178 (N + q) (bytI (fdW a b c d e q) (q % 4)))) (fun z C' => z = 145 ∧ cP C' = cP C ∧ (∀ b, ¬ b = 178 → cI C' b = cI C b) ∧ ∀ k, cI C' 178 k = if N + q ≤ k ∧ k < N + 20 then bytI (fdW a b c d e (k - N)) ((k - N) % 4) else cI C 178 k) := by
      refine rt_mono I (fun _ C' H => ⟨H.1, H.2.1, fun b hb => by rw [H.2.2.1 b hb, r_In hb], fun k => ?_⟩)
      rw [H.2.2.2 k]
      by_cases ek : k = N + q
      · subst ek
        rw [if_neg (by omega), r_I, if_pos ⟨rfl, rfl⟩, if_pos (by omega), show N + q - N = q by omega]
      · by_cases g : N + (q + 1) ≤ k ∧ k < N + 20
        · rw [if_pos g, if_pos (by omega)]
        · rw [if_neg g, if_neg (by omega), r_I, if_neg (by omega)]
    have n16 : (16 : Int32) = nI 16 := rfl
    have bI : ∀ v, (v >>> (nI (24 - 8 * (q % 4)) &&& 31)) &&& 255 = bytI v (q % 4) := fun v => rfl
    rw [lp_188_13]
    simp only [sh, bI]
    by_cases q4 : q < 4
    · have g : ¬ 4 ≤ q := by omega
      have w : fdW a b c d e q = a := by unfold fdW; rw [if_pos q4]
      rw [w] at fin
      simp (disch := omega) only [↓reduceIte, n_20, n_4, x_le, b1, g, if_true, if_false, Option.bind_some, k_145, ↓bd1 (w_145_42 hP), k_178, l_178, e43, x_add, x_in, x_cl, i1, x_a1]
      exact fin
    · have g : 4 ≤ q := by omega
      by_cases q8 : q < 8
      · have g8 : ¬ 8 ≤ q := by omega
        have w : fdW a b c d e q = b := by unfold fdW; rw [if_neg q4, if_pos q8]
        rw [w] at fin
        simp (disch := omega) only [↓reduceIte, n_20, n_4, n_8, x_le, b1, g, g8, if_true, if_false, Option.bind_some, k_145, ↓bd1 (w_145_42 hP), k_178, l_178, e43, x_add, x_in, x_cl, i1, x_a1]
        exact fin
      · have g8 : 8 ≤ q := by omega
        by_cases q12 : q < 12
        · have g12 : ¬ 12 ≤ q := by omega
          have w : fdW a b c d e q = c := by unfold fdW; rw [if_neg q4, if_neg q8, if_pos q12]
          rw [w] at fin
          simp (disch := omega) only [↓reduceIte, n_20, n_4, n_8, n_12, x_le, b1, g, g8, g12, if_true, if_false, Option.bind_some, k_145, ↓bd1 (w_145_42 hP), k_178, l_178, e43, x_add, x_in, x_cl, i1, x_a1]
          exact fin
        · have g12 : 12 ≤ q := by omega
          by_cases q16 : q < 16
          · have g16 : ¬ 16 ≤ q := by omega
            have w : fdW a b c d e q = d := by unfold fdW; rw [if_neg q4, if_neg q8, if_neg q12, if_pos q16]
            rw [w] at fin
            simp (disch := omega) only [↓reduceIte, n_20, n_4, n_8, n_12, n16, x_le, b1, g, g8, g12, g16, if_true, if_false, Option.bind_some, k_145, ↓bd1 (w_145_42 hP), k_178, l_178, e43, x_add, x_in, x_cl, i1, x_a1]
            exact fin
          · have g16 : 16 ≤ q := by omega
            have w : fdW a b c d e q = e := by unfold fdW; rw [if_neg q4, if_neg q8, if_neg q12, if_neg q16]
            rw [w] at fin
            simp (disch := omega) only [↓reduceIte, n_20, n_4, n_8, n_12, n16, x_le, b1, g, g8, g12, g16, if_true, if_false, Option.bind_some, k_145, ↓bd1 (w_145_42 hP), k_178, l_178, e43, x_add, x_in, x_cl, i1, x_a1]
            exact fin
theorem q188 (hM : MI C h B) (hB : BigOK B) (hn : 30 ≤ n) (a b c d e : Int32) : Rt (f_188 n 145 a b c d e C) (fun z C' => z = sFed B ∧ MI C' h (bFed B a b c d e) ∧ cP C' = cP C ∧ ∀ b, b < 145 ∨ (151 ≤ b ∧ b ≤ 177) → cI C' b = cI C b) := by
  have n9 := hB.2.1
  have c4 := hB.1.2.1
  obtain ⟨M0, t0, F0⟩ := hM.t0 hB
  generalize hC0 : uI C 145 5 0 = C0 at M0 t0 F0
  have e43 := M0.2.1
  unfold f_188 sFed bFed
  rw [hC0, if_pos k_145, e43, n_20, x_add, n_900]
  by_cases l : bN B + 20 ≤ 900
  · rw [if_pos ((x_le (by omega) (by omega)).mpr l), if_pos l, if_pos l]
    have L := m188_lp (a := a) (b := b) (c := c) (d := d) (e := e) l 20 0 n C0 rfl (by omega) M0.1.1 e43
    rw [x_0] at L
    refine rt_bind (rt_mono L (fun _ C1 H => ?_))
    obtain ⟨rfl, p1, o1, a1⟩ := H
    have q43 : cI C1 145 43 = nI (bN B) := by rw [o1 145 (by omega)]; exact e43
    dsimp only
    rw [if_pos k_145, q43, x_add]
    have v43 : cI (uI C1 145 43 (nI (bN B + 20))) 145 43 = nI (bN B + 20) := by rw [r_I, if_pos ⟨rfl, rfl⟩]
    have f : ∀ j, ¬ j = 43 → cI (uI C1 145 43 (nI (bN B + 20))) 145 j = cI C0 145 j := fun j hj => by rw [r_I, if_neg (by omega), o1 145 (by omega)]
    have o : ∀ b, ¬ b = 145 → ¬ b = 178 → cI (uI C1 145 43 (nI (bN B + 20))) b = cI C0 b := fun b z1 z2 => by rw [r_In z1, o1 b z2]
    have pp : cP (uI C1 145 43 (nI (bN B + 20))) = cP C0 := (p_I C1 145 43 _).trans p1
    have t8 : ∀ k, cI (uI C1 145 43 (nI (bN B + 20))) 178 k = cI C1 178 k := fun k => by rw [r_In (by decide)]
    generalize uI C1 145 43 (nI (bN B + 20)) = C2 at v43 f o pp t8
    refine rt_ret ⟨v43, ?_, by rw [pp]; exact F0.1, fun b hb => by rw [o b (by omega) (by omega)]; exact F0.o b hb⟩
    obtain ⟨k1, k2, k3, k4, k5, k6, k7⟩ := M0
    have e4 := And.intro (o 147 (by omega) (by omega)) (And.intro (o 148 (by omega) (by omega)) (And.intro (o 149 (by omega) (by omega)) (o 150 (by omega) (by omega))))
    refine ⟨k1.of pp (f 40 (by omega)) (fun a z1 z2 => o a (by omega) (by omega)), v43, fun k hk => ?_, by rw [f 44 (by omega)]; exact k4, k5.of c4 (fun _ _ _ => by rw [o 146 (by omega) (by omega)]) (fun _ _ _ => by rw [o 146 (by omega) (by omega)]) (fun j _ _ => f j (by omega)) e4, by rw [f 12 (by omega)]; exact k6, fun y hy => (k7 y hy).of c4 (fun _ _ _ => by rw [o 146 (by omega) (by omega)]) (fun _ _ _ => by rw [o 146 (by omega) (by omega)]) (fun j _ _ => f j (by omega)) e4⟩
    have hk : k < bN B + 20 := hk
    show cI C2 178 k = fdT B a b c d e k
    rw [t8, a1 k]
    unfold fdT
    by_cases g : bN B ≤ k ∧ k < bN B + 20
    · rw [if_pos (by omega), if_pos g]
    · rw [if_neg (by omega), if_neg g]
      exact k3 k (by omega)
  · rw [if_neg (by rw [x_le (by omega) (by omega)]; exact l), if_neg l, if_neg l]
    exact rt_ret ⟨rfl, M0, F0.1, F0.o⟩
end
