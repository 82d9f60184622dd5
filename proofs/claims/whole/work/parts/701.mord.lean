/-! order (reference). -/
section
variable {n : Nat} {C C' : AmC} {s h : Nat} {B : Big} {S : Scr}
theorem m263_lp {x : Nat} (hx : x < 230) : ∀ m c n C, c + m = 4 → m < n → PInv C → Rt (lp_263_14 n 145 (nI x) (nI c) C) (fun _ C' => cP C' = cP C ∧ (∀ b, ¬ b = 193 → cI C' b = cI C b) ∧ ∀ k, cI C' 193 k = if 230 + 4 * x + c ≤ k ∧ k < 230 + 4 * x + 4 then cI C 194 (1 + (k - (230 + 4 * x))) else cI C 193 k) := by
  intro m
  induction m with
  | zero =>
    intro c n C h1 hn hP
    obtain ⟨n, rfl⟩ : ∃ m, n = m + 1 := ⟨n - 1, by omega⟩
    have b1 : 4 ≤ c := by omega
    simp (disch := omega) only [↓reduceIte, lp_263_14, n_4, x_le, b1, if_true]
    exact rt_ret ⟨rfl, fun _ _ => rfl, fun k => by rw [if_neg (by omega)]⟩
  | succ m ih =>
    intro c n C h1 hn hP
    obtain ⟨n, rfl⟩ : ∃ m, n = m + 1 := ⟨n - 1, by omega⟩
    have b1 : ¬ 4 ≤ c := by omega
    have j1 : 230 + 4 * x + c < 1150 := by omega
    have j2 : 1 + c < 5 := by omega
    have I := ih (c + 1) n (uI C 193 (230 + 4 * x + c) (cI C 194 (1 + c))) (by omega) (by omega) (hP.of rfl)
    simp (disch := omega) only [↓reduceIte, lp_263_14, n_4, n_230', x_le, b1, if_true, if_false, Option.bind_some, k_145, ↓bd1 (w_145_84 hP), k_193, l_193, ↓bd1 (w_145_85 hP), k_194, l_194, x_mul, x_add, x_1a, x_in, x_cl, j1, j2, x_a1]
    refine rt_mono I (fun _ C' H => ⟨H.1, fun b hb => by rw [H.2.1 b hb, r_In hb], fun k => ?_⟩)
    rw [H.2.2 k, r_In (show (194 : Nat) ≠ 193 by decide)]
    by_cases e : k = 230 + 4 * x + c
    · subst e
      rw [if_neg (by omega), r_I, if_pos ⟨rfl, rfl⟩, if_pos (by omega), show 230 + 4 * x + c - (230 + 4 * x) = c by omega]
    · by_cases g : 230 + 4 * x + (c + 1) ≤ k ∧ k < 230 + 4 * x + 4
      · rw [if_pos g, if_pos (by omega)]
      · rw [if_neg g, if_neg (by omega), r_I, if_neg (by omega)]
theorem m267 {t : Stm} {I : List Itm} {l : List Ent} {w k : Nat} {T R W : Tab} {U : Nat → Bool} {φ : Nat → Nat} (hM : MC C h S) (hR : RW S t T I l w) (hG : LGI C S t I l w) (hk : k < w) (hU : U k = false) (hq : QR S t I w U R W φ) (hW : TabM 230 (sCols S) C 193 0 W) (hn : 2300 ≤ n) : Rt (f_267 n 145 (nI k) C) (fun z C' => (okM S t I W k = true → z = 1 ∧ TabM 230 (sCols S) C' 193 0 (sPut W t (itm I k).1 (wpl t (itm I k).1 k) (itm I k).2.2)) ∧ (okM S t I W k = false → z = 0 ∧ TabM 230 (sCols S) C' 193 0 W) ∧ FrV C C' ∧ (∀ b, 195 ≤ b → cI C' b = cI C b)) := by
  have hP := hM.1
  unfold f_267
  rw [if_pos k_145]
  have A := m262_i (n := n) hM.2.2.2 hP hR hG hk hU hq hW (by omega)
  refine rt_bind (rt_mono A (fun _ C1 H => ?_))
  obtain ⟨W1, F1, k1, s0, s1, q1⟩ := H
  have M1 : MC C1 h S := hM.of F1.1 (F1.2.2 40 (by omega) (by omega)) (fun a z1 z2 => F1.2.1 a (by omega))
  refine rt_bind (rt_mono (m264 (n := n) M1 W1 (by omega)) (fun z C2 H => ?_))
  obtain ⟨rfl, F2, o2⟩ := H
  have F12 := F1.trans F2
  have W2 := W1.of (o2 193 (by omega))
  have q2 : ∀ b, 195 ≤ b → cI C2 b = cI C b := fun b hb => by rw [o2 b (by omega), q1 b hb]
  dsimp only
  have eo : okM S t I W k = (sClash 230 S (sPut W t (itm I k).1 (wpl t (itm I k).1 k) (itm I k).2.2)).isNone := rfl
  rcases bcs (okM S t I W k) with ok | ok
  · rw [← eo, ok, if_pos (by decide)]
    obtain ⟨we, wl⟩ := wp_eq hR hk
    have w2 := hR.2.2.1
    have P2 : PInv C2 := hP.of F12.1
    have G2 := hG.fr F12
    obtain ⟨_, sE, _⟩ := hR.2.2.2.2.2 k hk
    have w261 := m261 (n := n) (S := S) (e := ent l k) P2 (G2.1 k hk) (by omega) (by rw [sE]; exact (hG.2.2 k hk).1)
    rw [we] at w261
    generalize wpl t (itm I k).1 k = x at w261 wl k1 s0 s1
    have x1 : x < 1150 := by omega
    have e193 : cI C2 193 = cI C1 193 := o2 193 (by omega)
    have e194 : cI C2 194 = cI C1 194 := o2 194 (by omega)
    have a0 : amIn (0 : Int32) (aLen 194) = true := by decide
    have t0 : Int32.toNatClampNeg (0 : Int32) = 0 := by decide
    have L := m263_lp (x := x) wl 4 0 n (uI C2 193 x (cI C2 194 0)) rfl (by omega) (P2.of rfl)
    rw [x_0] at L
    have key : Rt (f_263 n 145 (nI k) C2) (fun _ C' => (∀ j, cI C' 193 j = cI C 193 j) ∧ FrV C2 C' ∧ ∀ b, 195 ≤ b → cI C' b = cI C2 b) := by
      unfold f_263
      rw [if_pos k_145, bd1 w261]
      dsimp only
      rw [bd1 (w_145_84 P2), bd1 (w_145_85 P2), if_pos k_194, if_pos a0, if_pos k_193, l_193, if_pos ((x_in (by omega)).mpr x1), t0, x_cl (by omega)]
      refine rt_bind (rt_mono L (fun _ C3 H => ?_))
      obtain ⟨p3, o3, v3⟩ := H
      refine rt_ret ⟨fun j => ?_, ⟨p3, fun b hb => by rw [o3 b (by omega), r_In (by omega)], fun f _ _ => by rw [o3 145 (by omega), r_In (by decide)]⟩, fun b hb => by rw [o3 b (by omega), r_In (by omega)]⟩
      rw [v3 j]
      by_cases g : 230 + 4 * x + 0 ≤ j ∧ j < 230 + 4 * x + 4
      · rw [if_pos g, r_In (by decide), e194, s1 _ (by omega)]
        exact congrArg (cI C 193) (by omega)
      · rw [if_neg g, r_I]
        by_cases ex : j = x
        · rw [if_pos ⟨rfl, ex⟩, e194, s0, ex]
        · rw [if_neg (fun z => ex z.2), e193, k1 j (by omega)]
    refine rt_bind (rt_mono key (fun _ C3 H => ?_))
    obtain ⟨r3, F3, q3⟩ := H
    exact rt_ret ⟨fun z => (by cases z), fun _ => ⟨rfl, hW.of (funext r3)⟩, F12.trans F3, fun b hb => by rw [q3 b hb, q2 b hb]⟩
  · rw [← eo, ok, if_neg (by decide)]
    exact rt_ret ⟨fun _ => ⟨rfl, W2⟩, fun z => (by cases z), F12, q2⟩
/-- which writes are done -/
def PtM (C : AmC) (U : Nat → Bool) (w : Nat) : Prop := ∀ j, j < w → cI C 196 j = if U j = true then 1 else 0
theorem m266_in {t : Stm} {I : List Itm} {l : List Ent} {w : Nat} {T R W : Tab} {U : Nat → Bool} {p2 : Int32} (hO : ScrOK S) (hR : RW S t T I l w) (ho : OS S t T I w U R W) : ∀ m k n C, k + m = w → m + 2400 < n → MC C h S → LGI C S t I l w → TabM 230 (sCols S) C 193 0 W → PtM C U w → (∀ j, j < k → nxO S t I U R j = false) → Rt (lp_266_34 n 145 p2 (-1) (nI k) C) (fun z C' => (∀ i, qf (nxO S t I U R) m k = some i → z = (145, p2, nI i) ∧ TabM 230 (sCols S) C' 193 0 (sPut W t (itm I i).1 (wpl t (itm I i).1 i) (itm I i).2.2)) ∧ (qf (nxO S t I U R) m k = none → z = (145, p2, -1) ∧ TabM 230 (sCols S) C' 193 0 W) ∧ FrV C C' ∧ ∀ b, 195 ≤ b → cI C' b = cI C b) := by
  have w200 := hR.2.2.1
  intro m
  induction m with
  | zero =>
    intro k n C h1 hn hM hG hW hp hb
    obtain ⟨n, rfl⟩ : ∃ m, n = m + 1 := ⟨n - 1, by omega⟩
    rw [lp_266_34, if_pos k_145, hG.2.1, if_pos ((x_le (by omega) (by omega)).mpr (by omega))]
    exact rt_ret ⟨fun i hi => (by cases hi), fun _ => ⟨rfl, hW⟩, FrV.refl _, fun _ _ => rfl⟩
  | succ m ih =>
    intro k n C h1 hn hM hG hW hp hb
    obtain ⟨n, rfl⟩ : ∃ m, n = m + 1 := ⟨n - 1, by omega⟩
    have kw : k < w := by omega
    have hP := hM.1
    have ne := nx_eq hO hR ho kw hb
    have on : ∀ C1, FrV C C1 → (∀ b, 195 ≤ b → cI C1 b = cI C b) → TabM 230 (sCols S) C1 193 0 W → nxO S t I U R k = false → Rt (lp_266_34 n 145 p2 (-1) (nI k + 1) C1) (fun z C' => (∀ i, qf (nxO S t I U R) (m + 1) k = some i → z = (145, p2, nI i) ∧ TabM 230 (sCols S) C' 193 0 (sPut W t (itm I i).1 (wpl t (itm I i).1 i) (itm I i).2.2)) ∧ (qf (nxO S t I U R) (m + 1) k = none → z = (145, p2, -1) ∧ TabM 230 (sCols S) C' 193 0 W) ∧ FrV C C' ∧ ∀ b, 195 ≤ b → cI C' b = cI C b) := by
      intro C1 F1 q1 W1 nf
      have e : qf (nxO S t I U R) (m + 1) k = qf (nxO S t I U R) m (k + 1) := by rw [qf, nf, if_neg (by decide)]
      have M1 : MC C1 h S := hM.of F1.1 (F1.2.2 40 (by omega) (by omega)) (fun a z1 z2 => F1.2.1 a (by omega))
      rw [e, x_a1]
      refine rt_mono (ih (k + 1) n C1 (by omega) (by omega) M1 (hG.fr F1) W1 (by unfold PtM; rw [q1 196 (by omega)]; exact hp) (fun j hj => ?_)) (fun _ _ H => ⟨H.1, H.2.1, F1.trans H.2.2.1, fun b hb => by rw [H.2.2.2 b hb, q1 b hb]⟩)
      by_cases q : j = k
      · rw [q]; exact nf
      · exact hb j (by omega)
    have k196 : isK 196 13 = true := k_196
    have ep := hp k kw
    rw [lp_266_34, if_pos k_145, hG.2.1, if_neg (by rw [x_le (by omega) (by omega)]; omega), if_neg (by simp), bd1 (w_145_87 hP), if_pos k196, l_196, if_pos ((x_in (by omega)).mpr (show k < 200 by omega)), x_cl (by omega), ep]
    rcases bcs (U k) with uk | uk
    · obtain ⟨⟨φ, hq⟩, _⟩ := ho
      rw [uk, if_neg (by simp)]
      refine rt_bind (rt_mono (m267 (n := n) hM hR hG kw uk hq hW (by omega)) (fun z C1 H => ?_))
      obtain ⟨g1, g2, F1, q1⟩ := H
      dsimp only
      rcases bcs (okM S t I W k) with ok | ok
      · obtain ⟨rfl, W1⟩ := g2 ok
        have nf : nxO S t I U R k = false := by rw [ne]; unfold nxM; rw [ok, Bool.and_false]
        rw [if_pos rfl]
        exact on C1 F1 q1 W1 nf
      · obtain ⟨rfl, W1⟩ := g1 ok
        have nt : nxO S t I U R k = true := by rw [ne]; unfold nxM; rw [ok, uk]; rfl
        have e : qf (nxO S t I U R) (m + 1) k = some k := by rw [qf, nt, if_pos rfl]
        rw [if_neg (by decide), e, x_a1]
        obtain ⟨n, rfl⟩ : ∃ m, n = m + 1 := ⟨n - 1, by omega⟩
        have e65 : cI C1 145 65 = nI w := (hG.fr F1).2.1
        have nm : ¬ nI k = (-1 : Int32) := by rw [x_eqm (by omega)]; exact id
        have done : lp_266_34 (n + 1) 145 p2 (nI k) (nI (k + 1)) C1 = some ((145, p2, nI k), C1) := by
          rw [lp_266_34, if_pos k_145, e65]
          by_cases g : nI w ≤ nI (k + 1)
          · rw [if_pos g]
          · rw [if_neg g, if_pos nm]
        rw [done]
        exact rt_ret ⟨fun i hi => (by cases hi; exact ⟨rfl, W1⟩), fun z => (by cases z), F1, q1⟩
    · have nf : nxO S t I U R k = false := by unfold nxO; rw [uk]; rfl
      rw [uk, if_pos (by decide)]
      exact on C (FrV.refl _) (fun _ _ => rfl) hW nf
theorem m266_z {w : Nat} (hw : w ≤ 200) : ∀ m k n C, k + m = w → m < n → PInv C → cI C 145 65 = nI w → Rt (lp_266_13 n 145 (nI k) C) (fun z C' => z = 145 ∧ cP C' = cP C ∧ (∀ b, ¬ b = 196 → cI C' b = cI C b) ∧ ∀ j, cI C' 196 j = if k ≤ j ∧ j < w then 0 else cI C 196 j) := by
  intro m
  induction m with
  | zero =>
    intro k n C h1 hn hP e65
    obtain ⟨n, rfl⟩ : ∃ m, n = m + 1 := ⟨n - 1, by omega⟩
    rw [lp_266_13, if_pos k_145, e65, if_pos ((x_le (by omega) (by omega)).mpr (by omega))]
    exact rt_ret ⟨rfl, rfl, fun _ _ => rfl, fun j => by rw [if_neg (by omega)]⟩
  | succ m ih =>
    intro k n C h1 hn hP e65
    obtain ⟨n, rfl⟩ : ∃ m, n = m + 1 := ⟨n - 1, by omega⟩
    have k196 : isK 196 13 = true := k_196
    have I := ih (k + 1) n (uI C 196 k 0) (by omega) (by omega) (hP.of rfl) (by rw [r_In (by decide)]; exact e65)
    rw [lp_266_13, if_pos k_145, e65, if_neg (by rw [x_le (by omega) (by omega)]; omega), bd1 (w_145_87 hP), if_pos k196, l_196, if_pos ((x_in (by omega)).mpr (show k < 200 by omega)), x_cl (by omega), x_a1]
    refine rt_mono I (fun _ C' H => ⟨H.1, H.2.1, fun b hb => by rw [H.2.2.1 b hb, r_In hb], fun j => ?_⟩)
    rw [H.2.2.2 j]
    by_cases e : j = k
    · subst e
      rw [if_neg (by omega), r_I, if_pos ⟨rfl, rfl⟩, if_pos (by omega)]
    · by_cases g : k + 1 ≤ j ∧ j < w
      · rw [if_pos g, if_pos (by omega)]
      · rw [if_neg g, if_neg (by omega), r_I, if_neg (by omega)]
theorem m266_lp {t : Stm} {I : List Itm} {l : List Ent} {w : Nat} {T : Tab} (hO : ScrOK S) (hR : RW S t T I l w) : ∀ m k n C (R W : Tab) (U : Nat → Bool), k + m = w → m + 2700 < n → MC C h S → LGI C S t I l w → TabM 230 (sCols S) C 193 0 W → PtM C U w → OS S t T I w U R W → Rt (lp_266_26 n 145 (nI k) C) (fun z C' => (∀ L, ordS S t I w m U R = some L → z = .inr () ∧ ∀ j, j < m → cI C' 195 (k + j) = nI (L.getD j 0)) ∧ (ordS S t I w m U R = none → z = .inl ()) ∧ (∀ j, j < k → cI C' 195 j = cI C 195 j) ∧ FrV C C') := by
  have w200 := hR.2.2.1
  intro m
  induction m with
  | zero =>
    intro k n C R W U h1 hn hM hG hW hp ho
    obtain ⟨n, rfl⟩ : ∃ m, n = m + 1 := ⟨n - 1, by omega⟩
    rw [lp_266_26, if_pos k_145, hG.2.1, if_pos ((x_le (by omega) (by omega)).mpr (by omega))]
    exact rt_ret ⟨fun L hL => ⟨rfl, fun j hj => absurd hj (Nat.not_lt_zero j)⟩, fun z => (by rw [ordS] at z; cases z), fun _ _ => rfl, FrV.refl _⟩
  | succ m ih =>
    intro k n C R W U h1 hn hM hG hW hp ho
    obtain ⟨n, rfl⟩ : ∃ m, n = m + 1 := ⟨n - 1, by omega⟩
    have hP := hM.1
    have L := m266_in (h := h) (p2 := nI k) hO hR ho w 0 n C (by omega) (by omega) hM hG hW hp (fun j hj => absurd hj (Nat.not_lt_zero j))
    rw [x_0] at L
    rw [lp_266_26, if_pos k_145, hG.2.1, if_neg (by rw [x_le (by omega) (by omega)]; omega)]
    refine rt_bind (rt_mono L (fun z C1 H => ?_))
    obtain ⟨H1, H2, F1, q1⟩ := H
    have P1 : PInv C1 := hP.of F1.1
    cases hq : qf (nxO S t I U R) w 0 with
    | none =>
      obtain ⟨rfl, _⟩ := H2 hq
      dsimp only
      rw [if_neg (by simp), ord_n hq]
      exact rt_ret ⟨fun L hL => (by cases hL), fun _ => rfl, fun j _ => by rw [q1 195 (by omega)], F1⟩
    | some i =>
      obtain ⟨rfl, W1⟩ := H1 i hq
      obtain ⟨_, iw, nt, nb⟩ := qf_some hq
      have iw : i < w := by omega
      have nU : U i = false := by
        unfold nxO at nt
        rw [Bool.and_eq_true, Bool.not_eq_true'] at nt
        exact nt.1
      obtain ⟨q, hs⟩ : ∃ q, sAt R t (itm I i).1 = some q := (ok_eq hO hR ho iw nU (gn_used ho (by omega) (fun j hj => nb j (by omega) hj))).1
      have k196 : isK 196 13 = true := k_196
      have P2 : PInv (uI C1 196 i 1) := P1.of rfl
      have FV : FrV C (uI (uI C1 196 i 1) 195 k (nI i)) := (F1.u (by omega)).u (by omega)
      have e5 : cI (uI (uI C1 196 i 1) 195 k (nI i)) 195 k = nI i := by rw [r_I, if_pos ⟨rfl, rfl⟩]
      have e5o : ∀ j, j < k → cI (uI (uI C1 196 i 1) 195 k (nI i)) 195 j = cI C 195 j := fun j hj => by rw [r_I, if_neg (by omega), r_In (by decide), q1 195 (by omega)]
      have e193 : cI (uI (uI C1 196 i 1) 195 k (nI i)) 193 = cI C1 193 := by rw [r_In (by decide), r_In (by decide)]
      have pt : PtM (uI (uI C1 196 i 1) 195 k (nI i)) (va_up U i true) w := fun j hj => by
        rw [r_In (by decide), r_I]
        by_cases e : j = i
        · rw [if_pos ⟨rfl, e⟩, up_t e]; rfl
        · rw [if_neg (fun z => e z.2), up_n e, q1 196 (by omega)]; exact hp j hj
      dsimp only
      rw [if_pos (by rw [x_eqm (by omega)]; exact id), if_pos k_145, bd1 (w_145_87 P1), if_pos k196, l_196, if_pos ((x_in (by omega)).mpr (show i < 200 by omega)), x_cl (show i < 2147483648 by omega), bd1 (w_145_86 P2), if_pos k_195, l_195, if_pos ((x_in (by omega)).mpr (show k < 200 by omega)), x_cl (by omega), x_a1, ord_s hq hs]
      generalize uI (uI C1 196 i 1) 195 k (nI i) = C2 at FV e5 e5o e193 pt
      have M2 : MC C2 h S := hM.of FV.1 (FV.2.2 40 (by omega) (by omega)) (fun a z1 z2 => FV.2.1 a (by omega))
      have I1 := ih (k + 1) n C2 _ _ (va_up U i true) (by omega) (by omega) M2 (hG.fr FV) (W1.of e193) pt (ho.next hR iw (fun j hj => nb j (by omega) hj) nt hs)
      refine rt_mono I1 (fun z C3 H => ?_)
      obtain ⟨G1, G2, G3, G4⟩ := H
      refine ⟨fun L hL' => ?_, fun hn' => ?_, fun j hj => by rw [G3 j (by omega), e5o j hj], FV.trans G4⟩
      · cases hq2 : ordS S t I w m (va_up U i true) (sPut R t (itm I i).1 q (itm I i).2.2) with
        | none => rw [hq2] at hL'; cases hL'
        | some M =>
          rw [hq2] at hL'
          cases hL'
          obtain ⟨g1, g2⟩ := G1 M hq2
          refine ⟨g1, fun j hj => ?_⟩
          cases j with
          | zero => rw [Nat.add_zero, G3 k (by omega), e5]; rfl
          | succ j =>
            have := g2 j (by omega)
            rw [show k + (j + 1) = k + 1 + j by omega, this]
            rfl
      · cases hq2 : ordS S t I w m (va_up U i true) (sPut R t (itm I i).1 q (itm I i).2.2) with
        | none => exact G2 hq2
        | some M => rw [hq2] at hn'; cases hn'
theorem m266 (hM : MI C h B) (hB : BigOK B) {i : Nat} (hi : i < (sStm (bS B)).length) (hn : 9800 ≤ n) : Rt (f_266 n 145 (nI (8 * h + i)) C) (fun z C' => (∀ L, ordL B i = some L → z = 1 ∧ cI C' 145 65 = nI L.length ∧ L.length ≤ 200 ∧ ∀ j, j < L.length → cI C' 195 j = nI (L.getD j 0)) ∧ (ordL B i = none → z = 0) ∧ FrR C C' ∧ cI C' 145 5 = cI C 145 5) := by
  have l8 := hB.1.2.2.2.2.2.2.2.1
  have c4 := hB.1.2.1
  have hh := hM.1.2.2.1.1
  have W := m226 (n := n) (f := 0) (h := h) (i := 8 * h + i) hM.1 (by omega) (hM.stm hi) (stmO_ok hB.1 hi) (by omega) hM.2.2.2.2.1.1.1 hM.2.2.2.2.1.1.2 hB.2.2.2.1.1.1 (by omega)
  rw [x_0] at W
  unfold f_266
  rw [if_pos k_145]
  refine rt_bind (rt_mono W (fun _ C1 H => ?_))
  obtain ⟨hF, F, _, xk⟩ := H
  have F1 := F.r (by omega)
  have M1 := hM.frR hB F1
  have t1 : cI C1 145 5 = cI C 145 5 := F.2.2.2 5 (by omega)
  have hR := rw_run (S := bS B) (t := stmO (bS B) i) (path := 0) (T := zT (bZ B)) xk
  have w200 := hR.2.2.1
  have hG := lgi_of hB hi hF xk
  dsimp only
  rw [hF.2.2.2.1]
  by_cases d : rE (sRight (bS B) (stmO (bS B) i) (zT (bZ B))) = 0
  · have eo : ordL B i = ordS (bS B) (stmO (bS B) i) (sReads (bS B) (stmO (bS B) i) 3 0 (zT (bZ B))).2 (rL (sRun (bS B) (stmO (bS B) i) 3 0 (zT (bZ B)))).length (rL (sRun (bS B) (stmO (bS B) i) 3 0 (zT (bZ B)))).length (fun _ => false) (zT (bZ B)) := by unfold ordL; rw [if_pos d]
    rw [if_pos d]
    refine rt_bind (rt_mono (m260 (n := n) M1.1.1 c4 M1.2.2.2.2.1.1.1 (by omega)) (fun _ C2 H => ?_))
    obtain ⟨W2, F2⟩ := H
    have M2 := M1.frR hB F2.r
    have G2 := hG.fr F2
    have Z := m266_z w200 (rL (sRun (bS B) (stmO (bS B) i) 3 0 (zT (bZ B)))).length 0 n C2 (by omega) (by omega) M2.1.1 G2.2.1
    rw [x_0] at Z
    refine rt_bind (rt_mono Z (fun _ C3 H => ?_))
    obtain ⟨rfl, p3, o3, v3⟩ := H
    have F3 : FrV C2 C3 := ⟨p3, fun b hb => o3 b (by omega), fun f _ _ => by rw [o3 145 (by omega)]⟩
    have M3 := M2.frR hB F3.r
    have L := m266_lp (h := h) hB.1 hR (rL (sRun (bS B) (stmO (bS B) i) 3 0 (zT (bZ B)))).length 0 n C3 (zT (bZ B)) (wid0 (zT (bZ B))) (fun _ => false) (by omega) (by omega) M3.1 (G2.fr F3) (W2.of (o3 193 (by omega))) (fun j hj => by rw [v3, if_pos (by omega)]; rfl) (OS.start hR hB.2.2.2.1.1.2)
    rw [x_0] at L
    refine rt_bind (rt_mono L (fun z C4 H => ?_))
    obtain ⟨g1, g2, _, F4⟩ := H
    have FF : FrR C C4 := F1.trans (F2.r.trans (F3.r.trans F4.r))
    have t4 : cI C4 145 5 = cI C 145 5 := by rw [F4.2.2 5 (by omega) (by omega), F3.2.2 5 (by omega) (by omega), F2.2.2 5 (by omega) (by omega), t1]
    have e65 : cI C4 145 65 = nI (rL (sRun (bS B) (stmO (bS B) i) 3 0 (zT (bZ B)))).length := ((G2.fr F3).fr F4).2.1
    cases hq : ordL B i with
    | none =>
      have ez := g2 (eo.symm.trans hq)
      subst ez
      exact rt_ret ⟨fun L hL => (by cases hL), fun _ => rfl, FF, t4⟩
    | some L =>
      obtain ⟨ez, g3⟩ := g1 L (eo.symm.trans hq)
      subst ez
      have ln := ord_len _ _ _ _ (eo.symm.trans hq)
      refine rt_ret ⟨fun L' hL' => ?_, fun z => (by cases z), FF, t4⟩
      cases hL'
      refine ⟨rfl, by rw [e65, ln], by omega, fun j hj => ?_⟩
      have := g3 j (by omega)
      rw [Nat.zero_add] at this
      exact this
  · have eo : ordL B i = none := by unfold ordL; rw [if_neg d]
    rw [if_neg d]
    exact rt_ret ⟨fun L hL => (by rw [eo] at hL; cases hL), fun _ => rfl, F1, t1⟩
theorem q268 (hM : MI C h B) (hB : BigOK B) (hn : 9900 ≤ n) (a b : Int32) : Rt (f_268 n 145 a b C) (fun z C' => An C' z (sOrd B a b) ∧ FrR C C') := by
  have l8 := hB.1.2.2.2.2.2.2.2.1
  obtain ⟨M0, t0, F0⟩ := hM.t0 hB
  generalize hC0 : uI C 145 5 0 = C0 at M0 t0 F0
  have hh := M0.1.2.2.1.1
  unfold f_268 sOrd
  rw [hC0]
  rcases ix_c (N := (sStm (bS B)).length) (by omega) a with ⟨na, ea⟩ | ⟨i, hi, rfl, ea⟩
  · rw [ea]
    simp only [↓reduceIte, k_145, if_true, if_false, not_true, ↓bd1 (m250_f (n := n) M0.1 na t0)]
    exact rt_ret (An_f F0)
  · rw [ea]
    have W := m266 (n := n) M0 hB hi (by omega)
    simp (disch := omega) only [k_145, if_true, if_false, n10f, not_false_iff, ↓bd1 (m250_t (n := n) M0.1 hi t0), M0.1.2.1, ↓reduceIte, n_2, n_3, n_4, n_5, n_6, n_7, n_8, n_10, n_12, n_20, n_30, n_40, n_100, n_120, n_150, n_200, n_230, n_320, n_450, n_900, x_le, x_lt, x_eq, x_lt0, x_le0, x_0le, x_0lt, x_eq0, x_eq1, x_1lt, x_le1, x_lt1, x_1le, x_eqm, x_add, x_a1, x_1a, x_a0, x_0a, x_mul, x_sub, x_s1, x_1s, x_div, x_cl, x_cl0, x_cl1, x_in, x_in0, x_in1, x_ofNat]
    refine rt_bind (rt_mono W (fun z C1 H => ?_))
    obtain ⟨G1, G2, F1, t1⟩ := H
    have t1 : cI C1 145 5 = 0 := t1.trans t0
    have FF := F0.trans F1
    have P1 := (M0.frR hB F1).1.1
    dsimp only
    cases ho : ordL B i with
    | none =>
      have ez := G2 ho
      subst ez
      dsimp only
      by_cases b1 : b = -1
      · rw [if_neg (fun z => z b1), if_pos rfl, if_pos b1]
        exact rt_ret ⟨⟨t1, rfl⟩, FF⟩
      · rw [if_pos b1, if_pos rfl, if_neg b1, bd1 (m162_f (n := n) (w := 1) t1 (by decide))]
        dsimp only
        rw [if_pos rfl]
        exact rt_ret (An_f FF)
    | some L =>
      obtain ⟨ez, e65, l200, g⟩ := G1 L ho
      subst ez
      dsimp only
      by_cases b1 : b = -1
      · rw [if_neg (fun z => z b1), if_neg (by decide), if_pos b1, e65]
        exact rt_ret ⟨⟨t1, rfl⟩, FF⟩
      · rw [if_pos b1, if_neg (by decide), if_neg b1, e65]
        rcases ix_c (N := L.length) (by omega) b with ⟨nb, eb⟩ | ⟨j, hj, rfl, eb⟩
        · rw [eb]
          by_cases b0 : b < 0
          · rw [if_pos b0, bd1 (m162_f (n := n) (w := 1) t1 (by decide))]
            dsimp only
            rw [if_pos rfl]
            exact rt_ret (An_f FF)
          · rw [if_neg b0, if_pos (nb.le (by omega) b0), bd1 (m162_f (n := n) (w := 1) t1 (by decide))]
            dsimp only
            rw [if_pos rfl]
            exact rt_ret (An_f FF)
        · rw [eb, if_neg (by rw [x_lt0 (by omega)]; exact id), if_neg (by rw [x_le (by omega) (by omega)]; omega), bd1 (m162_t (n := n) (w := 1) t1)]
          dsimp only
          rw [if_neg (by decide), bd1 (w_145_86 P1), if_pos k_195, l_195, if_pos ((x_in (by omega)).mpr (show j < 200 by omega)), x_cl (by omega), g j hj]
          exact rt_ret ⟨⟨t1, rfl⟩, FF⟩
end
