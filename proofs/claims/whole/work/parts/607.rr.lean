/-! The reference's right run. -/
theorem FrM.of180 {C C1 : AmC} (hp : cP C1 = cP C) (hj : cJ C1 = cJ C) (h : ∀ b, ¬ b = 180 → cI C1 b = cI C b) (lo : Nat) : FrM lo C C1 := ⟨hp, hj, fun b hb => h b (by unfold MX at hb; omega), fun f _ => by rw [h 145 (by decide)]⟩
theorem m226 {n : Nat} {C : AmC} {h i f : Nat} {S : Scr} {T : Tab} {t : Stm} (hM : MC C h S) (hi : i < 16) (ht : StmM C i t) (hto : StmOK (sCols S) t) (hf : f + 150 ≤ 12500) (hT : TabM 30 (sCols S) C 146 f T) (hZ : TabZ 30 (sCols S) C 146 f T) (hN : TabN (sCols S) T) (hn : 9600 ≤ n) : Rt (f_226 n 145 (nI i) (nI f) C) (fun _ C' => MrF C' S t (sRight S t T) ∧ FrM 55 C C' ∧ MK C' h S i t ∧ XOK S t 3 (sReads S t 3 0 T)) := by
  have hO := hM.2.2.2
  have h0 : PathOK S 0 := by unfold PathOK; omega
  unfold f_226
  rw [if_pos k_145]
  refine rt_bind (rt_mono (m225 (n := n) hM.1 hf hT hZ hO.2.1 (by omega)) (fun _ C1 H => ?_))
  obtain ⟨F1, _, _, T1, Z1⟩ := H
  have M1 := hM.fr F1 (by decide)
  have t1 : StmM C1 i t := ht.of (fun a h1 h2 => F1.2.2.1 a (by unfold MX; omega))
  dsimp only
  have L := m224 (n := n) (path := 0) (stage := 3) M1 hi t1 hto T1 Z1 hN h0 (by decide) (by omega)
  rw [show nI 3 = (3 : Int32) from rfl, x_0] at L
  refine rt_bind (rt_mono L (fun _ C2 H2 => ?_))
  obtain ⟨H1, F2, K2, X2⟩ := H2
  have FF : FrM 55 C C2 := (F1.mono (by decide)).trans (F2.mono (by decide))
  dsimp only
  rw [H1.2.2.2.1]
  unfold sRight sEnd
  by_cases e : rE (sRun S t 3 0 T) = 0
  · rw [if_pos e, if_pos e]
    have w192 := m192 (n := n) (a := 180) (f := 0) (N := 30) K2.1.1 K2.1.2.2.1 hO k_180 (by rw [l_180]; decide) (by decide) (by decide) H1.1 (by omega)
    rw [show nI 30 = (30 : Int32) from rfl, x_0, ← K2.1.2.1] at w192
    rw [bd1 (w_145_57 K2.1.1), bd1 w192]
    dsimp only
    cases hc : sClash 30 S (rT (sRun S t 3 0 T)) with
    | none =>
      simp only [↓reduceIte, oI_n, oI_s, not_true, if_false, Option.bind_none, clM]
      exact rt_ret ⟨H1, FF, K2, X2⟩
    | some j =>
      have hj : j < (sIdx S).length := by
        obtain ⟨_, z, _⟩ := qf_some hc
        omega
      have hl3 := hO.2.2.1
      have em : ¬ nI j = (-1 : Int32) := by rw [x_eqm (by omega)]; exact id
      have ts : ∃ p q, sTwin 30 S (rT (sRun S t 3 0 T)) j = some (p, q) := by
        obtain ⟨_, _, h3, _⟩ := qf_some hc
        simp only [Bool.and_eq_true] at h3
        cases hz : sTwin 30 S (rT (sRun S t 3 0 T)) j with
        | none => rw [hz] at h3; cases h3.2
        | some z => exact ⟨z.1, z.2, rfl⟩
      obtain ⟨p, q, ht2⟩ := ts
      simp only [↓reduceIte, oI_n, oI_s, em, not_false_iff, if_true, Option.bind_some, ht2, clM]
      have e55 : cI (uI (uI (uI (uI C2 145 55 (nI p)) 145 56 (nI q)) 145 66 5) 145 67 (nI j)) 145 55 = nI p := by simp [r_I]
      have e56 : cI (uI (uI (uI (uI C2 145 55 (nI p)) 145 56 (nI q)) 145 66 5) 145 67 (nI j)) 145 56 = nI q := by simp [r_I]
      rw [e55, e56, n_100, x_mul, x_add]
      have F3 : FrM 55 C2 (uI (uI C2 145 55 (nI p)) 145 56 (nI q)) := ((FrM.refl 55 C2).uF (by omega)).uF (by omega)
      have d3 : ∀ g, 57 ≤ g → cI (uI (uI C2 145 55 (nI p)) 145 56 (nI q)) 145 g = cI C2 145 g := fun g hg => by rw [r_I, if_neg (by omega), r_I, if_neg (by omega)]
      have M3 : MrF (uI (uI C2 145 55 (nI p)) 145 56 (nI q)) S t (sRun S t 3 0 T) := H1.of (fun g h1 _ => d3 g (by omega)) (fun b hb => by rw [r_In (by omega), r_In (by omega)])
      have K3 : MK (uI (uI C2 145 55 (nI p)) 145 56 (nI q)) h S i t := by
        obtain ⟨q1, q2, q3, q4, q5⟩ := K2
        have es : ∀ a, 151 ≤ a → a < 178 → cI (uI (uI C2 145 55 (nI p)) 145 56 (nI q)) a = cI C2 a := fun a z1 z2 => by rw [r_In (by omega), r_In (by omega)]
        exact ⟨q1.fr F3 (by decide), by rw [d3 59 (by decide)]; exact q2, q3, q4.of es, q5⟩
      generalize uI (uI C2 145 55 (nI p)) 145 56 (nI q) = D at F3 M3 K3
      have FK : FrK D (uI (uI (uI D 145 66 5) 145 67 (nI j)) 145 68 (nI (100 * p + q))) := (((FrK.refl D).u145 _ (by omega)).u145 _ (by omega)).u145 _ (by omega)
      have ew : twI (some (p, q)) = nI (100 * p + q) := rfl
      rw [ew]
      exact rt_ret ⟨M3.K FK (by rw [r_I, if_neg (by decide), r_I, if_neg (by decide), r_I, if_pos ⟨rfl, rfl⟩]) (by rw [r_I, if_neg (by decide), r_I, if_pos ⟨rfl, rfl⟩]) (by rw [r_I, if_pos ⟨rfl, rfl⟩]), (FF.trans F3).trans (FK.frM.mono (by decide)), K3.fr FK.frM (by decide), X2⟩
  · rw [if_neg e, if_neg e]
    exact rt_ret ⟨H1, FF, K2, X2⟩
