/-! The class's script while it is read: a statement begun, a statement added. -/
section
variable {n s i j N A B V W T U cols st F m : Nat} {C C' : AmC} {x : Nat → Nat} {X : Nat → Prop} {wt : Bool}
/-- a statement at st was read -/
def FrU (s st A V F : Nat) (C C' : AmC) : Prop := Fr (fun b => b = 109 ∨ b = s ∨ (s + 10 ≤ b ∧ b ≤ s + 15) ∨ (st ≤ b ∧ b ≤ st + 2)) C C' ∧ (∀ f, f ≠ 8 → f ≠ 11 → f ≠ 15 → f ≠ 17 → cI C' s f = cI C s f) ∧ (∀ k, k < A → cI C' (s + 10) k = cI C (s + 10) k ∧ cI C' (s + 11) k = cI C (s + 11) k ∧ cI C' (s + 12) k = cI C (s + 12) k) ∧ (0 < V → ∀ k, k ≤ V → cI C' (s + 13) k = cI C (s + 13) k) ∧ (∀ k, k < F → cI C' (s + 14) k = cI C (s + 14) k ∧ cI C' (s + 15) k = cI C (s + 15) k)
theorem FrU.trans {C1 C2 : AmC} (h : FrU s st A V T C C1) (g : FrU s st B W U C1 C2) (hB : A ≤ B) (hW : V ≤ W) (hU : T ≤ U) : FrU s st A V T C C2 := ⟨h.1.trans g.1, fun f z1 z y w => (g.2.1 f z1 z y w).trans (h.2.1 f z1 z y w), fun k z => ⟨(g.2.2.1 k (by omega)).1.trans (h.2.2.1 k z).1, (g.2.2.1 k (by omega)).2.1.trans (h.2.2.1 k z).2.1, (g.2.2.1 k (by omega)).2.2.trans (h.2.2.1 k z).2.2⟩, fun v k z => (g.2.2.2.1 (by omega) k (by omega)).trans (h.2.2.2.1 v k z), fun k z => ⟨(g.2.2.2.2 k (by omega)).1.trans (h.2.2.2.2 k z).1, (g.2.2.2.2 k (by omega)).2.trans (h.2.2.2.2 k z).2⟩⟩
theorem FrT.u (h : FrT wt X s A V T C C') (hX : ∀ b, X b → st ≤ b ∧ b ≤ st + 2) : FrU s st A V T C C' := ⟨h.1.mono (fun b z => by rcases z with z | z | z | z; exact Or.inl z; exact Or.inr (Or.inl z); exact Or.inr (Or.inr (Or.inl z)); exact Or.inr (Or.inr (Or.inr (hX b z)))), fun f _ z y w => h.2.1 f z y (Or.inl w), h.2.2.1, h.2.2.2.1, h.2.2.2.2.1⟩
theorem FrU.st1 {C1 : AmC} {b f : Nat} {v : Int32} (h : FrU s st A V T C C1) (h0 : st ≤ b) (h2 : b ≤ st + 2) (s1 : s + 16 ≤ st) : FrU s st A V T C (uI C1 b f v) := by
  refine ⟨h.1.uI (by omega), ?_, ?_, ?_, ?_⟩
  · intro f z1 z y w; rw [r_In (by omega)]; exact h.2.1 f z1 z y w
  · intro k z; rw [r_In (by omega), r_In (by omega), r_In (by omega)]; exact h.2.2.1 k z
  · intro v k z; rw [r_In (by omega)]; exact h.2.2.2.1 v k z
  · intro k z; rw [r_In (by omega), r_In (by omega)]; exact h.2.2.2.2 k z
theorem FrU.pa {C1 C2 : AmC} (hs : s ∈ scrL) (h : FrU s st A V T C C1) (g : Fr (fun b => b = 109) C1 C2) : FrU s st A V T C C2 := by
  have sl := scr_lt hs
  refine h.trans (⟨g.mono (fun b z => Or.inl z), ?_, ?_, ?_, ?_⟩ : FrU s st A V T C1 C2) (Nat.le_refl _) (Nat.le_refl _) (Nat.le_refl _)
  · intro f _ _ _ _; rw [g.2.1 s (by omega)]
  · intro k _; rw [g.2.1 (s + 10) (by omega), g.2.1 (s + 11) (by omega), g.2.1 (s + 12) (by omega)]; exact ⟨rfl, rfl, rfl⟩
  · intro _ k _; rw [g.2.1 (s + 13) (by omega)]
  · intro k _; rw [g.2.1 (s + 14) (by omega), g.2.1 (s + 15) (by omega)]; exact ⟨rfl, rfl⟩
/-- the text as it has been read so far -/
def PS (C : AmC) (s : Nat) (x : Nat → Nat) (N i : Nat) (t : Tel) (A V F : Nat) : Prop := Pc C s x N i ∧ ScrC C s t.1 ∧ TabC (sCols t.1) C (s + 1) (tlT t.2.1 t.2.2) ∧ AC C s A V ∧ cI C s 17 = nI F ∧ (2 * A ≤ ps x N i ∧ 3 * V ≤ ps x N i ∧ 6 * F ≤ ps x N i) ∧ (∀ k (h : k < (sStm t.1).length), ∃ f, cI C (s + 16 + 3 * k) 7 = nI f ∧ f + (tTst (sStm t.1)[k]).length ≤ F) ∧ 1 ≤ sCols t.1 ∧ sCols t.1 ≤ 4 ∧ (sStm t.1).length ≤ 8 ∧ (sIdx t.1).length ≤ 3 ∧ (sOth t.1).length ≤ 10 ∧ t.2.1 ≤ 30
theorem StmC.keep {t : Stm} {a A2 V2 : Nat} (h : StmC cols C s a t) (hA : AC C s A V) (f7 : ∃ f, cI C a 7 = nI f ∧ f + (tTst t).length ≤ F) (hF : F ≤ 450) (FU : FrU s st A V F C C') (e0 : cI C' a = cI C a) (e1 : cI C' (a + 1) = cI C (a + 1)) (e2 : cI C' (a + 2) = cI C (a + 2)) (hA2 : AC C' s A2 V2) (hv : V ≤ V2) (h4 : V2 ≤ 450) : StmC cols C' s a t := by
  obtain ⟨a1, a2, a3, a4, a5, a6, a7, f, a8, a9, a10, a11⟩ := h
  obtain ⟨f', g1, g2⟩ := f7
  rw [a8] at g1
  have ff : f = f' := (x_eq (by omega) (by omega)).mp g1
  subst ff
  have kv : ∀ k v, VC C s k v → VC C' s k v := fun k v z => z.keep hA FU.2.2.1 FU.2.2.2.1 hA2.2.1 hv h4
  have ko : ∀ y v, VOC C s y v → VOC C' s y v := fun y v z => by
    cases v with
    | none => exact z
    | some w =>
      obtain ⟨k, z1, z2⟩ := z
      exact ⟨k, z1, kv k w z2⟩
  refine ⟨by rw [e0]; exact a1, by rw [e0]; exact a2, by rw [e0]; exact a3, by rw [e0]; exact a4, by rw [e0]; exact a5, fun c hc => by rw [e1]; exact ko _ _ (a6 c hc), fun c hc => by rw [e2]; exact ko _ _ (a7 c hc), f, by rw [e0]; exact a8, by rw [e0]; exact a9, a10, fun i hi => ?_⟩
  obtain ⟨k, b1, b2, b3, b4⟩ := a11 i hi
  have z := FU.2.2.2.2 (f + i) (by omega)
  exact ⟨k, by rw [z.1]; exact b1, by rw [z.2]; exact b2, kv _ _ b3, kv _ _ b4⟩
theorem cat_last {α : Type} (l : List α) (a : α) (h : l.length < (l ++ [a]).length) : (l ++ [a])[l.length] = a := by simp
theorem sc_add {t : Tel} {t' : Stm} {A2 V2 : Nat} (hs : s ∈ scrL) (hS : ScrC C s t.1) (hT : TabC (sCols t.1) C (s + 1) (tlT t.2.1 t.2.2)) (hA : AC C s A V) (hf : ∀ k (h : k < (sStm t.1).length), ∃ f, cI C (s + 16 + 3 * k) 7 = nI f ∧ f + (tTst (sStm t.1)[k]).length ≤ F) (hF : F ≤ 450) (hst : st = s + 16 + 3 * (sStm t.1).length) (h8 : (sStm t.1).length < 8) (FU : FrU s st A V F C C') (e8 : cI C' s 8 = nI ((sStm t.1).length + 1)) (hA2 : AC C' s A2 V2) (hv : V ≤ V2) (h4 : V2 ≤ 450) (sm : StmC (sCols t.1) C' s st t') (f7 : cI C' st 7 = nI F) : ScrC C' s (scSt t.1 t') ∧ TabC (sCols t.1) C' (s + 1) (tlT t.2.1 t.2.2) ∧ ∀ k (h : k < (sStm (scSt t.1 t')).length), ∃ f, cI C' (s + 16 + 3 * k) 7 = nI f ∧ f + (tTst (sStm (scSt t.1 t'))[k]).length ≤ F + (tTst t').length := by
  have sl := scr_lt hs
  obtain ⟨a1, a2, a3, a4, a5, a6, a7, a8⟩ := hS
  have eS : sStm (scSt t.1 t') = sStm t.1 ++ [t'] := rfl
  have lS : (sStm (scSt t.1 t')).length = (sStm t.1).length + 1 := by rw [eS]; simp
  have cell : ∀ b, b ≠ 109 → b ≠ s → ¬ (s + 10 ≤ b ∧ b ≤ s + 15) → ¬ (st ≤ b ∧ b ≤ st + 2) → cI C' b = cI C b := fun b z1 z2 z3 z4 => FU.1.2.1 b (by omega)
  refine ⟨⟨?_, ?_, ?_, ?_, ?_, ?_, ?_, ?_⟩, ?_, ?_⟩
  · rw [FU.2.1 0 (by omega) (by omega) (by omega) (by omega)]; exact a1
  · rw [FU.2.1 2 (by omega) (by omega) (by omega) (by omega)]; exact a2
  · intro q hq
    rw [cell (s + 3) (by omega) (by omega) (by omega) (by omega), cell (s + 4) (by omega) (by omega) (by omega) (by omega)]
    exact a3 q hq
  · rw [FU.2.1 5 (by omega) (by omega) (by omega) (by omega)]; exact a4
  · rw [FU.2.1 6 (by omega) (by omega) (by omega) (by omega)]; exact a5
  · intro o ho c hc
    rw [cell (s + 5) (by omega) (by omega) (by omega) (by omega)]
    exact a6 o ho c hc
  · rw [lS]; exact e8
  · intro q hq
    have hq' : q < (sStm t.1).length + 1 := by rw [← lS]; exact hq
    by_cases d : q < (sStm t.1).length
    · have : (sStm (scSt t.1 t'))[q] = (sStm t.1)[q] := List.getElem_append_left d
      rw [this]
      exact (a8 q d).keep hA (hf q d) hF FU (cell _ (by omega) (by omega) (by omega) (by omega)) (cell _ (by omega) (by omega) (by omega) (by omega)) (cell _ (by omega) (by omega) (by omega) (by omega)) hA2 hv h4
    · have e : q = (sStm t.1).length := by omega
      subst e
      have : (sStm (scSt t.1 t'))[(sStm t.1).length] = t' := cat_last (sStm t.1) t' hq
      rw [this, ← hst]
      exact sm
  · exact hT.of (cell (s + 1) (by omega) (by omega) (by omega) (by omega)) (cell (s + 1 + 1) (by omega) (by omega) (by omega) (by omega))
  · intro k hk
    have hq' : k < (sStm t.1).length + 1 := by rw [← lS]; exact hk
    by_cases d : k < (sStm t.1).length
    · have : (sStm (scSt t.1 t'))[k] = (sStm t.1)[k] := List.getElem_append_left d
      rw [this, cell _ (by omega) (by omega) (by omega) (by omega)]
      obtain ⟨f, z1, z2⟩ := hf k d
      exact ⟨f, z1, by omega⟩
    · have e : k = (sStm t.1).length := by omega
      subst e
      have : (sStm (scSt t.1 t'))[(sStm t.1).length] = t' := cat_last (sStm t.1) t' hk
      rw [this, ← hst]
      exact ⟨F, f7, Nat.le_refl _⟩
/-! a statement begins -/
theorem c114_lp (hk : StK C st) : ∀ k j n C', j + k = 4 → k < n → cP C' = cP C → Rt (lp_114_17 n st (nI T) (nI j) C') (fun z D => z = (st, nI T) ∧ Fr (fun b => b = st + 1 ∨ b = st + 2) C' D ∧ (∀ c, c < j → cI D (st + 1) c = cI C' (st + 1) c ∧ cI D (st + 2) c = cI C' (st + 2) c) ∧ ∀ c, j ≤ c → c < 4 → cI D (st + 1) c = -1 ∧ cI D (st + 2) c = -1) := by
  intro k
  induction k with
  | zero =>
    intro j n C' h1 h2 hp
    obtain ⟨n, rfl⟩ : ∃ m, n = m + 1 := ⟨n - 1, by omega⟩
    rw [lp_114_17, n_4, if_pos ((x_le (by omega) (by omega)).mpr (by omega))]
    exact rt_ret ⟨rfl, Fr.refl _ _, fun _ _ => ⟨rfl, rfl⟩, fun c h3 h4 => absurd h4 (by omega)⟩
  | succ k ih =>
    intro j n C' h1 h2 hp
    obtain ⟨n, rfl⟩ : ∃ m, n = m + 1 := ⟨n - 1, by omega⟩
    have p6 : cP (uI C' (st + 1) j (-1)) st 6 = some (st + 2) := (by rw [p_I, hp]; exact hk.2.2.1)
    rw [lp_114_17, n_4, if_neg (by rw [x_le (by omega) (by omega)]; omega), if_pos hk.1, bd1 (show cP C' st 5 = some (st + 1) by rw [hp]; exact hk.2.1), if_pos hk.2.2.2.1, hk.2.2.2.2.1, if_pos ((x_in (by omega)).mpr (by omega)), x_cl (by omega), bd1 p6, if_pos hk.2.2.2.2.2.1, hk.2.2.2.2.2.2, if_pos ((x_in (by omega)).mpr (by omega)), x_a1]
    refine rt_mono (ih (j + 1) n _ (by omega) (by omega) hp) (fun z D H => ?_)
    obtain ⟨rfl, F1, H1, H2⟩ := H
    refine ⟨rfl, (((Fr.refl _ C').uI (Or.inl rfl)).uI (Or.inr rfl)).trans F1, fun c hc => ?_, fun c h3 h4 => ?_⟩
    · rw [(H1 c (by omega)).1, (H1 c (by omega)).2, r_In (by omega), r_I, if_neg (by omega), r_I, if_neg (by omega), r_In (by omega)]
      exact ⟨rfl, rfl⟩
    · by_cases d : c = j
      · subst d
        rw [(H1 c (by omega)).1, (H1 c (by omega)).2, r_In (by omega), r_I, if_pos ⟨rfl, rfl⟩, r_I, if_pos ⟨rfl, rfl⟩]
        exact ⟨rfl, rfl⟩
      · exact H2 c (by omega) h4
/-- a fresh statement -/
def StB (C : AmC) (s st F : Nat) (ch : Int32) : Prop := cI C st 0 = 0 ∧ cI C st 1 = 0 ∧ cI C st 2 = ch ∧ cI C st 3 = 0 ∧ cI C st 4 = 0 ∧ cI C st 7 = nI F ∧ cI C st 8 = 0 ∧ SetC C s (st + 1) no4 ∧ SetC C s (st + 2) no4
theorem stm_in {s m : Nat} (hs : s ∈ scrL) (hm : m < 8) : s + 16 + 3 * m ∈ stmsL := by
  have : ∀ s ∈ scrL, ∀ m, m < 8 → s + 16 + 3 * m ∈ stmsL := by decide
  exact this s hs m hm
theorem c114 (hn : 5 ≤ n) (hk : StK C st) : Rt (f_114 n st (nI F) C) (fun _ D => Fr (fun b => st ≤ b ∧ b ≤ st + 2) C D ∧ cI D st 0 = 0 ∧ cI D st 1 = 0 ∧ cI D st 2 = 0 ∧ cI D st 3 = 0 ∧ cI D st 4 = 0 ∧ cI D st 7 = nI F ∧ cI D st 8 = 0 ∧ ∀ c, c < 4 → cI D (st + 1) c = -1 ∧ cI D (st + 2) c = -1) := by
  unfold f_114
  rw [if_pos hk.1]
  refine rt_bind (rt_mono (c114_lp (T := F) hk 4 0 n _ rfl (by omega) rfl) (fun z D H => ?_))
  obtain ⟨rfl, F1, _, H2⟩ := H
  dsimp only
  rw [if_pos hk.1]
  have e := F1.2.1 st (by omega)
  refine rt_ret ⟨?_, ?_, ?_, ?_, ?_, ?_, ?_, ?_, ?_⟩
  · have F0 : Fr (fun b => st ≤ b ∧ b ≤ st + 2) C (uI (uI (uI (uI (uI C st 0 (0 : Int32)) st 1 (0 : Int32)) st 2 (0 : Int32)) st 3 (0 : Int32)) st 4 (0 : Int32)) := (((((Fr.refl _ C).uI (by omega)).uI (by omega)).uI (by omega)).uI (by omega)).uI (by omega)
    exact ((F0.trans (F1.mono (fun b z => by omega))).uI (by omega)).uI (by omega)
  · rw [r_I, if_neg (by omega), r_I, if_neg (by omega), e, r_I, if_neg (by omega), r_I, if_neg (by omega), r_I, if_neg (by omega), r_I, if_neg (by omega), r_I, if_pos ⟨rfl, rfl⟩]
  · rw [r_I, if_neg (by omega), r_I, if_neg (by omega), e, r_I, if_neg (by omega), r_I, if_neg (by omega), r_I, if_neg (by omega), r_I, if_pos ⟨rfl, rfl⟩]
  · rw [r_I, if_neg (by omega), r_I, if_neg (by omega), e, r_I, if_neg (by omega), r_I, if_neg (by omega), r_I, if_pos ⟨rfl, rfl⟩]
  · rw [r_I, if_neg (by omega), r_I, if_neg (by omega), e, r_I, if_neg (by omega), r_I, if_pos ⟨rfl, rfl⟩]
  · rw [r_I, if_neg (by omega), r_I, if_neg (by omega), e, r_I, if_pos ⟨rfl, rfl⟩]
  · rw [r_I, if_neg (by omega), r_I, if_pos ⟨rfl, rfl⟩]
  · rw [r_I, if_pos ⟨rfl, rfl⟩]
  · intro c hc
    rw [r_In (by omega), r_In (by omega), r_In (by omega), r_In (by omega)]
    exact H2 c (by omega) hc
theorem c33 {ch : Int32} (hn : 100 ≤ n) (h : Pc C s x N i) (hk : tK x N i ≠ 132) (hm : m < 8) (e8 : cI C s 8 = nI m) (eF : cI C s 17 = nI F) : Rt (f_33 n 109 ch C) (fun z C' => z = s + 16 + 3 * m ∧ Pc C' s x N (i + 1) ∧ cI C' s 8 = nI (m + 1) ∧ (∀ f, f ≠ 8 → cI C' s f = cI C s f) ∧ Fr (fun b => b = 109 ∨ b = s ∨ (s + 16 + 3 * m ≤ b ∧ b ≤ s + 16 + 3 * m + 2)) C C' ∧ cI C' 109 11 = 0 ∧ cI C' 109 12 = 1 ∧ StB C' s (s + 16 + 3 * m) F ch) := by
  have hs := h.2.1
  have sl := scr_lt hs
  have hG := h.go hk
  have sk := sc_of hG.1 hs
  have stk := st_of hG.1 (stm_in hs hm)
  have e8' : cI (uI C 109 4 ((cI C 109 4) + 1)) s 8 = nI m := by rw [r_In (by omega)]; exact e8
  have eF' : cI (uI C 109 4 ((cI C 109 4) + 1)) s 17 = nI F := by rw [r_In (by omega)]; exact eF
  have R91 : Rt (f_91 n s (uI C 109 4 ((cI C 109 4) + 1))) (fun z D => z = s + 16 + 3 * m ∧ Fr (fun b => b = s ∨ (s + 16 + 3 * m ≤ b ∧ b ≤ s + 16 + 3 * m + 2)) (uI C 109 4 ((cI C 109 4) + 1)) D ∧ cI D s 8 = nI (m + 1) ∧ (∀ f, f ≠ 8 → cI D s f = cI C s f) ∧ StB D s (s + 16 + 3 * m) F 0) := by
    unfold f_91
    rw [if_pos sk.1, e8', bd1 (c90 sk hm)]
    dsimp only
    rw [if_pos stk.1, eF']
    refine rt_bind (rt_mono (c114 (F := F) (by omega) stk) (fun _ D H => ?_))
    obtain ⟨F1, g0, g1, g2, g3, g4, g7, g8, gc⟩ := H
    have es : cI D s = cI C s := by rw [F1.2.1 s (by omega), r_In (by omega)]
    refine rt_ret ⟨rfl, (F1.mono (fun b z => Or.inr z)).uI (Or.inl rfl), ?_, fun f hf => ?_, ?_⟩
    · rw [r_I, if_pos ⟨rfl, rfl⟩, es, e8, x_a1]
    · rw [r_I, if_neg (by omega), es]
    · refine ⟨?_, ?_, ?_, ?_, ?_, ?_, ?_, fun c hc => ?_, fun c hc => ?_⟩
      · rw [r_In (by omega)]; exact g0
      · rw [r_In (by omega)]; exact g1
      · rw [r_In (by omega)]; exact g2
      · rw [r_In (by omega)]; exact g3
      · rw [r_In (by omega)]; exact g4
      · rw [r_In (by omega)]; exact g7
      · rw [r_In (by omega)]; exact g8
      · show cI _ _ _ = -1
        rw [r_In (by omega)]; exact (gc c hc).1
      · show cI _ _ _ = -1
        rw [r_In (by omega)]; exact (gc c hc).2
  unfold f_33
  rw [if_pos k_109, bd1 hG.2.2.1, if_pos sk.1]
  refine rt_bind (rt_mono R91 (fun z D H => ?_))
  obtain ⟨rfl, F1, g8, gs, b0, b1, b2, b3, b4, b7, b8, bs, bv⟩ := H
  dsimp only
  rw [if_pos stk.1]
  have w : f_38 n 109 0 1 (uI D (s + 16 + 3 * m) 2 ch) = some ((), uI (uI (uI D (s + 16 + 3 * m) 2 ch) 109 11 0) 109 12 1) := by
    unfold f_38
    rw [if_pos k_109, if_pos (Or.inl rfl), if_pos (Or.inr rfl)]
  rw [bd1 w]
  have cD : ∀ b, b ≠ 109 → b ≠ s + 16 + 3 * m → cI (uI (uI (uI D (s + 16 + 3 * m) 2 ch) 109 11 0) 109 12 1) b = cI D b := fun b z1 z2 => by rw [r_In z1, r_In z1, r_In z2]
  have pD : Pc D s x N (i + 1) := hG.of F1.1 (fun b z1 z2 => F1.2.1 b (by omega))
  refine rt_ret ⟨rfl, ((pD.cell (by omega)).set (by omega)).set (by omega), ?_, fun f hf => ?_, ?_, ?_, ?_, ?_, ?_, ?_, ?_, ?_, ?_, ?_, fun c hc => ?_, fun c hc => ?_⟩
  · rw [cD s (by omega) (by omega)]; exact g8
  · rw [cD s (by omega) (by omega)]; exact gs f hf
  · have F0 : Fr (fun b => b = 109 ∨ b = s ∨ (s + 16 + 3 * m ≤ b ∧ b ≤ s + 16 + 3 * m + 2)) C (uI C 109 4 ((cI C 109 4) + 1)) := (Fr.refl _ C).uI (Or.inl rfl)
    exact (((F0.trans (F1.mono (fun b z => Or.inr z))).uI (by omega)).uI (Or.inl rfl)).uI (Or.inl rfl)
  · rw [r_I, if_neg (by omega), r_I, if_pos ⟨rfl, rfl⟩]
  · rw [r_I, if_pos ⟨rfl, rfl⟩]
  · rw [r_In (by omega), r_In (by omega), r_I, if_neg (by omega)]; exact b0
  · rw [r_In (by omega), r_In (by omega), r_I, if_neg (by omega)]; exact b1
  · rw [r_In (by omega), r_In (by omega), r_I, if_pos ⟨rfl, rfl⟩]
  · rw [r_In (by omega), r_In (by omega), r_I, if_neg (by omega)]; exact b3
  · rw [r_In (by omega), r_In (by omega), r_I, if_neg (by omega)]; exact b4
  · rw [r_In (by omega), r_In (by omega), r_I, if_neg (by omega)]; exact b7
  · rw [r_In (by omega), r_In (by omega), r_I, if_neg (by omega)]; exact b8
  · show cI _ _ _ = -1
    rw [cD _ (by omega) (by omega)]; exact bs c hc
  · show cI _ _ _ = -1
    rw [cD _ (by omega) (by omega)]; exact bv c hc
end
