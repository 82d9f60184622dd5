/-! The class reads what is set, what a new row is, tests. -/
section
variable {n s i j N A B V W T U cols st : Nat} {C C' : AmC} {x : Nat → Nat} {oth col : Bool} {X Y : Nat → Prop} {wt : Bool}
theorem tN_col (h : tK x N i = 130) : tN x N i < 4 := by
  have hp := ps_k (x := x) (N := N) (i := i) (by omega)
  unfold tK at h
  rw [if_pos hp] at h
  unfold tN
  rw [if_pos hp]
  unfold tkK at h
  unfold tkN
  by_cases lt : isLt (x (ps x N i)) = true
  · rw [if_pos lt] at h ⊢
    by_cases co : isCo (sl x (ps x N i) (tkE x N (ps x N i))) = true
    · rw [if_pos co]
      unfold isCo at co
      rw [Bool.and_eq_true, decide_eq_true_eq, decide_eq_true_eq] at co
      have e : (sl x (ps x N i) (tkE x N (ps x N i))).getD 0 0 = x (ps x N i) := by
        have := (sl_eq (x := x) (p := ps x N i) (e := tkE x N (ps x N i)) (w := sl x (ps x N i) (tkE x N (ps x N i)))).mp rfl
        have := this.2 0 (by omega)
        rw [Nat.add_zero] at this
        exact this.symm
      omega
    · rw [if_neg co]; decide
  · rw [if_neg lt] at h ⊢
    by_cases dg : isDg (x (ps x N i)) = true
    · rw [if_pos dg] at h
      split at h <;> omega
    · rw [if_neg dg]; decide
/-- what is appended to a script -/
def FrT (wt : Bool) (X : Nat → Prop) (s A V T : Nat) (C C' : AmC) : Prop := Fr (fun b => b = 109 ∨ b = s ∨ (s + 10 ≤ b ∧ b ≤ s + 15) ∨ X b) C C' ∧ (∀ f, f ≠ 11 → f ≠ 15 → (f ≠ 17 ∨ wt = false) → cI C' s f = cI C s f) ∧ (∀ k, k < A → cI C' (s + 10) k = cI C (s + 10) k ∧ cI C' (s + 11) k = cI C (s + 11) k ∧ cI C' (s + 12) k = cI C (s + 12) k) ∧ (0 < V → ∀ k, k ≤ V → cI C' (s + 13) k = cI C (s + 13) k) ∧ (∀ k, k < T → cI C' (s + 14) k = cI C (s + 14) k ∧ cI C' (s + 15) k = cI C (s + 15) k) ∧ cI C' 109 11 = cI C 109 11 ∧ cI C' 109 12 = cI C 109 12
theorem FrT.refl : FrT wt X s A V T C C := ⟨Fr.refl _ C, fun _ _ _ _ => rfl, fun _ _ => ⟨rfl, rfl, rfl⟩, fun _ _ _ => rfl, fun _ _ => ⟨rfl, rfl⟩, rfl, rfl⟩
theorem FrVa.t (hs : s ∈ scrL) (h : FrVa s A V C C') : FrT wt X s A V T C C' := by
  have sl := scr_lt hs
  refine ⟨h.1.mono (fun a z => by omega), fun f z y _ => h.2.1 f z y, h.2.2.1, h.2.2.2.1, fun k _ => ?_, h.2.2.2.2⟩
  rw [h.1.2.1 (s + 14) (by omega), h.1.2.1 (s + 15) (by omega)]
  exact ⟨rfl, rfl⟩
theorem FrPa.t (hs : s ∈ scrL) (h : FrPa C C') : FrT wt X s A V T C C' := ((h.a hs).v hs).t hs
theorem FrT.trans {C1 C2 : AmC} (h : FrT wt X s A V T C C1) (g : FrT wt X s B W U C1 C2) (hB : A ≤ B) (hW : V ≤ W) (hU : T ≤ U) : FrT wt X s A V T C C2 := ⟨h.1.trans g.1, fun f z y w => (g.2.1 f z y w).trans (h.2.1 f z y w), fun k z => ⟨(g.2.2.1 k (by omega)).1.trans (h.2.2.1 k z).1, (g.2.2.1 k (by omega)).2.1.trans (h.2.2.1 k z).2.1, (g.2.2.1 k (by omega)).2.2.trans (h.2.2.1 k z).2.2⟩, fun v k z => (g.2.2.2.1 (by omega) k (by omega)).trans (h.2.2.2.1 v k z), fun k z => ⟨(g.2.2.2.2.1 k (by omega)).1.trans (h.2.2.2.2.1 k z).1, (g.2.2.2.2.1 k (by omega)).2.trans (h.2.2.2.2.1 k z).2⟩, g.2.2.2.2.2.1.trans h.2.2.2.2.2.1, g.2.2.2.2.2.2.trans h.2.2.2.2.2.2⟩
theorem FrT.tr {C1 C2 : AmC} (h : FrT wt X s A V T C C1) (g : FrT wt X s A V T C1 C2) : FrT wt X s A V T C C2 := h.trans g (Nat.le_refl _) (Nat.le_refl _) (Nat.le_refl _)
theorem FrT.mono (h : FrT wt X s A V T C C') (g : ∀ b, X b → Y b) : FrT wt Y s A V T C C' := ⟨h.1.mono (fun a z => by rcases z with z | z | z | z; exact Or.inl z; exact Or.inr (Or.inl z); exact Or.inr (Or.inr (Or.inl z)); exact Or.inr (Or.inr (Or.inr (g a z)))), h.2⟩
/-- a cell of the statement -/
theorem FrT.cell {C1 : AmC} {b f : Nat} {v : Int32} (hs : s ∈ scrL) (h : FrT wt X s A V T C C1) (hX : X b) (h1 : s + 16 ≤ b) (h2 : b < s + 40) : FrT wt X s A V T C (uI C1 b f v) := by
  have sl := scr_lt hs
  refine ⟨h.1.uI (Or.inr (Or.inr (Or.inr hX))), ?_, ?_, ?_, ?_, ?_, ?_⟩
  · intro f z y w; rw [r_In (by omega)]; exact h.2.1 f z y w
  · intro k z; rw [r_In (by omega), r_In (by omega), r_In (by omega)]; exact h.2.2.1 k z
  · intro v k z; rw [r_In (by omega)]; exact h.2.2.2.1 v k z
  · intro k z; rw [r_In (by omega), r_In (by omega)]; exact h.2.2.2.2.1 k z
  · rw [r_In (by omega)]; exact h.2.2.2.2.2.1
  · rw [r_In (by omega)]; exact h.2.2.2.2.2.2
theorem VC.keepT {k V2 : Nat} {v : Val} (h : VC C s k v) (hA : AC C s A V) (F : FrT wt X s A V T C C') (h15 : cI C' s 15 = nI V2) (hv : V ≤ V2) (h4 : V2 ≤ 450) : VC C' s k v := h.keep hA F.2.2.1 F.2.2.2.1 h15 hv h4
theorem VOC.keepT {V2 : Nat} {y : Int32} {v : Option Val} (h : VOC C s y v) (hA : AC C s A V) (F : FrT wt X s A V T C C') (h15 : cI C' s 15 = nI V2) (hv : V ≤ V2) (h4 : V2 ≤ 450) : VOC C' s y v := by
  cases v with
  | none => exact h
  | some w =>
    obtain ⟨k, e, g⟩ := h
    exact ⟨k, e, g.keepT hA F h15 hv h4⟩
theorem AC.cell {b f : Nat} {v : Int32} (h : AC C s A V) (h1 : s + 16 ≤ b) : AC (uI C b f v) s A V := by
  unfold AC
  rw [r_In (by omega), r_In (by omega)]
  exact h
theorem AC.pa (h : AC C s A V) (hs : s ∈ scrL) (F : FrPa C C') : AC C' s A V := by
  have sl := scr_lt hs
  unfold AC
  rw [F.1.2.1 s (by omega), F.1.2.1 (s + 13) (by omega)]
  exact h
theorem VOC.pa {y : Int32} {v : Option Val} (h : VOC C s y v) (hs : s ∈ scrL) (F : FrPa C C') : VOC C' s y v := by
  have sl := scr_lt hs
  exact h.of (fun a z1 z2 => F.1.2.1 a (by omega))
theorem VC.stc {k b f : Nat} {y : Int32} {v : Val} (h : VC C s k v) (h1 : s + 16 ≤ b) : VC (uI C b f y) s k v := h.of (fun a z1 z2 => by rw [r_In (by omega)])
theorem VOC.stc {b f : Nat} {y z : Int32} {v : Option Val} (h : VOC C s z v) (h1 : s + 16 ≤ b) : VOC (uI C b f y) s z v := h.of (fun a z1 z2 => by rw [r_In (by omega)])
theorem Pc.cell {b f : Nat} {v : Int32} (h : Pc C s x N i) (h2 : b < s + 40) : Pc (uI C b f v) s x N i := by
  have sl := scr_lt h.2.1
  exact h.of rfl (fun a z1 z2 => by rw [r_In (by omega)])
theorem c115r {c : Nat} (hk : StK C st) (hc : c < 4) : f_115 n st (nI c) C = some (if cI C (st + 1) c = -1 then 0 else 1, C) := by
  have c4 : ¬ 4 ≤ c := by omega
  unfold f_115
  simp (disch := omega) only [↓reduceIte, n_2, n_3, n_4, n_5, n_6, n_7, n_8, n_10, n_12, n_20, n_30, n_40, n_100, n_120, n_150, n_200, n_230, n_320, n_450, n_900, x_le, x_lt, x_eq, x_lt0, x_le0, x_0le, x_0lt, x_eq0, x_eq1, x_1lt, x_le1, x_lt1, x_1le, x_eqm, x_add, x_a1, x_1a, x_a0, x_0a, x_mul, x_sub, x_s1, x_1s, x_div, x_cl, x_cl0, x_cl1, x_in, x_in0, x_in1, x_ofNat, c4, if_true, if_false, hk.1, ↓bd1 hk.2.1, hk.2.2.2.1, hk.2.2.2.2.1, hc]
  split <;> rfl
def SetC (C : AmC) (s a : Nat) (g : Nat → Option Val) : Prop := ∀ c, c < 4 → VOC C s (cI C a c) (g c)
/-- what a step of reading leaves: counts, and where they are -/
def Cnt (C' : AmC) (s A V : Nat) (x : Nat → Nat) (N j : Nat) : Prop := ∃ A' V', A ≤ A' ∧ V ≤ V' ∧ AC C' s A' V' ∧ 2 * A' ≤ ps x N j + 1 ∧ 3 * V' ≤ ps x N j
theorem c39_lp (h1c : 1 ≤ cols) (h4 : cols ≤ 4) (hst : st ∈ stmsL) (s1 : s + 16 ≤ st) (s2 : st + 2 < s + 40) : ∀ f p i g C n A V, f + p = 5 → f + 1000 < n → Pc C s x N i → cI C s 0 = nI cols → cI C 109 11 = (if oth = true then 1 else 0) → cI C 109 12 = 1 → AC C s A V → 2 * A ≤ ps x N i + 1 → 3 * V ≤ ps x N i → SetC C s (st + 1) g →
    Rt (lp_39_2 n 109 st (nI p) C) (fun z C' => FrT false (fun b => b = st + 1) s A V T C C' ∧ ((∃ j, z = .inl 109 ∧ spT x N oth cols f i g = .inl (3, j) ∧ Pc C' s x N j) ∨ (∃ k j, (z = .inr (.inl ()) ∨ z = .inr (.inr (.inl ()))) ∧ spT x N oth cols f i g = .inl (k, j) ∧ Flt C' x N k j) ∨ (∃ j, z = .inr (.inr (.inr (.inr 109))) ∧ spT x N oth cols f i g = .inl (1, j) ∧ Pc C' s x N j) ∨ ∃ g' j, z = .inr (.inr (.inr (.inl ()))) ∧ spT x N oth cols f i g = .inr (g', j) ∧ Pc C' s x N j ∧ Cnt C' s A V x N j ∧ SetC C' s (st + 1) g')) := by
  intro f
  induction f with
  | zero =>
    intro p i g C n A V h1 h2 h hc ho hl hA b1 b2 hG
    obtain ⟨n, rfl⟩ : ∃ m, n = m + 1 := ⟨n - 1, by omega⟩
    have : p = 5 := by omega
    subst this
    rw [lp_39_2, if_pos (by decide)]
    exact rt_ret ⟨FrT.refl, Or.inr (Or.inr (Or.inl ⟨i, rfl, rfl, h⟩))⟩
  | succ f ih =>
    intro p i g C n A V h1 h2 h hc ho hl hA b1 b2 hG
    obtain ⟨n, rfl⟩ : ∃ m, n = m + 1 := ⟨n - 1, by omega⟩
    have hs := h.2.1
    have sl := scr_lt hs
    have N9 := h.2.2.2.2.2.2.2.2
    have pi := ps_le (x := x) (N := N) i
    rw [lp_39_2, n_4, if_neg (by rw [x_lt (by omega) (by omega)]; omega), if_pos k_109, bd1 (c23 h)]
    dsimp only
    by_cases e : tK x N i = 130
    · have tc := tN_col e
      have p1 := ps_1 (x := x) (N := N) (i := i) (by omega)
      rw [if_neg (fun q => q (tq_130.mpr e)), bd1 (c24 h)]
      dsimp only
      have hk := st_of h.1 hst
      rw [if_pos hk.1, bd1 (c115r hk tc)]
      dsimp only
      cases gc : g (tN x N i) with
      | some w =>
        have : ¬ cI C (st + 1) (tN x N i) = -1 := by rw [(hG _ tc).m1, gc]; simp
        rw [if_neg this, if_neg (by decide)]
        refine rt_ret ⟨FrT.refl, Or.inl ⟨i, rfl, ?_, h⟩⟩
        rw [spT, if_pos e, if_neg (by rw [gc]; simp)]
      | none =>
        have : cI C (st + 1) (tN x N i) = -1 := by rw [(hG _ tc).m1, gc]
        rw [if_pos this, if_pos rfl]
        refine rt_bind (rt_mono (c31 h hc h4) (fun z C1 H => ?_))
        obtain ⟨F1, ⟨k, j, er, rfl, fl⟩ | ⟨c, j, er, rfl, p2, ec⟩⟩ := H
        · dsimp only
          rw [if_neg (fun q => q rfl)]
          refine rt_ret ⟨F1.t hs, Or.inr (Or.inl ⟨k, j, Or.inl rfl, ?_, fl⟩)⟩
          unfold spC at er
          rw [if_pos e] at er
          by_cases g1 : tN x N i < cols
          · rw [if_pos g1] at er; cases er
          · rw [if_neg g1] at er
            cases er
            rw [spT, if_pos e, if_neg (fun q => g1 q.1)]
        · obtain ⟨_, rfl, cl, rfl⟩ := spC_ps er
          dsimp only
          rw [if_pos (by decide)]
          have sT : spT x N oth cols (f + 1) i g = (if tK x N (i + 1) = 61 then (match spW x N oth true cols (i + 2) with
            | .inl e => .inl e
            | .inr (v, j) => if tK x N j = 44 then spT x N oth cols f (j + 1) (ufn g (tN x N i) v) else .inr (ufn g (tN x N i) v, j)) else .inl (1, i + 1)) := by rw [spT, if_pos e, if_pos ⟨cl, gc⟩]; rfl
          refine rt_bind (rt_mono (c26 (c := 61) p2 (by decide) (by decide)) (fun z C2 H => ?_))
          obtain ⟨F2, ⟨k, j, er, rfl, fl⟩ | ⟨u, j, er, rfl, p3, _⟩⟩ := H
          · dsimp only
            rw [if_pos rfl]
            refine rt_ret ⟨(F1.trans F2).t hs, Or.inr (Or.inl ⟨k, j, Or.inr rfl, ?_, fl⟩)⟩
            unfold spP at er
            by_cases q : tK x N (i + 1) = 61
            · rw [if_pos q] at er; cases er
            · rw [if_neg q] at er; cases er; rw [sT, if_neg q]
          · have q61 : tK x N (i + 1) = 61 ∧ j = i + 2 := by
              unfold spP at er
              by_cases q : tK x N (i + 1) = 61
              · rw [if_pos q] at er; cases er; exact ⟨q, rfl⟩
              · rw [if_neg q] at er; cases er
            obtain ⟨q61, rfl⟩ := q61
            rw [if_pos q61] at sT
            have p4 : ps x N (i + 1) + 1 ≤ ps x N (i + 2) := ps_1 (by omega)
            have F12 := F1.trans F2
            dsimp only
            rw [if_neg (by decide)]
            refine rt_bind (rt_mono (c42 (n := n) (oth := oth) (col := true) (A := A) (V := V) h1c h4 p3 (by rw [F12.1.2.1 s (by omega)]; exact hc) (by rw [F12.2.1]; exact ho) (by rw [F12.2.2]; exact hl) (hA.pa hs F12) (by omega) (by omega) (by omega)) (fun z C3 H => ?_))
            obtain ⟨F3, ⟨k, j, er, rfl, fl⟩ | ⟨v, j, er, rfl, p5, ev, vc, ac, b3⟩⟩ := H
            · dsimp only
              rw [if_neg (fun q => q rfl)]
              exact rt_ret ⟨(F12.t hs).tr (F3.t hs), Or.inr (Or.inl ⟨k, j, Or.inr rfl, by rw [sT, er], fl⟩)⟩
            · obtain ⟨t1, t2, t3, _⟩ := spW_ps h1c N9 er
              rw [er] at sT
              have sT : spT x N oth cols (f + 1) i g = (if tK x N j = 44 then spT x N oth cols f (j + 1) (ufn g (tN x N i) v) else .inr (ufn g (tN x N i) v, j)) := sT
              have hk3 := st_of p5.1 hst
              dsimp only
              have pj := ps_le (x := x) (N := N) j
              rw [if_pos (by decide), ec, if_neg (by rw [x_lt0 (by omega)]; exact id), if_neg (by rw [x_le (by omega) (by omega)]; omega), bd1 hk3.2.1, if_pos hk3.2.2.2.1, hk3.2.2.2.2.1, if_pos ((x_in (by omega)).mpr tc), x_cl (by omega), ev]
              have p6 : Pc (uI C3 (st + 1) (tN x N i) (nI V)) s x N j := p5.cell (by omega)
              rw [bd1 (c23 p6)]
              dsimp only
              have F6 : FrT false (fun b => b = st + 1) s A V T C (uI C3 (st + 1) (tN x N i) (nI V)) := ((F12.t hs).tr (F3.t hs)).cell hs rfl (by omega) (by omega)
              have ac6 : AC (uI C3 (st + 1) (tN x N i) (nI V)) s (A + v.length) (V + 1) := ac.cell (by omega)
              have G6 : SetC (uI C3 (st + 1) (tN x N i) (nI V)) s (st + 1) (ufn g (tN x N i) v) := by
                intro c hc4
                unfold ufn
                by_cases d : c = tN x N i
                · rw [if_pos d, d, r_I, if_pos ⟨rfl, rfl⟩]
                  exact ⟨V, rfl, vc.stc (by omega)⟩
                · rw [if_neg d, r_I, if_neg (fun q => d q.2), F3.1.2.1 (st + 1) (by omega), F12.1.2.1 (st + 1) (by omega)]
                  exact (((hG c hc4).pa hs F12).keepT (wt := false) (X := fun b => b = st + 1) (T := T) (hA.pa hs F12) (F3.t hs) ac.2.1 (by omega) (by omega)).stc (by omega)
              by_cases q44 : tK x N j = 44
              · rw [if_pos q44] at sT
                have p7 := ps_1 (x := x) (N := N) (i := j) (by omega)
                rw [if_pos (tq_44.mpr q44), x_a1, sT]
                have F7 : FrPa (uI C3 (st + 1) (tN x N i) (nI V)) (uI (uI C3 (st + 1) (tN x N i) (nI V)) 109 4 ((cI (uI C3 (st + 1) (tN x N i) (nI V)) 109 4) + 1)) := (FrPa.refl _).u (by omega)
                have F8 : FrT false (fun b => b = st + 1) s A V T C (uI (uI C3 (st + 1) (tN x N i) (nI V)) 109 4 ((cI (uI C3 (st + 1) (tN x N i) (nI V)) 109 4) + 1)) := F6.tr (F7.t hs)
                refine rt_mono (ih (p + 1) (j + 1) (ufn g (tN x N i) v) _ n (A + v.length) (V + 1) (by omega) (by omega) (p6.go (by omega)) (by rw [F8.2.1 0 (by omega) (by omega) (Or.inl (by omega))]; exact hc) (by rw [F8.2.2.2.2.2.1]; exact ho) (by rw [F8.2.2.2.2.2.2]; exact hl) (ac6.pa hs F7) (by omega) (by omega) (fun c hc4 => by rw [F7.1.2.1 (st + 1) (by omega)]; exact (G6 c hc4).pa hs F7)) (fun z D H => ?_)
                obtain ⟨F9, H⟩ := H
                refine ⟨F8.trans F9 (by omega) (by omega) (Nat.le_refl _), ?_⟩
                rcases H with H | H | H | ⟨g', j', H1, H2, H3, ⟨A', V', H4, H5, H6⟩, H7⟩
                · exact Or.inl H
                · exact Or.inr (Or.inl H)
                · exact Or.inr (Or.inr (Or.inl H))
                · exact Or.inr (Or.inr (Or.inr ⟨g', j', H1, H2, H3, ⟨A', V', by omega, by omega, H6⟩, H7⟩))
              · rw [if_neg q44] at sT
                rw [if_neg (fun q => q44 (tq_44.mp q))]
                exact rt_ret ⟨F6, Or.inr (Or.inr (Or.inr ⟨_, j, rfl, sT, p6, ⟨A + v.length, V + 1, by omega, by omega, ac6, by omega, by omega⟩, G6⟩))⟩
    · rw [if_pos (fun q => e (tq_130.mp q))]
      refine rt_bind (rt_mono (c31 h hc h4) (fun z C1 H => ?_))
      obtain ⟨F1, ⟨k, j, er, rfl, fl⟩ | ⟨c, j, er, rfl, p2, ec⟩⟩ := H
      · dsimp only
        rw [if_neg (fun q => q rfl)]
        refine rt_ret ⟨F1.t hs, Or.inr (Or.inl ⟨k, j, Or.inl rfl, ?_, fl⟩)⟩
        unfold spC at er
        rw [if_neg e] at er
        cases er
        rw [spT, if_neg e]
      · exact absurd (spC_ps er).1 e
theorem c39 {g : Nat → Option Val} (h1c : 1 ≤ cols) (h4 : cols ≤ 4) (hst : st ∈ stmsL) (s1 : s + 16 ≤ st) (s2 : st + 2 < s + 40) (hn : 2000 ≤ n) (h : Pc C s x N i) (hc : cI C s 0 = nI cols) (ho : cI C 109 11 = if oth = true then 1 else 0) (hl : cI C 109 12 = 1) (hA : AC C s A V) (b1 : 2 * A ≤ ps x N i + 1) (b2 : 3 * V ≤ ps x N i) (hG : SetC C s (st + 1) g) :
    Rt (f_39 n 109 st C) (fun z C' => FrT false (fun b => b = st + 1) s A V T C C' ∧ PRc C' z s x N (spT x N oth cols 5 i g) (fun g' j => Cnt C' s A V x N j ∧ SetC C' s (st + 1) g')) := by
  have hs := h.2.1
  unfold f_39
  refine rt_bind (rt_mono (c39_lp (T := T) (oth := oth) h1c h4 hst s1 s2 5 0 i g C n A V rfl (by omega) h hc ho hl hA b1 b2 hG) (fun z C1 H => ?_))
  obtain ⟨F, ⟨j, rfl, e, p1⟩ | ⟨k, j, hz, e, fl⟩ | ⟨j, rfl, e, p1⟩ | ⟨g', j, rfl, e, p1, H1, H2⟩⟩ := H
  · dsimp only
    rw [if_pos k_109]
    exact rt_mono (c25r (α := Nat → Option Val) (k := 3) (Q := fun _ _ _ => False) p1 (by omega) rfl _ e) (fun z D H => ⟨F.tr (H.1.t hs), H.2.elim Or.inl (fun ⟨_, _, _, _, _, H⟩ => H.elim)⟩)
  · rcases hz with rfl | rfl
    · exact rt_ret ⟨F, Or.inl ⟨k, j, e, rfl, fl⟩⟩
    · exact rt_ret ⟨F, Or.inl ⟨k, j, e, rfl, fl⟩⟩
  · dsimp only
    rw [if_pos k_109]
    exact rt_mono (c25r (α := Nat → Option Val) (k := 1) (Q := fun _ _ _ => False) p1 (by omega) rfl _ e) (fun z D H => ⟨F.tr (H.1.t hs), H.2.elim Or.inl (fun ⟨_, _, _, _, _, H⟩ => H.elim)⟩)
  · exact rt_ret ⟨F, Or.inr ⟨g', j, e, rfl, p1, H1, H2⟩⟩
end
