/-! The reference reads what a new row is, and tests. -/
section
variable {n h i j N A V B U cols s T : Nat} {C C' : AmC} {x : Nat → Nat} {oth col : Bool}
theorem b181 {s mg c : Int32} (hP : PInv C) (hh : h < 2) (e41 : cI C 145 41 = nI h) (g : Bd C) (hn : 1 ≤ n) : lp_181_2 n 145 s mg c C = some ((), C) := by
  obtain ⟨n, rfl⟩ : ∃ m, n = m + 1 := ⟨n - 1, by omega⟩
  rw [lp_181_2, if_pos k_145, bd1 (w_145_21 hP), if_pos k_159, e41, l_159, if_pos ((x_in (by omega)).mpr hh), if_pos g]
  split <;> rfl
def RF (h A V s : Nat) (x : Nat → Nat) (N : Nat) (C : AmC) (r : PE (Nat → Option Val)) (C' : AmC) : Prop := FrZ (WS h A V 177 (4 * s)) C C' ∧ PRm C' h x N r (fun g' j => ∃ A' V', CntL C' h A V x N j A' V' ∧ SetM C' h A' V' 177 (4 * s) g')
theorem m181_lp {mg : Int32} (h1c : 1 ≤ cols) (h4 : cols ≤ 4) (hs : 8 * h ≤ s ∧ s < 8 * h + 8) (ho : mg = if oth = true then 1 else 0) : ∀ k c i g C n A V, c + k = cols → k + 2300 < n → Pm C h x N i → cI C 159 h = nI cols → AM C h A V → 2 * A ≤ ps x N i + (if c = 0 then 0 else 1) → 3 * V + 5 + (if c = 0 then 1 else 0) ≤ ps x N i + c → SetM C h A V 177 (4 * s) g → Rt (lp_181_2 n 145 (nI s) mg (nI c) C) (fun _ C' => RF h A V s x N C (spF x N oth (!oth) cols k c i g) C') := by
  intro k
  induction k with
  | zero =>
    intro c i g C n A V h1 h2 hp hc hA b1 b2 hG
    obtain ⟨n, rfl⟩ : ∃ m, n = m + 1 := ⟨n - 1, by omega⟩
    have hh := hp.2.1
    have c0 : ¬ c = 0 := by omega
    rw [if_neg c0] at b1 b2
    rw [lp_181_2, if_pos k_145, bd1 (w_145_21 hp.1), if_pos k_159, hp.2.2.1, l_159, if_pos ((x_in (by omega)).mpr hh), x_cl (by omega), hc, if_pos ((x_le (by omega) (by omega)).mpr (by omega))]
    exact rt_ret ⟨FrZ.refl C, Or.inr ⟨g, i, rfl, hp, A, V, ⟨Nat.le_refl _, Nat.le_refl _, hA, b1, by omega⟩, hG⟩⟩
  | succ k ih =>
    intro c i g C n A V h1 h2 hp hc hA b1 b2 hG
    obtain ⟨n, rfl⟩ : ∃ m, n = m + 1 := ⟨n - 1, by omega⟩
    have P := hp.1
    have hh := hp.2.1
    have e41 := hp.2.2.1
    have N9 := hp.2.2.2.1.1
    have pi := ps_le (x := x) (N := N) i
    -- a value, and on
    have step : ∀ D i', FrZ W0 C D → Pm D h x N i' → 2 * A ≤ ps x N i' → 3 * V + 7 ≤ ps x N i' + c + 1 → spF x N oth (!oth) cols (k + 1) c i g = (match spW x N oth (!oth) cols i' with
        | .inl e => .inl e
        | .inr (v, j) => spF x N oth (!oth) cols k (c + 1) j (ufn g c v)) → Rt ((cP D 145 39).bind (fun r10 => (if ¬ mg = 0 then (f_179 n 145 mg (0 : Int32) D).bind (fun z => match z with | (q13, C14) => if isK r10 12 = true then if amIn (((4 : Int32) * nI s) + nI c) (aLen r10) = true then lp_181_2 n 145 (nI s) mg (nI c + (1 : Int32)) (uI C14 r10 (Int32.toNatClampNeg (((4 : Int32) * nI s) + nI c)) q13) else none else none) else (f_179 n 145 mg (1 : Int32) D).bind (fun z => match z with | (q18, C19) => if isK r10 12 = true then if amIn (((4 : Int32) * nI s) + nI c) (aLen r10) = true then lp_181_2 n 145 (nI s) mg (nI c + (1 : Int32)) (uI C19 r10 (Int32.toNatClampNeg (((4 : Int32) * nI s) + nI c)) q18) else none else none)))) (fun _ C' => RF h A V s x N C (spF x N oth (!oth) cols (k + 1) c i g) C') := by
      intro D i' FD pD d1 d2 es
      have PD := pD.1
      have pi' := ps_le (x := x) (N := N) i'
      have one : ∀ cl : Int32, (cl = if (!oth) = true then 1 else 0) → Rt ((f_179 n 145 mg cl D).bind (fun z => match z with | (q13, C14) => if isK 177 12 = true then if amIn (((4 : Int32) * nI s) + nI c) (aLen 177) = true then lp_181_2 n 145 (nI s) mg (nI c + (1 : Int32)) (uI C14 177 (Int32.toNatClampNeg (((4 : Int32) * nI s) + nI c)) q13) else none else none)) (fun _ C' => RF h A V s x N C (spF x N oth (!oth) cols (k + 1) c i g) C') := by
        intro cl hcl
        refine rt_bind (rt_mono (m179 (oth := oth) (col := !oth) (A := A) (V := V) (by omega) h1c h4 pD (by rw [FD.2 159 h (by unfold W0; omega)]; exact hc) ho hcl (hA.of FD (by unfold W0; omega) (by unfold W0; omega)) d1 (by omega)) (fun z D3 H => ?_))
        obtain ⟨F3, H⟩ := H
        have F3' : FrZ (WV h A V) C D3 := (FD.mono (fun _ _ z => Or.inl (Or.inl z))).trans F3
        dsimp only
        rw [if_pos k_177, n_4, x_mul, x_add, l_177, if_pos ((x_in (by omega)).mpr (by omega)), x_cl (by omega), x_a1]
        have F4 : FrZ (WS h A V 177 (4 * s)) C (uI D3 177 (4 * s + c) z) := (F3'.mono (fun _ _ z => Or.inl z)).u (Or.inr ⟨rfl, by omega, by omega⟩)
        have o4 : ∀ b, b ≠ 177 → cI (uI D3 177 (4 * s + c) z) b = cI D3 b := fun b hb => r_In hb
        rcases H with ⟨k', j, er, fl⟩ | ⟨v, j, er, p5, rfl, vl, am, b3⟩
        · have fl4 : FltM (uI D3 177 (4 * s + c) z) x N k' j := fl.of (by rw [o4 145 (by omega)]) (by rw [o4 145 (by omega)])
          rw [b181 (P.of F4.1) hh (by rw [F4.2 145 41 (by unfold WS WV WA W0; omega)]; exact e41) fl4.bd (by omega)]
          exact rt_ret ⟨F4, Or.inl ⟨k', j, by rw [es, er], fl4⟩⟩
        · obtain ⟨t1, t2, t3, _⟩ := spW_ps h1c N9 er
          rw [er] at es
          have es : spF x N oth (!oth) cols (k + 1) c i g = spF x N oth (!oth) cols k (c + 1) j (ufn g c v) := es
          have pj := ps_le (x := x) (N := N) j
          have p6 : Pm (uI D3 177 (4 * s + c) (nI (320 * h + V))) h x N j := p5.of rfl (fun _ _ _ => by rw [o4 145 (by omega)]) (o4 178 (by omega))
          have am6 : AM (uI D3 177 (4 * s + c) (nI (320 * h + V))) h (A + v.length) (V + 1) := ⟨by rw [o4 164 (by omega)]; exact am.1, by rw [o4 165 (by omega)]; exact am.2⟩
          have K6 : KpV h A V C (uI D3 177 (4 * s + c) (nI (320 * h + V))) := F4.kp (fun b j z => by unfold WS WV WA W0; omega)
          have K36 : ∀ {a b : Nat}, KpV h a b D3 (uI D3 177 (4 * s + c) (nI (320 * h + V))) := ⟨fun b j _ _ _ _ => by rw [o4 b (by omega)], fun b j _ _ _ => by rw [o4 b (by omega)]⟩
          have G6 : SetM (uI D3 177 (4 * s + c) (nI (320 * h + V))) h (A + v.length) (V + 1) 177 (4 * s) (ufn g c v) := by
            intro d hd
            unfold ufn
            by_cases e : d = c
            · rw [if_pos e, e, r_I, if_pos ⟨rfl, rfl⟩]
              exact ⟨320 * h + V, rfl, vl.keep K36 (Nat.le_refl _) (Nat.le_refl _)⟩
            · rw [if_neg e, r_I, if_neg (by omega), F3'.2 177 _ (by unfold WV WA W0; omega)]
              exact (hG d hd).keep K6 (by omega) (by omega)
          rw [es]
          refine rt_mono (ih (c + 1) j (ufn g c v) _ n (A + v.length) (V + 1) (by omega) (by omega) p6 (by rw [F4.2 159 h (by unfold WS WV WA W0; omega)]; exact hc) am6 (by rw [if_neg (by omega)]; exact b3) (by rw [if_neg (by omega)]; omega) G6) (fun _ D6 H => ?_)
          obtain ⟨F10, H⟩ := H
          refine ⟨F4.trans (F10.mono (fun _ _ z => WS.le (by omega) (by omega) z)), ?_⟩
          rcases H with H | ⟨g', j', H1, H2, A', V', ⟨z1, z2, z3⟩, H3⟩
          · exact Or.inl H
          · exact Or.inr ⟨g', j', H1, H2, A', V', ⟨by omega, by omega, z3⟩, H3⟩
      rw [bd1 (w_145_39 PD)]
      by_cases m0 : mg = 0
      · rw [if_neg (fun z => z m0)]
        exact one 1 (by
          cases oth
          · rfl
          · rw [ho] at m0; exact absurd m0 (by decide))
      · rw [if_pos m0]
        exact one 0 (by
          cases oth
          · rw [ho] at m0; exact absurd rfl m0
          · rfl)
    rw [lp_181_2, if_pos k_145, bd1 (w_145_21 P), if_pos k_159, e41, l_159, if_pos ((x_in (by omega)).mpr hh), x_cl (by omega), hc, if_neg (by rw [x_le (by omega) (by omega)]; omega), if_neg (fun z => z hp.2.2.2.2.2.1)]
    by_cases c0 : c = 0
    · rw [if_pos c0] at b1 b2
      rw [if_pos (by rw [c0]; decide), if_neg (fun z => z hp.2.2.2.2.2.1)]
      exact step C i (FrZ.refl C) hp (by omega) (by omega) (by rw [spF, if_pos c0]; rfl)
    · rw [if_neg c0] at b1 b2
      rw [if_neg (by rw [x_le0 (by omega)]; exact c0)]
      refine rt_bind (rt_mono (m173 (c := 44) (v := 44) (by omega) hp (by decide) rfl) (fun _ D2 H => ?_))
      obtain ⟨F2, H⟩ := H
      dsimp only
      rcases H with ⟨k', j, er, fl⟩ | ⟨_, j, er, p2, _⟩
      · obtain ⟨t1, k1, j1⟩ := spP_no er
        rw [if_pos fl.bd, b181 (P.of F2.1) hh (by rw [F2.2 145 41 (by unfold W0; omega)]; exact e41) fl.bd (by omega)]
        exact rt_ret ⟨F2.mono (fun _ _ z => Or.inl (Or.inl (Or.inl z))), Or.inl ⟨k', j, by rw [spF, if_neg c0, if_neg t1, k1, j1], fl⟩⟩
      · obtain ⟨t1, rfl⟩ := spP_ps er
        have p4 : ps x N i + 1 ≤ ps x N (i + 1) := ps_1 (by omega)
        rw [if_neg (fun z => z p2.2.2.2.2.2.1)]
        exact step D2 (i + 1) F2 p2 (by omega) (by omega) (by rw [spF, if_neg c0, if_pos t1]; rfl)
theorem m181 {mg : Int32} {g : Nat → Option Val} (hn : 2400 ≤ n) (h1c : 1 ≤ cols) (h4 : cols ≤ 4) (hs : 8 * h ≤ s ∧ s < 8 * h + 8) (ho : mg = if oth = true then 1 else 0) (hp : Pm C h x N i) (hc : cI C 159 h = nI cols) (hA : AM C h A V) (b1 : 2 * A ≤ ps x N i) (b2 : 3 * V + 6 ≤ ps x N i) (hG : SetM C h A V 177 (4 * s) g) : Rt (f_181 n 145 (nI s) mg C) (fun _ C' => RF h A V s x N C (spF x N oth (!oth) cols cols 0 i g) C') := by
  unfold f_181
  refine rt_bind (rt_mono (m181_lp (oth := oth) h1c h4 hs ho cols 0 i g C n A V (by omega) (by omega) hp hc hA (by rw [if_pos rfl]; omega) (by rw [if_pos rfl]; omega) hG) (fun z D H => ?_))
  exact rt_ret H
/-! tests -/
def WX (h A V T s b j : Nat) : Prop := WV h A V b j ∨ (156 ≤ b ∧ b ≤ 158 ∧ 160 * h + T ≤ j ∧ j < 160 * h + 160) ∨ (b = 166 ∧ j = h) ∨ (b = 175 ∧ j = s)
theorem WX.le {T2 b j : Nat} (hA : A ≤ B) (hV : V ≤ U) (hT : T ≤ T2) (z : WX h B U T2 s b j) : WX h A V T s b j := by
  rcases z with z | z | z | z
  · exact Or.inl (WV.le hA hV z)
  · exact Or.inr (Or.inl (by omega))
  · exact Or.inr (Or.inr (Or.inl z))
  · exact Or.inr (Or.inr (Or.inr z))
def TstM (C : AmC) (h A V f : Nat) (ts : List Tst) : Prop := ∀ q (_ : q < ts.length), cI C 157 (f + q) = ts[q].2.1 ∧ (∃ k, cI C 156 (f + q) = nI k ∧ VL C h A V k ts[q].1) ∧ ∃ k, cI C 158 (f + q) = nI k ∧ VL C h A V k ts[q].2.2
theorem b182 {s p : Int32} (hn : 1 ≤ n) (z : p = 0 ∨ Bd C) : Rt (lp_182_7 n 145 s p C) (fun _ C' => C' = C) := by
  obtain ⟨n, rfl⟩ : ∃ m, n = m + 1 := ⟨n - 1, by omega⟩
  rw [lp_182_7]
  by_cases e : p = 0
  · rw [if_pos e]; exact rt_ret rfl
  · rw [if_neg e, if_pos k_145, if_pos (z.resolve_left e)]; exact rt_ret rfl
end
