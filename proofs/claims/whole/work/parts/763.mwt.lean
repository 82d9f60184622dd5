/-! The reference reads a test behind its sign. -/
section
variable {n h i j N A V B U cols s T : Nat} {C C' : AmC} {x : Nat → Nat} {oth col : Bool}
def t182 (n h T : Nat) (s : Int32) (D : AmC) : Option ((Unit ⊕ Unit) × AmC) := (f_170 n 145 (1 : Int32) (1 : Int32) D).bind (fun z => match z with | (q27, C28) => (if ¬ q27 = 0 then (cP C28 145 19).bind (fun r31 => if isK r31 12 = true then if amIn (nI (160 * h + T)) (aLen r31) = true then (f_169 n 145 (uI C28 r31 (160 * h + T) (cI C28 145 49))).bind (fun z => match z with | (_, C36) => (cP C36 145 20).bind (fun r38 => (f_179 n 145 (0 : Int32) (1 : Int32) C36).bind (fun z => match z with | (q40, C41) => if isK r38 12 = true then if amIn (nI (160 * h + T)) (aLen r38) = true then (cP (uI C41 r38 (160 * h + T) q40) 145 28).bind (fun r45 => if isK r45 12 = true then if amIn (cI (uI C41 r38 (160 * h + T) q40) 145 41) (aLen r45) = true then if amIn (cI (uI C41 r38 (160 * h + T) q40) 145 41) (aLen r45) = true then (cP (uI (uI C41 r38 (160 * h + T) q40) r45 (Int32.toNatClampNeg (cI (uI C41 r38 (160 * h + T) q40) 145 41)) ((cI (uI C41 r38 (160 * h + T) q40) r45 (Int32.toNatClampNeg (cI (uI C41 r38 (160 * h + T) q40) 145 41))) + (1 : Int32))) 145 37).bind (fun r50 => if isK r50 12 = true then if amIn s (aLen r50) = true then if amIn s (aLen r50) = true then (f_171 n 145 (12 : Int32) (uI (uI (uI C41 r38 (160 * h + T) q40) r45 (Int32.toNatClampNeg (cI (uI C41 r38 (160 * h + T) q40) 145 41)) ((cI (uI C41 r38 (160 * h + T) q40) r45 (Int32.toNatClampNeg (cI (uI C41 r38 (160 * h + T) q40) 145 41))) + (1 : Int32))) r50 (Int32.toNatClampNeg s) ((cI (uI (uI C41 r38 (160 * h + T) q40) r45 (Int32.toNatClampNeg (cI (uI C41 r38 (160 * h + T) q40) 145 41)) ((cI (uI C41 r38 (160 * h + T) q40) r45 (Int32.toNatClampNeg (cI (uI C41 r38 (160 * h + T) q40) 145 41))) + (1 : Int32))) r50 (Int32.toNatClampNeg s)) + (1 : Int32)))).bind (fun z => match z with | (q55, C56) => lp_182_7 n 145 s q55 C56) else none else none else none) else none else none else none) else none else none))) else none else none) else some ((.inl ()), C28)))
theorem m182_t {m : Nat} {Q : Unit ⊕ Unit → AmC → Prop} (hn : 2300 ≤ n) (h1c : 1 ≤ cols) (h4 : cols ≤ 4) (hs : 8 * h ≤ s ∧ s < 8 * h + 8) (hp : Pm C h x N j) (sg : isSg (tK x N j) = true) (hc : cI C 159 h = nI cols) (hA : AM C h A V) (b1 : 2 * A ≤ ps x N j + 1) (V3 : V < 320) (T3 : T < 160) (eT : cI C 166 h = nI T) (em : cI C 175 s = nI m) (m9 : m < 1000)
    (hbad : ∀ C' k j', spW x N false true cols (j + 1) = .inl (k, j') → FrZ (WX h A V T s) C C' → FltM C' x N k j' → Rt (lp_182_7 n 145 (nI s) 0 C') Q)
    (hok : ∀ C' r j', spW x N false true cols (j + 1) = .inr (r, j') → FrZ (WX h A V T s) C C' → Pm C' h x N j' → AM C' h (A + r.length) (V + 1) → 2 * (A + r.length) ≤ ps x N j' + 1 → VL C' h (A + r.length) (V + 1) (320 * h + V) r → cI C' 156 (160 * h + T) = cI C 156 (160 * h + T) → cI C' 157 (160 * h + T) = nI (tK x N j) → cI C' 158 (160 * h + T) = nI (320 * h + V) → cI C' 166 h = nI (T + 1) → cI C' 175 s = nI (m + 1) → Rt (lp_182_7 n 145 (nI s) (if tK x N j' = 216 then 1 else 0) C') Q) : Rt (t182 n h T (nI s) C) Q := by
  have P := hp.1
  have hh := hp.2.1
  have e41 := hp.2.2.1
  have N9 := hp.2.2.2.1.1
  have pj := ps_le (x := x) (N := N) j
  unfold t182
  rw [bd1 (m170t hp (by decide))]
  dsimp only
  rw [if_pos (by decide), bd1 (w_145_19 P), if_pos k_157, l_157, if_pos ((x_in (by omega)).mpr (by omega)), at_sg hp.at sg]
  have p1 : Pm (uI C 157 (160 * h + T) (nI (tK x N j))) h x N j := hp.of rfl (fun _ _ _ => by rw [r_In (by omega)]) (r_In (by omega))
  have F1 : FrZ (WX h A V T s) C (uI C 157 (160 * h + T) (nI (tK x N j))) := (FrZ.refl C).u (by unfold WX WV WA W0; omega)
  have u1 : ps x N j + 1 ≤ ps x N (j + 1) := ps_1 (by have := sg_ne sg; omega)
  refine rt_bind (rt_mono (p1.go (by omega)) (fun _ D H => ?_))
  obtain ⟨pD, FD⟩ := H
  have F2 : FrZ (WX h A V T s) C D := F1.trans (FD.mono (fun _ _ z => Or.inl (Or.inl (Or.inl z))))
  have e7 : cI D 157 (160 * h + T) = nI (tK x N j) := by rw [FD.2 157 _ (by unfold W0; omega), r_I, if_pos ⟨rfl, rfl⟩]
  have e6 : cI D 156 (160 * h + T) = cI C 156 (160 * h + T) := by rw [FD.2 156 _ (by unfold W0; omega), r_In (by omega)]
  dsimp only
  rw [bd1 (w_145_20 pD.1)]
  refine rt_bind (rt_mono (m179 (oth := false) (col := true) (A := A) (V := V) (by omega) h1c h4 pD (by rw [F2.2 159 h (by unfold WX WV WA W0; omega)]; exact hc) rfl rfl ⟨by rw [FD.2 164 h (by unfold W0; omega), r_In (by omega)]; exact hA.1, by rw [FD.2 165 h (by unfold W0; omega), r_In (by omega)]; exact hA.2⟩ (by omega) V3) (fun z D3 H => ?_))
  obtain ⟨F3, H⟩ := H
  have F3' : FrZ (WX h A V T s) C D3 := F2.trans (F3.mono (fun _ _ z => Or.inl z))
  have P3 : PInv D3 := P.of F3'.1
  have q41 : cI (uI D3 158 (160 * h + T) z) 145 41 = nI h := by rw [r_In (by omega), F3'.2 145 41 (by unfold WX WV WA W0; omega)]; exact e41
  have q66 : cI (uI D3 158 (160 * h + T) z) 166 h = nI T := by rw [r_In (by omega), F3.2 166 h (by unfold WV WA W0; omega), FD.2 166 h (by unfold W0; omega), r_In (by omega)]; exact eT
  have q75 : cI (uI (uI D3 158 (160 * h + T) z) 166 h (nI (T + 1))) 175 s = nI m := by rw [r_In (by omega), r_In (by omega), F3.2 175 s (by unfold WV WA W0; omega), FD.2 175 s (by unfold W0; omega), r_In (by omega)]; exact em
  dsimp only
  rw [if_pos k_158, l_158, if_pos ((x_in (by omega)).mpr (by omega)), bd1 (show cP (uI D3 158 (160 * h + T) z) 145 28 = some 166 from w_145_28 P3), if_pos k_166, q41, l_166, if_pos ((x_in (by omega)).mpr hh), if_pos ((x_in (by omega)).mpr hh), x_cl (by omega), q66, x_a1, bd1 (show cP (uI (uI D3 158 (160 * h + T) z) 166 h (nI (T + 1))) 145 37 = some 175 from w_145_37 P3), if_pos k_175, l_175, if_pos ((x_in (by omega)).mpr (by omega)), if_pos ((x_in (by omega)).mpr (by omega)), x_cl (by omega), q75, x_a1]
  have F4 : FrZ (WX h A V T s) C (uI (uI (uI D3 158 (160 * h + T) z) 166 h (nI (T + 1))) 175 s (nI (m + 1))) := ((F3'.u (by unfold WX WV WA W0; omega)).u (by unfold WX WV WA W0; omega)).u (by unfold WX WV WA W0; omega)
  have o4 : ∀ b, b ≠ 158 → b ≠ 166 → b ≠ 175 → cI (uI (uI (uI D3 158 (160 * h + T) z) 166 h (nI (T + 1))) 175 s (nI (m + 1))) b = cI D3 b := fun b z1 z2 z3 => by rw [r_In z3, r_In z2, r_In z1]
  rcases H with ⟨k, j', er, fl⟩ | ⟨r, j', er, p5, rfl, vl, am, b3⟩
  · have fl4 : FltM (uI (uI (uI D3 158 (160 * h + T) z) 166 h (nI (T + 1))) 175 s (nI (m + 1))) x N k j' := fl.of (by rw [o4 145 (by omega) (by omega) (by omega)]) (by rw [o4 145 (by omega) (by omega) (by omega)])
    rw [bd1 (b171 fl4.bd)]
    exact hbad _ k j' er F4 fl4
  · have p6 : Pm (uI (uI (uI D3 158 (160 * h + T) (nI (320 * h + V))) 166 h (nI (T + 1))) 175 s (nI (m + 1))) h x N j' := p5.of rfl (fun _ _ _ => by rw [o4 145 (by omega) (by omega) (by omega)]) (o4 178 (by omega) (by omega) (by omega))
    rw [bd1 (mIs (w := 16) (v := 12) p6 (by omega) rfl)]
    refine hok _ r j' er F4 p6 ⟨by rw [o4 164 (by omega) (by omega) (by omega)]; exact am.1, by rw [o4 165 (by omega) (by omega) (by omega)]; exact am.2⟩ b3 (vl.keep ⟨fun b j _ _ _ _ => by rw [o4 b (by omega) (by omega) (by omega)], fun b j _ _ _ => by rw [o4 b (by omega) (by omega) (by omega)]⟩ (Nat.le_refl _) (Nat.le_refl _)) ?_ ?_ ?_ ?_ ?_
    · rw [o4 156 (by omega) (by omega) (by omega), F3.2 156 _ (by unfold WV WA W0; omega)]; exact e6
    · rw [o4 157 (by omega) (by omega) (by omega), F3.2 157 _ (by unfold WV WA W0; omega)]; exact e7
    · rw [r_In (by omega), r_In (by omega), r_I, if_pos ⟨rfl, rfl⟩]
    · rw [r_In (by omega), r_I, if_pos ⟨rfl, rfl⟩]
    · rw [r_I, if_pos ⟨rfl, rfl⟩]
end
