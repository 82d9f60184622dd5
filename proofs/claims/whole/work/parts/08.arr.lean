/-! Rows of arrays, new cells, switches. -/
section AmArr
variable {p : Program} {l : Launch} {e : Env} {R : Room} {s : State} {m : MethodId} {args : Array Value} {below : List Frame} {meth : Method} {c : Code} {Q : State → Prop} {cc : ByteArray} {own : String} {nL : Nat} {dC : Nat → ClassId} {dI : Nat → Nat → Nat} {ct : Nat → ClassId} {g : Nat → Nat} {b z0 s0 : Nat} {x : Bool} {pc : Nat} {ll : AmL} {st : List Value} {M : AmM}

theorem am_tyA {k : Nat} (hk : 11 ≤ k) (hk2 : k < 16) : ∃ ty, (amTys ct)[k - 11]? = some (ct k, ty) := by
  match k, hk, hk2 with
  | 11, _, _ => exact ⟨_, rfl⟩
  | 12, _, _ => exact ⟨_, rfl⟩
  | 13, _, _ => exact ⟨_, rfl⟩
  | 14, _, _ => exact ⟨_, rfl⟩
  | 15, _, _ => exact ⟨_, rfl⟩
  | n + 16, _, h => exact absurd h (by omega)
theorem am_wsA {a k : Nat} (ha : a < mZ M) (hk : mK M a = k) (h1 : 11 ≤ k) (h2 : k < 14) : (amWs ct g M)[a]? = some (g a, .inl (ct k, mN M a, .inl (mI M a))) := by
  subst hk
  rw [amWs_get ha, amE_ar h1 h2]
theorem am_wsP {a k : Nat} (ha : a < mZ M) (hk : mK M a = k) (h1 : 14 ≤ k) : (amWs ct g M)[a]? = some (g a, .inl (ct k, mN M a, .inr (.inr (.inr (.inr (fun j => (mP M a j).map g)))))) := by
  subst hk
  rw [amWs_get ha, amE_rf h1]
theorem am_aset {a k : Nat} {f : Nat → Int32} (ha : a < mZ M) (hk : mK M a = k) (h1 : 11 ≤ k) (h2 : k < 14) : (amWs ct g M).set a (g a, .inl (ct k, mN M a, .inl f)) = amWs ct g (wA M a f) := by
  refine amWs_set ha rfl (fun d hd => amE_wA hd) ?_
  have e1 : mK (wA M a f) a = k := hk
  have e2 : mI (wA M a f) a = f := by simp [wA, mI, va_up]
  rw [amE_ar (by rw [e1]; exact h1) (by rw [e1]; exact h2), e1, e2]
  rfl
theorem am_upd (f : Nat → Int32) (k : Nat) (v : Int32) : upd f k v = va_up f k v := by
  funext j
  simp [upd, va_up]
theorem am_upM (f : Nat → Option Nat) (k q : Nat) : va_up (fun j => (f j).map g) k (some (g q)) = fun j => (va_up f k (some q) j).map g := by
  funext j
  simp only [va_up]
  split <;> rfl
theorem sn_alen (F : AmF p s m args meth c own cc nL dC dI ct g b z0 x) {a : Nat} (ha : a < mZ M) (hk : 11 ≤ mK M a) (hk2 : mK M a < 16) (hd : decode cc pc = .ok (.arraylength, 1)) (k : AmG p l e R s m args below meth c Q nL dC dI ct g b z0 s0 x (pc + 1) (ll) (.int (Int32.ofNat (mN M a)) :: st) (M)) : AmG p l e R s m args below meth c Q nL dC dI ct g b z0 s0 x (pc) (ll) (.ref a :: st) (M) := by
  obtain ⟨hx, hb, hml, hown, hts, hK, hX, hb0, hlk, hg, hex⟩ := F
  intro H locs ls hP hS hl h1 h2 h3
  obtain ⟨ty, hty⟩ := am_tyA (ct := ct) hk hk2
  by_cases hk3 : mK M a < 14
  · exact va_alen (D := (dC, dI)) hx hb hK hP a (mK M a - 11) (am_wsA ha rfl hk hk3) hty rfl hd (k H locs ls hP hS hl h1 h2 h3)
  · exact va_alen (D := (dC, dI)) hx hb hK hP a (mK M a - 11) (am_wsP ha rfl (by omega)) hty rfl hd (k H locs ls hP hS hl h1 h2 h3)
theorem sn_iald (F : AmF p s m args meth c own cc nL dC dI ct g b z0 x) {a : Nat} {j : Int32} (ha : a < mZ M) (hk : mK M a = 12) (hj : amIn j (mN M a) = true) (hd : decode cc pc = .ok (.iaload, 1)) (k : AmG p l e R s m args below meth c Q nL dC dI ct g b z0 s0 x (pc + 1) (ll) (.int (mI M a j.toNatClampNeg) :: st) (M)) : AmG p l e R s m args below meth c Q nL dC dI ct g b z0 s0 x (pc) (ll) (.int j :: .ref a :: st) (M) := by
  obtain ⟨hx, hb, hml, hown, hts, hK, hX, hb0, hlk, hg, hex⟩ := F
  intro H locs ls hP hS hl h1 h2 h3
  exact va_iald (D := (dC, dI)) hx hb hK hP a 1 (am_wsA ha hk (by decide) (by decide)) rfl (am_ofIn hj) hd (k H locs ls hP hS hl h1 h2 h3)
theorem sn_bald (F : AmF p s m args meth c own cc nL dC dI ct g b z0 x) {a : Nat} {j : Int32} (ha : a < mZ M) (hk : mK M a = 11) (hj : amIn j (mN M a) = true) (hd : decode cc pc = .ok (.baload, 1)) (k : AmG p l e R s m args below meth c Q nL dC dI ct g b z0 s0 x (pc + 1) (ll) (.int (mI M a j.toNatClampNeg) :: st) (M)) : AmG p l e R s m args below meth c Q nL dC dI ct g b z0 s0 x (pc) (ll) (.int j :: .ref a :: st) (M) := by
  obtain ⟨hx, hb, hml, hown, hts, hK, hX, hb0, hlk, hg, hex⟩ := F
  intro H locs ls hP hS hl h1 h2 h3
  exact va_bald (D := (dC, dI)) hx hb hK hP a 0 (am_wsA ha hk (by decide) (by decide)) rfl (am_ofIn hj) hd (k H locs ls hP hS hl h1 h2 h3)
theorem sn_zald (F : AmF p s m args meth c own cc nL dC dI ct g b z0 x) {a : Nat} {j : Int32} (ha : a < mZ M) (hk : mK M a = 13) (hj : amIn j (mN M a) = true) (hd : decode cc pc = .ok (.baload, 1)) (k : AmG p l e R s m args below meth c Q nL dC dI ct g b z0 s0 x (pc + 1) (ll) (.int (mI M a j.toNatClampNeg) :: st) (M)) : AmG p l e R s m args below meth c Q nL dC dI ct g b z0 s0 x (pc) (ll) (.int j :: .ref a :: st) (M) := by
  obtain ⟨hx, hb, hml, hown, hts, hK, hX, hb0, hlk, hg, hex⟩ := F
  intro H locs ls hP hS hl h1 h2 h3
  exact va_zald (D := (dC, dI)) hx hb hK hP a 2 (am_wsA ha hk (by decide) (by decide)) rfl (am_ofIn hj) hd (k H locs ls hP hS hl h1 h2 h3)
theorem sn_iast (F : AmF p s m args meth c own cc nL dC dI ct g b z0 x) {a : Nat} {j v : Int32} (ha : a < mZ M) (hk : mK M a = 12) (hj : amIn j (mN M a) = true) (hd : decode cc pc = .ok (.iastore, 1)) (k : AmG p l e R s m args below meth c Q nL dC dI ct g b z0 s0 x (pc + 1) (ll) (st) (wI M a j.toNatClampNeg v)) : AmG p l e R s m args below meth c Q nL dC dI ct g b z0 s0 x (pc) (ll) (.int v :: .int j :: .ref a :: st) (M) := by
  obtain ⟨hx, hb, hml, hown, hts, hK, hX, hb0, hlk, hg, hex⟩ := F
  intro H locs ls hP hS hl h1 h2 h3
  refine va_iast (D := (dC, dI)) hx hb hK hP (amWs_D hg h3) hS a 1 (am_wsA ha hk (by decide) (by decide)) rfl (am_ofIn hj) hd (fun H1 locs1 hP1 _ hS1 => ?_)
  rw [am_upd, am_aset ha hk (by decide) (by decide)] at hP1
  exact k H1 locs1 ls hP1 hS1 hl h1 h2 h3
theorem sn_bast (F : AmF p s m args meth c own cc nL dC dI ct g b z0 x) {a : Nat} {j v : Int32} (ha : a < mZ M) (hk : mK M a = 11) (hj : amIn j (mN M a) = true) (hd : decode cc pc = .ok (.bastore, 1)) (k : AmG p l e R s m args below meth c Q nL dC dI ct g b z0 s0 x (pc + 1) (ll) (st) (wI M a j.toNatClampNeg (v.toInt8.toInt32))) : AmG p l e R s m args below meth c Q nL dC dI ct g b z0 s0 x (pc) (ll) (.int v :: .int j :: .ref a :: st) (M) := by
  obtain ⟨hx, hb, hml, hown, hts, hK, hX, hb0, hlk, hg, hex⟩ := F
  intro H locs ls hP hS hl h1 h2 h3
  refine va_bast (D := (dC, dI)) hx hb hK hP (amWs_D hg h3) hS a 0 (am_wsA ha hk (by decide) (by decide)) rfl (am_ofIn hj) hd (fun H1 locs1 hP1 _ hS1 => ?_)
  rw [vp_nar_byte, am_upd, am_aset ha hk (by decide) (by decide)] at hP1
  exact k H1 locs1 ls hP1 hS1 hl h1 h2 h3
theorem sn_zast (F : AmF p s m args meth c own cc nL dC dI ct g b z0 x) {a : Nat} {j v : Int32} (ha : a < mZ M) (hk : mK M a = 13) (hj : amIn j (mN M a) = true) (hv : v = 0 ∨ v = 1) (hd : decode cc pc = .ok (.bastore, 1)) (k : AmG p l e R s m args below meth c Q nL dC dI ct g b z0 s0 x (pc + 1) (ll) (st) (wI M a j.toNatClampNeg v)) : AmG p l e R s m args below meth c Q nL dC dI ct g b z0 s0 x (pc) (ll) (.int v :: .int j :: .ref a :: st) (M) := by
  obtain ⟨hx, hb, hml, hown, hts, hK, hX, hb0, hlk, hg, hex⟩ := F
  intro H locs ls hP hS hl h1 h2 h3
  have hnar : vp_nar .boolean v = v := by rcases hv with rfl | rfl <;> decide
  refine va_zast (D := (dC, dI)) hx hb hK hP (amWs_D hg h3) hS a 2 (am_wsA ha hk (by decide) (by decide)) rfl (am_ofIn hj) hd (fun H1 locs1 hP1 _ hS1 => ?_)
  rw [hnar, am_upd, am_aset ha hk (by decide) (by decide)] at hP1
  exact k H1 locs1 ls hP1 hS1 hl h1 h2 h3
theorem sn_aald14 (F : AmF p s m args meth c own cc nL dC dI ct g b z0 x) {a q : Nat} {j : Int32} (ha : a < mZ M) (hk : mK M a = 14) (hj : amIn j (mN M a) = true) (hq : mP M a j.toNatClampNeg = some q) (hd : decode cc pc = .ok (.aaload, 1)) (k : AmG p l e R s m args below meth c Q nL dC dI ct g b z0 s0 x (pc + 1) (ll) (.ref q :: st) (M)) : AmG p l e R s m args below meth c Q nL dC dI ct g b z0 s0 x (pc) (ll) (.int j :: .ref a :: st) (M) := by
  obtain ⟨hx, hb, hml, hown, hts, hK, hX, hb0, hlk, hg, hex⟩ := F
  intro H locs ls hP hS hl h1 h2 h3
  refine va_aldq (D := (dC, dI)) hx hb hK hP a 3 (am_wsP ha hk (by decide)) rfl (am_ofIn hj) hd ?_
  rw [hq]
  exact k H locs ls hP hS hl h1 h2 h3
theorem sn_aast14 (F : AmF p s m args meth c own cc nL dC dI ct g b z0 x) {a q : Nat} {j : Int32} (ha : a < mZ M) (hk : mK M a = 14) (hq : q < mZ M) (hkq : mK M q = 5) (hj : amIn j (mN M a) = true) (hd : decode cc pc = .ok (.aastore, 1)) (k : AmG p l e R s m args below meth c Q nL dC dI ct g b z0 s0 x (pc + 1) (ll) (st) (wP M a j.toNatClampNeg q)) : AmG p l e R s m args below meth c Q nL dC dI ct g b z0 s0 x (pc) (ll) (.ref q :: .int j :: .ref a :: st) (M) := by
  obtain ⟨hx, hb, hml, hown, hts, hK, hX, hb0, hlk, hg, hex⟩ := F
  intro H locs ls hP hS hl h1 h2 h3
  refine va_astq (D := (dC, dI)) hx hb hK hP (amWs_D hg h3) hS a 3 q 5 (am_wsP ha hk (by decide)) rfl (by rw [amWs_get hq, amE_ob hkq (by decide)]) (am_cl 5 (by decide)) (am_ofIn hj) hd (fun H1 locs1 hP1 _ hS1 => ?_)
  rw [am_upM, amWs_set (M' := wP M a j.toNatClampNeg q) ha rfl (fun d hd => amE_wP hd) ?_] at hP1
  · exact k H1 locs1 ls hP1 hS1 hl h1 h2 h3
  · have e1 : mK (wP M a j.toNatClampNeg q) a = 14 := hk
    have e2 : mP (wP M a j.toNatClampNeg q) a = va_up (mP M a) j.toNatClampNeg (some q) := by simp [wP, mP, va_up]
    rw [amE_rf (by rw [e1]; decide), e1, e2]
    rfl
theorem sn_aald15 (F : AmF p s m args meth c own cc nL dC dI ct g b z0 x) {a q : Nat} {j : Int32} (ha : a < mZ M) (hk : mK M a = 15) (hj : amIn j (mN M a) = true) (hq : mP M a j.toNatClampNeg = some q) (hd : decode cc pc = .ok (.aaload, 1)) (k : AmG p l e R s m args below meth c Q nL dC dI ct g b z0 s0 x (pc + 1) (ll) (.ref q :: st) (M)) : AmG p l e R s m args below meth c Q nL dC dI ct g b z0 s0 x (pc) (ll) (.int j :: .ref a :: st) (M) := by
  obtain ⟨hx, hb, hml, hown, hts, hK, hX, hb0, hlk, hg, hex⟩ := F
  intro H locs ls hP hS hl h1 h2 h3
  refine va_aldq (D := (dC, dI)) hx hb hK hP a 4 (am_wsP ha hk (by decide)) rfl (am_ofIn hj) hd ?_
  rw [hq]
  exact k H locs ls hP hS hl h1 h2 h3
theorem sn_aast15 (F : AmF p s m args meth c own cc nL dC dI ct g b z0 x) {a q : Nat} {j : Int32} (ha : a < mZ M) (hk : mK M a = 15) (hq : q < mZ M) (hkq : mK M q = 8) (hj : amIn j (mN M a) = true) (hd : decode cc pc = .ok (.aastore, 1)) (k : AmG p l e R s m args below meth c Q nL dC dI ct g b z0 s0 x (pc + 1) (ll) (st) (wP M a j.toNatClampNeg q)) : AmG p l e R s m args below meth c Q nL dC dI ct g b z0 s0 x (pc) (ll) (.ref q :: .int j :: .ref a :: st) (M) := by
  obtain ⟨hx, hb, hml, hown, hts, hK, hX, hb0, hlk, hg, hex⟩ := F
  intro H locs ls hP hS hl h1 h2 h3
  refine va_astq (D := (dC, dI)) hx hb hK hP (amWs_D hg h3) hS a 4 q 8 (am_wsP ha hk (by decide)) rfl (by rw [amWs_get hq, amE_ob hkq (by decide)]) (am_cl 8 (by decide)) (am_ofIn hj) hd (fun H1 locs1 hP1 _ hS1 => ?_)
  rw [am_upM, amWs_set (M' := wP M a j.toNatClampNeg q) ha rfl (fun d hd => amE_wP hd) ?_] at hP1
  · exact k H1 locs1 ls hP1 hS1 hl h1 h2 h3
  · have e1 : mK (wP M a j.toNatClampNeg q) a = 15 := hk
    have e2 : mP (wP M a j.toNatClampNeg q) a = va_up (mP M a) j.toNatClampNeg (some q) := by simp [wP, mP, va_up]
    rw [amE_rf (by rw [e1]; decide), e1, e2]
    rfl
theorem am_top {H : Heap} {locs : List Loc} (hg : amHg g b) (hP : va_P (dC, dI) vwCl (amWs ct g M) H) (hS : va_S (amA g b) s.heap H locs) (hb0 : amHb g b s.heap.size) (h3 : mZ M ≤ amKN) : b + mZ M ≤ H.size := by
  by_cases h : mZ M = 0
  · have := hS.1
    have := hb0.1
    omega
  · have h4 : mZ M - 1 < mZ M := by omega
    have h5 := (hP (mZ M - 1) _ (amWs_get h4)).lt
    dsimp only at h5
    rw [hg.1 _ (by omega)] at h5
    omega
theorem amE_new {kind len sl d : Nat} (h : d < mZ M) : amE ct g (mNew M kind len sl) d = amE ct g M d := by
  have hd : d ≠ mZ M := by omega
  have e0 : mI (mNew M kind len sl) d = mI M d := by simp [mNew, mI, va_up, hd]
  have e1 : mK (mNew M kind len sl) d = mK M d := by simp [mNew, mK, va_up, hd]
  have e2 : mN (mNew M kind len sl) d = mN M d := by simp [mNew, mN, va_up, hd]
  have e3 : mJ (mNew M kind len sl) d = mJ M d := by simp [mNew, mJ, va_up, hd]
  have e4 : mP (mNew M kind len sl) d = mP M d := by simp [mNew, mP, va_up, hd]
  simp only [amE, amFs, amV, e0, e1, e2, e3, e4]
/-- the new cell lies next to the last one -/
theorem am_next {H H1 : Heap} {q : Nat} {v : va_E} (hg : amHg g b) (h3 : mZ M < amKN) (hP1 : va_P (dC, dI) vwCl (amWs ct g M ++ [(q, v)]) H1) (hD1 : va_D (amA g b) (amWs ct g M ++ [(q, v)])) (hH : H1.size ≤ b + mZ M + 1) : q = g (mZ M) := by
  have hq : (amWs ct g M ++ [(q, v)])[mZ M]? = some (q, v) := by
    rw [List.getElem?_append_right (by rw [amWs_len]; exact Nat.le_refl _), amWs_len]
    simp
  have l1 := (hP1 _ _ hq).lt
  have l2 : b ≤ q := (hD1.2 _ _ hq).1
  dsimp only at l1
  rw [hg.1 _ h3]
  by_cases hz : q = b + mZ M
  · exact hz
  · exfalso
    have h4 : q - b < mZ M := by omega
    have h5 : (amWs ct g M ++ [(q, v)])[q - b]? = some (g (q - b), amE ct g M (q - b)) := by
      rw [List.getElem?_append_left (by rw [amWs_len]; exact h4), amWs_get h4]
    have h6 := hD1.1 _ _ _ _ h5 hq (by show g (q - b) = q; rw [hg.1 _ (by omega)]; omega)
    omega
end AmArr
