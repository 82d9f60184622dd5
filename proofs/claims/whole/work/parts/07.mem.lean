/-! Rows of fields, arrays, new cells, switches. -/
theorem am_tbof {ws : List Cond} (ps : List Nat) (hp : ws = ps.filterMap (fun i => lw_tbl[i]?)) (h : ws.all goodWord = true) : ∀ w ∈ ws, w ∈ amTB := by
  intro w hw
  have h1 := List.all_eq_true.mp h w hw
  rw [hp] at hw
  obtain ⟨i, -, hi⟩ := List.mem_filterMap.mp hw
  exact List.mem_filter.mpr ⟨List.mem_of_getElem? hi, h1⟩
set_option maxRecDepth 20000 in
theorem am_in0 : ∀ w ∈ u_ws RX0 TX0 6, w ∈ amTB := am_tbof [430, 432, 434, 436, 438, 440] (by decide +kernel) (by decide +kernel)
set_option maxRecDepth 20000 in
theorem am_in1 : ∀ w ∈ u_ws RX1 TX1 4, w ∈ amTB := am_tbof [377, 379, 381, 383] (by decide +kernel) (by decide +kernel)
set_option maxRecDepth 20000 in
theorem am_in2 : ∀ w ∈ u_ws RX2 TX2 13, w ∈ amTB := am_tbof [494, 496, 498, 500, 502, 504, 506, 508, 510, 512, 514, 516, 518] (by decide +kernel) (by decide +kernel)
set_option maxRecDepth 20000 in
theorem am_in3 : ∀ w ∈ u_ws RX3 TX3 14, w ∈ amTB := am_tbof [550, 552, 554, 556, 558, 560, 562, 564, 566, 568, 570, 572, 574, 576] (by decide +kernel) (by decide +kernel)
set_option maxRecDepth 20000 in
theorem am_in4 : ∀ w ∈ u_ws RX4 TX4 7, w ∈ amTB := am_tbof [454, 456, 458, 460, 462, 464, 466] (by decide +kernel) (by decide +kernel)
set_option maxRecDepth 20000 in
theorem am_in5 : ∀ w ∈ u_ws RX5 TX5 2, w ∈ amTB := am_tbof [199, 201] (by decide +kernel) (by decide +kernel)
set_option maxRecDepth 20000 in
theorem am_in6 : ∀ w ∈ u_ws RX6 TX6 20, w ∈ amTB := am_tbof [317, 319, 321, 323, 325, 327, 329, 331, 333, 335, 337, 339, 341, 343, 345, 347, 349, 351, 353, 355] (by decide +kernel) (by decide +kernel)
set_option maxRecDepth 20000 in
theorem am_in7 : ∀ w ∈ u_ws RX7 TX7 7, w ∈ amTB := am_tbof [397, 399, 401, 403, 405, 407, 409] (by decide +kernel) (by decide +kernel)
set_option maxRecDepth 20000 in
theorem am_in8 : ∀ w ∈ u_ws RX8 TX8 9, w ∈ amTB := am_tbof [250, 252, 254, 256, 258, 260, 262, 264, 266] (by decide +kernel) (by decide +kernel)
set_option maxRecDepth 20000 in
theorem am_in9 : ∀ w ∈ u_ws RX9 TX9 16, w ∈ amTB := am_tbof [595, 597, 599, 601, 603, 605, 607, 609, 611, 613, 615, 617, 619, 621, 623, 625] (by decide +kernel) (by decide +kernel)
set_option maxRecDepth 20000 in
theorem am_in10 : ∀ w ∈ u_ws RX10 TX10 90, w ∈ amTB := am_tbof [1566, 1568, 1570, 1572, 1574, 1576, 1578, 1580, 1582, 1584, 1586, 1588, 1590, 1592, 1594, 1596, 1598, 1600, 1602, 1604, 1606, 1608, 1610, 1612, 1614, 1616, 1618, 1620, 1622, 1624, 1626, 1628, 1630, 1632, 1634, 1636, 1638, 1640, 1642, 1644, 1646, 1648, 1650, 1652, 1654, 1656, 1658, 1660, 1662, 1664, 1666, 1668, 1670, 1672, 1674, 1676, 1678, 1680, 1682, 1684, 1686, 1688, 1690, 1692, 1694, 1696, 1698, 1700, 1702, 1704, 1706, 1708, 1710, 1712, 1714, 1716, 1718, 1720, 1722, 1724, 1726, 1728, 1730, 1732, 1734, 1736, 1738, 1740, 1742, 1744] (by decide +kernel) (by decide +kernel)
theorem am_in : ∀ c, c < 11 → ∀ w ∈ u_ws (amRX c) (amTX c) (amNf c), w ∈ amTB := am_lt11 am_in0 am_in1 am_in2 am_in3 am_in4 am_in5 am_in6 am_in7 am_in8 am_in9 am_in10
section AmMem
variable {p : Program} {l : Launch} {e : Env} {R : Room} {s : State} {m : MethodId} {args : Array Value} {below : List Frame} {meth : Method} {c : Code} {Q : State → Prop} {cc : ByteArray} {own : String} {nL : Nat} {dC : Nat → ClassId} {dI : Nat → Nat → Nat} {ct : Nat → ClassId} {g : Nat → Nat} {b z0 s0 : Nat} {x : Bool} {pc : Nat} {ll : AmL} {st : List Value} {M : AmM}

theorem amE_ob {a ci : Nat} (hk : mK M a = ci) (hc : ci < 11) : amE ct g M a = .inr (ci, amFs g M a) := by
  unfold amE
  rw [if_pos (by omega), hk]
theorem amE_ar {a : Nat} (hk : 11 ≤ mK M a) (hc : mK M a < 14) : amE ct g M a = .inl (ct (mK M a), mN M a, .inl (mI M a)) := by
  unfold amE
  rw [if_neg (by omega), if_pos hc]
theorem amE_rf {a : Nat} (hk : 14 ≤ mK M a) : amE ct g M a = .inl (ct (mK M a), mN M a, .inr (.inr (.inr (.inr (fun j => (mP M a j).map g))))) := by
  unfold amE
  rw [if_neg (by omega), if_neg (by omega)]
theorem amV_0 {a j : Nat} {t : FieldType} (h : amW t = 0) : amV g M a j t = .int (mI M a j) := by
  simp only [amV, h]
theorem amV_1 {a j : Nat} {t : FieldType} (h : amW t = 1) : amV g M a j t = .long (mJ M a j) := by
  simp only [amV, h]
theorem amV_2 {a j : Nat} {t : FieldType} (h : amW t = 2) : amV g M a j t = va_rf ((mP M a j).map g) := by
  simp only [amV, h]
theorem amFs_at {a ci j : Nat} (hk : mK M a = ci) (hj : j < amNf ci) : (amFs g M a)[j]? = some (amV g M a j (amT ci j)) := by
  subst hk
  simp [amFs, List.getElem?_map, List.getElem?_range, hj]
theorem amFs_len {a ci : Nat} (hk : mK M a = ci) : (amFs g M a).length = amNf ci := by
  subst hk
  simp [amFs]
theorem sn_get (F : AmF p s m args meth c own cc nL dC dI ct g b z0 x) {ci j idx a : Nat} {v : Value} (hc : ci < 11) (ha : a < mZ M) (hk : mK M a = ci) (hj : j < amNf ci) (hv : amV g M a j (amT ci j) = cv g v) (hlw : Cond.fieldLink own idx (amTX ci j).1 (amTX ci j).2.1 (amTX ci j).2.2.1 ∈ amTB ∨ Cond.fieldLinkNest own idx (amTX ci j).1 (amTX ci j).2.1 (amTX ci j).2.2.1 "BulkWriter" ∈ lw_tbl) (hd : decode cc pc = .ok (.getfield idx, 3)) (k : AmG p l e R s m args below meth c Q nL dC dI ct g b z0 s0 x (pc + 3) (ll) (v :: st) (M)) : AmG p l e R s m args below meth c Q nL dC dI ct g b z0 s0 x (pc) (ll) (.ref a :: st) (M) := by
  obtain ⟨hx, hb, hml, hown, hts, hK, hX, hb0, hlk, hg, hex⟩ := F
  intro H locs ls hP hS hl h1 h2 h3
  have he : (amWs ct g M)[a]? = some (g a, .inr (ci, amFs g M a)) := by rw [amWs_get ha, amE_ob hk hc]
  have hv9 : (amFs g M a)[j]? = some (cv g v) := by rw [amFs_at hk hj, hv]
  rcases hlw with hlw | hlw
  · exact va_get (D := (dC, dI)) (ci := ci) hx hb hts (am_in ci hc) hown hK hP a he (am_cl ci hc) j hj (hts _ hlw) (fun _ h => h) hv9 hd (k H locs ls hP hS hl h1 h2 h3)
  · exact va_getN (D := (dC, dI)) (ci := ci) hx hb hts (am_in ci hc) hown hK hP a he (am_cl ci hc) j hj (va_Nw.use rfl (hX.1 _ hlw rfl)) (fun _ h => h) hv9 hd (k H locs ls hP hS hl h1 h2 h3)
/-- what a write of a field does to the world -/
theorem am_fset {M M' : AmM} {ci j a : Nat} {v : Value} (hc : ci < 11) (ha : a < mZ M) (hk : mK M a = ci) (hk' : mK M' a = ci) (hz : mZ M' = mZ M) (ho : ∀ d, d ≠ a → amE ct g M' d = amE ct g M d) (hv : (amFs g M a).set j v = amFs g M' a) : (amWs ct g M).set a (g a, .inr (ci, (amFs g M a).set j v)) = amWs ct g M' := by
  refine amWs_set ha hz ho ?_
  rw [amE_ob hk' hc, hv]
theorem am_fsI {M : AmM} {ci j a : Nat} {v : Int32} (hk : mK M a = ci) (hj : j < amNf ci) (hw : amW (amT ci j) = 0) : (amFs g M a).set j (.int v) = amFs g (wI M a j v) a := by
  subst hk
  apply List.ext_getElem?
  intro i
  by_cases hi : i < amNf (mK M a)
  · rw [amFs_at (M := wI M a j v) rfl hi]
    by_cases hij : i = j
    · subst hij
      rw [List.getElem?_set_self (by rw [amFs_len rfl]; exact hi)]
      exact congrArg some ((amV_0 (M := wI M a i v) hw).trans (by simp [wI, wA, mI, va_up])).symm
    · rw [List.getElem?_set_ne (fun h => hij h.symm), amFs_at rfl hi]
      simp [amV, wI, wA, mI, mJ, mP, mK, va_up, hij]
  · rw [List.getElem?_eq_none (by rw [List.length_set, amFs_len rfl]; omega), List.getElem?_eq_none (by rw [amFs_len (M := wI M a j v) rfl]; exact Nat.le_of_not_lt hi)]
theorem am_fsJ {M : AmM} {ci j a : Nat} {v : Int64} (hk : mK M a = ci) (hj : j < amNf ci) (hw : amW (amT ci j) = 1) : (amFs g M a).set j (.long v) = amFs g (wJ M a j v) a := by
  subst hk
  apply List.ext_getElem?
  intro i
  by_cases hi : i < amNf (mK M a)
  · rw [amFs_at (M := wJ M a j v) rfl hi]
    by_cases hij : i = j
    · subst hij
      rw [List.getElem?_set_self (by rw [amFs_len rfl]; exact hi)]
      exact congrArg some ((amV_1 (M := wJ M a i v) hw).trans (by simp [wJ, mJ, va_up])).symm
    · rw [List.getElem?_set_ne (fun h => hij h.symm), amFs_at rfl hi]
      simp [amV, wJ, mI, mJ, mP, mK, va_up, hij]
  · rw [List.getElem?_eq_none (by rw [List.length_set, amFs_len rfl]; omega), List.getElem?_eq_none (by rw [amFs_len (M := wJ M a j v) rfl]; exact Nat.le_of_not_lt hi)]
theorem am_fsP {M : AmM} {ci j a q : Nat} (hk : mK M a = ci) (hj : j < amNf ci) (hw : amW (amT ci j) = 2) : (amFs g M a).set j (.ref (g q)) = amFs g (wP M a j q) a := by
  subst hk
  apply List.ext_getElem?
  intro i
  by_cases hi : i < amNf (mK M a)
  · rw [amFs_at (M := wP M a j q) rfl hi]
    by_cases hij : i = j
    · subst hij
      rw [List.getElem?_set_self (by rw [amFs_len rfl]; exact hi)]
      exact congrArg some ((amV_2 (M := wP M a i q) hw).trans (by simp [wP, mP, va_up, va_rf])).symm
    · rw [List.getElem?_set_ne (fun h => hij h.symm), amFs_at rfl hi]
      simp [amV, wP, mI, mJ, mP, mK, va_up, hij]
  · rw [List.getElem?_eq_none (by rw [List.length_set, amFs_len rfl]; omega), List.getElem?_eq_none (by rw [amFs_len (M := wP M a j q) rfl]; exact Nat.le_of_not_lt hi)]
theorem sn_put (F : AmF p s m args meth c own cc nL dC dI ct g b z0 x) {M' : AmM} {ci j idx a : Nat} {v : Value} (hc : ci < 11) (ha : a < mZ M) (hk : mK M a = ci) (hj : j < amNf ci) (hfin : (amTX ci j).2.2.2 = false ∨ (meth.name = "<init>" ∧ (amTX ci j).1 = own ∧ (amTX ci j).2.2.2 = true)) (hn : narrow (amT ci j) (cv g v) = cv g v) (hfit : fits (amT ci j) (cv g v) = true) (hlw : (Cond.fieldLink own idx (amTX ci j).1 (amTX ci j).2.1 (amTX ci j).2.2.1 ∈ amTB) ∨ ((amTX ci j).2.2.2 = false ∧ Cond.fieldLinkNest own idx (amTX ci j).1 (amTX ci j).2.1 (amTX ci j).2.2.1 "BulkWriter" ∈ lw_tbl)) (hd : decode cc pc = .ok (.putfield idx, 3)) (hk' : mK M' a = ci) (hz' : mZ M' = mZ M) (hs' : mS M' = mS M) (ho : ∀ d, d ≠ a → amE ct g M' d = amE ct g M d) (hv : (amFs g M a).set j (cv g v) = amFs g M' a) (k : AmG p l e R s m args below meth c Q nL dC dI ct g b z0 s0 x (pc + 3) (ll) (st) (M')) : AmG p l e R s m args below meth c Q nL dC dI ct g b z0 s0 x (pc) (ll) (v :: .ref a :: st) (M) := by
  obtain ⟨hx, hb, hml, hown, hts, hK, hX, hb0, hlk, hg, hex⟩ := F
  intro H locs ls hP hS hl h1 h2 h3
  have he : (amWs ct g M)[a]? = some (g a, .inr (ci, amFs g M a)) := by rw [amWs_get ha, amE_ob hk hc]
  have hD := amWs_D (ct := ct) (M := M) hg h3
  have hset := am_fset (ct := ct) (v := cv g v) hc ha hk hk' hz' ho hv
  have hl9 : j < (amFs g M a).length := by rw [amFs_len hk]; exact hj
  have kk : ∀ (H1 : Heap) (locs1 : List Loc), va_P (dC, dI) vwCl ((amWs ct g M).set a (g a, .inr (ci, (amFs g M a).set j (cv g v)))) H1 → va_D (amA g b) ((amWs ct g M).set a (g a, .inr (ci, (amFs g M a).set j (cv g v)))) → va_S (amA g b) s.heap H1 locs1 → W p l e R s m args below meth c H1 locs1 (mZ M - z0) (mS M - s0) Q (F0 m (pc + 3) ls (cvs g st)) := by
    intro H1 locs1 hP1 _ hS1
    rw [hset] at hP1
    rw [← hz', ← hs']
    exact k H1 locs1 ls hP1 hS1 hl (by rw [hz']; exact h1) (by rw [hs']; exact h2) (by rw [hz']; exact h3)
  rcases hlw with hlw | ⟨hf, hlw⟩
  · rcases hfin with hf | ⟨hi1, hi2, hf⟩
    · exact va_put (D := (dC, dI)) (ci := ci) hx hb hts (am_in ci hc) (amT ci) (am_ty ci hc) (am_nm ci hc) hown hK hP hD hS a he (am_cl ci hc) j hj (hts _ hlw) (fun _ h => h) hf (am_ty ci hc j hj) hn hfit hl9 hd kk
    · exact va_putF (D := (dC, dI)) (ci := ci) hx hb hts (am_in ci hc) (amT ci) (am_ty ci hc) (am_nm ci hc) hown hK hP hD hS a he (am_cl ci hc) j hj (hts _ hlw) (fun _ h => h) hf hi1 hi2 (am_ty ci hc j hj) hn hfit hl9 hd kk
  · exact va_putN (D := (dC, dI)) (ci := ci) hx hb hts (am_in ci hc) (amT ci) (am_ty ci hc) (am_nm ci hc) hown hK hP hD hS a he (am_cl ci hc) j hj (va_Nw.use rfl (hX.1 _ hlw rfl)) (fun _ h => h) hf (am_ty ci hc j hj) hn hfit hl9 hd kk
end AmMem
