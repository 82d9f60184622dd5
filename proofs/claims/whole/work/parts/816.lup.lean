/-! The law's loop. -/
section LwLp
variable {p : Program} {l : Launch} {e : Env} {s : State} {m : MethodId} {below : List Frame} {meth : Method} {c : Code} {bs L : Nat} {xs : Nat → Int32} {dC : Nat → ClassId} {dI : Nat → Nat → Nat} {ct : Nat → ClassId} {g : Nat → Nat} {cL : ClassId} {C : AmC} {f : Nat → Int64} {H : Heap} {locs : List Loc} {ls : Array Slot} {cells slots i : Nat}
theorem lw_and (v : Int32) : 0 ≤ (v &&& 31).toInt ∧ (v &&& 31).toInt ≤ 31 := by
  have h1 : (v &&& 31).toBitVec = v.toBitVec &&& 31#32 := by first | rfl | simp
  have h2 : (v &&& 31).toBitVec.toNat ≤ 31 := by
    rw [h1, BitVec.toNat_and]
    exact Nat.and_le_right
  have h3 : (v &&& 31).toInt = (v &&& 31).toBitVec.toInt := rfl
  rw [h3, BitVec.toInt_eq_toNat_of_lt (by omega)]
  omega
theorem lw_6 {i L : Nat} (hL : L ≤ 3072) (hi : i ≤ L) : nI L - 6 < nI i ↔ L < i + 6 := by
  rw [Int32.lt_iff_toInt_lt, Int32.toInt_sub, nI_toInt (show i < 2 ^ 31 by omega), nI_toInt (show L < 2 ^ 31 by omega)]
  have : (6 : Int32).toInt = 6 := by decide
  rw [this]
  have hb : ((L : Int) - 6).bmod (2 ^ 32) = (L : Int) - 6 := Int.bmod_eq_of_le (by first | omega | (simp; omega)) (by first | omega | (simp; omega))
  rw [hb]
  omega
set_option maxHeartbeats 8000000 in
theorem law_loop (G : LwG p l s m c bs L xs dC dI ct g cL) (hr : meth.sig.returnType = ret) (hlocks : meth.locks = false) : ∀ (n i : Nat), L < i + n → i ≤ L → ∀ (C : AmC) (B : Big) (f : Nat → Int64) (H : Heap) (locs : List Loc) (ls : Array Slot), LInv C B → LwM s dC dI ct g cL C f H locs → lv_has ls 7 (lwLs bs g i) → W p l e room_1 s m #[Value.ref bs] below meth c H locs (199 + i) (46951 + 6 * i) (lw_Z below #[Value.ref bs] s) (F0 m 23 ls []) := by
  intro n
  induction n with
  | zero => intro i h1 h2; exact absurd h1 (by omega)
  | succ n ih =>
    intro i h1 h2 C B f H locs ls hI hM hl
    obtain ⟨hlt, F, hKL, hNc, hXX, hbl, hob, hL⟩ := id G
    obtain ⟨hx, hb, hml, hown, hts, hK, hX, hg⟩ := id F
    have hS := hM.2.2
    have fin : ∀ (C2 : AmC) (B2 : Big) (f1 : Nat → Int64) (H1 : Heap) (locs1 : List Loc) (ls1 : Array Slot), i + 6 ≤ L → LInv C2 B2 → LwM s dC dI ct g cL C2 f1 H1 locs1 → lv_has ls1 7 (lwLs bs g i) → W p l e room_1 s m #[Value.ref bs] below meth c H1 locs1 (199 + i + 1) (46951 + 6 * i + 6) (lw_Z below #[Value.ref bs] s) (F0 m 1412 ls1 []) := by
      intro C2 B2 f1 H1 locs1 ls1 h6 hI2 hM2 hl2
      refine W.widen (k := 199 + (i + 6)) (n := 46951 + 6 * (i + 6)) (by omega) (by omega) ?_
      refine lv_iinc (v := nI (i + 6)) (lv' := [(4, .int (nI (i + 6))), (0, .ref bs), (1, .ref (g 0)), (2, .ref (g 145)), (3, .ref (g (amKN + 2)))]) hx hb dL_law_1412 hl2 (k := 4) rfl (by rw [show Int32.ofInt 6 = nI 6 by decide]; exact nI_add i 6) (by decide) rfl (fun ls3 hl3 => ?_)
      refine lv_goto (tgt := 23) hx hb dL_law_1415 (by decide) ?_
      exact ih (i + 6) (by omega) h6 C2 B2 f1 H1 locs1 ls3 hI2 hM2 (lv_sub hl3 [1, 2, 3, 4, 0] rfl)
    refine lv_iload hx hb dL_law_23 (lv_at hl 4 rfl) ?_
    refine lv_aload_n hx hb dL_law_25 rfl (lv_at hl 0 rfl) ?_
    refine va_slen (A := fun q : Nat => s.heap.size ≤ q) hx hb hXX hbl (Nat.not_le.mpr hbl) hS dL_law_26 ?_
    refine lv_bipush (v := 6) hx hb dL_law_27 (by decide) ?_
    refine lv_isub hx hb dL_law_29 ?_
    refine lv_icmp_gt (tgt := 1418) hx hb dL_law_30 (by decide) (fun _ => ?_) (fun hgt => ?_)
    · refine lv_iconst (v := 1) hx hb dL_law_1418 (by decide) ?_
      refine va_forget hS.2.2 ?_
      refine W.widen (k := 601024) (n := 7293033) (by omega) (by omega) ?_
      exact lw_ret hx hb hr hlocks dL_law_1419
    · have h6 : i + 6 ≤ L := by
        have : ¬ L < i + 6 := fun z => hgt ((lw_6 hL h2).mpr z)
        omega
      have hc : 199 + i + 2 ≤ 601024 ∧ 46951 + 6 * i + 12 ≤ 7293033 := ⟨by omega, by omega⟩
      refine lv_aload_n hx hb dL_law_33 rfl (lv_at hl 0 rfl) ?_
      refine lv_iload hx hb dL_law_34 (lv_at hl 4 rfl) ?_
      refine va_sld (A := fun q : Nat => s.heap.size ≤ q) hx hb hXX hbl (Nat.not_le.mpr hbl) hS (vp_in_nI (by omega) (by omega)) dL_law_36 ?_
      refine lv_bipush (v := 31) hx hb dL_law_37 (by decide) ?_
      refine lv_iand hx hb dL_law_39 ?_
      generalize hv : xs (nI i).toNatClampNeg &&& 31 = v
      obtain ⟨v0, v1⟩ := lw_and (xs (nI i).toNatClampNeg)
      rw [hv] at v0 v1
      by_cases hd : 23 < v.toInt
      · refine lv_tableOut (tgt := 1412) hx hb dL_law_40 (Or.inr hd) (by decide) ?_
        refine W.widen (k := 199 + i + 1) (n := 46951 + 6 * i + 6) (by omega) (by omega) ?_
        exact fin C B f H locs ls h6 hI hM hl
      · have key : ∀ (j : Nat) (off : Int) (tgt : Nat), v.toInt = (j : Int) → (#[112, 185, 241, 254, 310, 378, 446, 514, 594, 686, 742, 810, 866, 934, 990, 1070, 1126, 1139, 1188, 1201, 1257, 1268, 1348, 1359] : Array Int)[j]? = some off → ((40 : Nat) : Int) + off = (tgt : Int) → W p l e room_1 s m #[Value.ref bs] below meth c H locs (199 + i) (46951 + 6 * i) (lw_Z below #[Value.ref bs] s) (F0 m tgt ls []) → W p l e room_1 s m #[Value.ref bs] below meth c H locs (199 + i) (46951 + 6 * i) (lw_Z below #[Value.ref bs] s) (F0 m 40 ls [.int v]) := by
          intro j off tgt e1 e2 e3 k
          exact lv_tableIn (tgt := tgt) hx hb dL_law_40 (by omega) hd (by rw [e1, show ((j : Int) - 0).toNat = j by omega]; exact e2) e3 k
        obtain ⟨j, hj, hj24⟩ : ∃ j : Nat, v.toInt = (j : Int) ∧ j < 24 := ⟨v.toInt.toNat, by omega, by omega⟩
        match j, hj, hj24 with
        | 0, h, _ => exact key 0 112 152 h rfl (by decide) (cs_feed G hM hl h6 hc (l_feed hI (xs (i + 1)) (xs (i + 2)) (xs (i + 3)) (xs (i + 4)) (xs (i + 5))) (fun C2 B2 f1 H1 locs1 ls1 z1 z2 z3 => fin C2 B2 f1 H1 locs1 ls1 h6 z1 z2 z3))
        | 1, h, _ => exact key 1 185 225 h rfl (by decide) (cs_table G hM hl h6 hc (l_table hI (xs (i + 1))) (fun C2 B2 f1 H1 locs1 ls1 z1 z2 z3 => fin C2 B2 f1 H1 locs1 ls1 h6 z1 z2 z3))
        | 2, h, _ => exact key 2 241 281 h rfl (by decide) (cs_fault G hM hl h6 hc (l_fault hI) (fun C2 B2 f1 H1 locs1 ls1 z1 z2 z3 => fin C2 B2 f1 H1 locs1 ls1 h6 z1 z2 z3))
        | 3, h, _ => exact key 3 254 294 h rfl (by decide) (cs_count G hM hl h6 hc (l_count hI (xs (i + 1))) (fun C2 B2 f1 H1 locs1 ls1 z1 z2 z3 => fin C2 B2 f1 H1 locs1 ls1 h6 z1 z2 z3))
        | 4, h, _ => exact key 4 310 350 h rfl (by decide) (cs_cell G hM hl h6 hc (l_cell hI (xs (i + 1)) (xs (i + 2))) (fun C2 B2 f1 H1 locs1 ls1 z1 z2 z3 => fin C2 B2 f1 H1 locs1 ls1 h6 z1 z2 z3))
        | 5, h, _ => exact key 5 378 418 h rfl (by decide) (cs_along G hM hl h6 hc (l_along hI (xs (i + 1)) (xs (i + 2))) (fun C2 B2 f1 H1 locs1 ls1 z1 z2 z3 => fin C2 B2 f1 H1 locs1 ls1 h6 z1 z2 z3))
        | 6, h, _ => exact key 6 446 486 h rfl (by decide) (cs_right G hM hl h6 hc (l_right hI (xs (i + 1)) (xs (i + 2))) (fun C2 B2 f1 H1 locs1 ls1 z1 z2 z3 => fin C2 B2 f1 H1 locs1 ls1 h6 z1 z2 z3))
        | 7, h, _ => exact key 7 514 554 h rfl (by decide) (cs_plan G hM hl h6 hc (l_plan hI (xs (i + 1)) (xs (i + 2)) (xs (i + 3))) (fun C2 B2 f1 H1 locs1 ls1 z1 z2 z3 => fin C2 B2 f1 H1 locs1 ls1 h6 z1 z2 z3))
        | 8, h, _ => exact key 8 594 634 h rfl (by decide) (cs_goes G hM hl h6 hc (l_goes hI (xs (i + 1)) (xs (i + 2)) (xs (i + 3)) (xs (i + 4))) (fun C2 B2 f1 H1 locs1 ls1 z1 z2 z3 => fin C2 B2 f1 H1 locs1 ls1 h6 z1 z2 z3))
        | 9, h, _ => exact key 9 686 726 h rfl (by decide) (cs_wrongPaths G hM hl h6 hc (l_wrongPaths hI (xs (i + 1))) (fun C2 B2 f1 H1 locs1 ls1 z1 z2 z3 => fin C2 B2 f1 H1 locs1 ls1 h6 z1 z2 z3))
        | 10, h, _ => exact key 10 742 782 h rfl (by decide) (cs_cheapest G hM hl h6 hc (l_cheapest hI (xs (i + 1)) (xs (i + 2))) (fun C2 B2 f1 H1 locs1 ls1 z1 z2 z3 => fin C2 B2 f1 H1 locs1 ls1 h6 z1 z2 z3))
        | 11, h, _ => exact key 11 810 850 h rfl (by decide) (cs_clashes G hM hl h6 hc (l_clashes hI (xs (i + 1))) (fun C2 B2 f1 H1 locs1 ls1 z1 z2 z3 => fin C2 B2 f1 H1 locs1 ls1 h6 z1 z2 z3))
        | 12, h, _ => exact key 12 866 906 h rfl (by decide) (cs_order G hM hl h6 hc (l_order hI (xs (i + 1)) (xs (i + 2))) (fun C2 B2 f1 H1 locs1 ls1 z1 z2 z3 => fin C2 B2 f1 H1 locs1 ls1 h6 z1 z2 z3))
        | 13, h, _ => exact key 13 934 974 h rfl (by decide) (cs_run G hM hl h6 hc (l_run hI (xs (i + 1))) (fun C2 B2 f1 H1 locs1 ls1 z1 z2 z3 => fin C2 B2 f1 H1 locs1 ls1 h6 z1 z2 z3))
        | 14, h, _ => exact key 14 990 1030 h rfl (by decide) (cs_lay G hM hl h6 hc (l_lay hI (xs (i + 1)) (xs (i + 2)) (xs (i + 3))) (fun C2 B2 f1 H1 locs1 ls1 z1 z2 z3 => fin C2 B2 f1 H1 locs1 ls1 h6 z1 z2 z3))
        | 15, h, _ => exact key 15 1070 1110 h rfl (by decide) (cs_take G hM hl h6 hc (l_take hI (xs (i + 1))) (fun C2 B2 f1 H1 locs1 ls1 z1 z2 z3 => fin C2 B2 f1 H1 locs1 ls1 h6 z1 z2 z3))
        | 16, h, _ => exact key 16 1126 1166 h rfl (by decide) (cs_undo G hM hl h6 hc (l_undo hI) (fun C2 B2 f1 H1 locs1 ls1 z1 z2 z3 => fin C2 B2 f1 H1 locs1 ls1 h6 z1 z2 z3))
        | 17, h, _ => exact key 17 1139 1179 h rfl (by decide) (cs_see G hM hl h6 hc (l_see hI (xs (i + 1)) (xs (i + 2)) (xs (i + 3))) (fun C2 B2 f1 H1 locs1 ls1 z1 z2 z3 => fin C2 B2 f1 H1 locs1 ls1 h6 z1 z2 z3))
        | 18, h, _ => exact key 18 1188 1228 h rfl (by decide) (cs_fits G hM hl h6 hc (l_fits hI) (fun C2 B2 f1 H1 locs1 ls1 z1 z2 z3 => fin C2 B2 f1 H1 locs1 ls1 h6 z1 z2 z3))
        | 19, h, _ => exact key 19 1201 1241 h rfl (by decide) (cs_look G hM hl h6 hc (l_look hI (xs (i + 1))) (fun C2 B2 f1 H1 locs1 ls1 z1 z2 z3 => fin C2 B2 f1 H1 locs1 ls1 h6 z1 z2 z3))
        | 20, h, _ => exact key 20 1257 1297 h rfl (by decide) (cs_forget G hM hl h6 hc (l_forget hI) (fun C2 B2 f1 H1 locs1 ls1 z1 z2 z3 => fin C2 B2 f1 H1 locs1 ls1 h6 z1 z2 z3))
        | 21, h, _ => exact key 21 1268 1308 h rfl (by decide) (cs_years G hM hl h6 hc (l_years hI (xs (i + 1)) (xs (i + 2)) (xs (i + 3))) (fun C2 B2 f1 H1 locs1 ls1 z1 z2 z3 => fin C2 B2 f1 H1 locs1 ls1 h6 z1 z2 z3))
        | 22, h, _ => exact key 22 1348 1388 h rfl (by decide) (cs_image G hM hl h6 hc (l_image hI) (fun C2 B2 f1 H1 locs1 ls1 z1 z2 z3 => fin C2 B2 f1 H1 locs1 ls1 h6 z1 z2 z3))
        | 23, h, _ => exact key 23 1359 1399 h rfl (by decide) (cs_restore G hM hl h6 hc (l_restore hI) (fun C2 B2 f1 H1 locs1 ls1 z1 z2 z3 => fin C2 B2 f1 H1 locs1 ls1 h6 z1 z2 z3))
        | n9 + 24, _, h => exact absurd h (by omega)
end LwLp
