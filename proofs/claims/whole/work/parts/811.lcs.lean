/-! The law's cases. -/
section LwCs
variable {p : Program} {l : Launch} {e : Env} {s : State} {m : MethodId} {below : List Frame} {meth : Method} {c : Code} {bs L : Nat} {xs : Nat → Int32} {dC : Nat → ClassId} {dI : Nat → Nat → Nat} {ct : Nat → ClassId} {g : Nat → Nat} {cL : ClassId} {C : AmC} {f : Nat → Int64} {H : Heap} {locs : List Loc} {ls : Array Slot} {cells slots i : Nat} {Q : State → Prop}
set_option maxHeartbeats 4000000 in
theorem cs_right (G : LwG p l s m c bs L xs dC dI ct g cL) (hM : LwM s dC dI ct g cL C f H locs) (hl : lv_has ls 7 (lwLs bs g i)) (hi : i + 6 ≤ L) (hc : cells + 2 ≤ 601024 ∧ slots + 12 ≤ 7293033) (hC : LCase 124 251 [xs (i + 1), xs (i + 2)] hx1 (fun n => n = 0) C) (kk : ∀ (C2 : AmC) (B : Big) (f1 : Nat → Int64) (H1 : Heap) (locs1 : List Loc) (ls1 : Array Slot), LInv C2 B → LwM s dC dI ct g cL C2 f1 H1 locs1 → lv_has ls1 7 (lwLs bs g i) → W p l e room_1 s m #[Value.ref bs] below meth c H1 locs1 (cells + 1) (slots + 6) Q (F0 m 1412 ls1 [])) : W p l e room_1 s m #[Value.ref bs] below meth c H locs cells slots Q (F0 m 486 ls []) := by
  obtain ⟨A, C1, C2, z, B9, e1, hok, e2, hA1, hA2, hI⟩ := hC
  obtain ⟨hlt, F, hKL, hNc, hXX, hbl, hob, hL⟩ := id G
  obtain ⟨hx, hb, hml, hown, hts, hK, hX, hg⟩ := id F
  obtain ⟨hP, hO, hS⟩ := hM
  refine lv_aload_n hx hb dL_law_486 rfl (lv_at hl 1 rfl) ?_
  refine lw_arg G (i := i) (j := 1) (jj := 1) hS (lv_at hl 0 rfl) (lv_at hl 4 rfl) (by omega) (by decide) dL_law_487 dL_law_488 dL_law_490 dL_law_491 dL_law_492 ?_
  refine lw_arg G (i := i) (j := 2) (jj := 2) hS (lv_at hl 0 rfl) (lv_at hl 4 rfl) (by omega) (by decide) dL_law_493 dL_law_494 dL_law_496 dL_law_497 dL_law_498 ?_
  refine lv_aload_n hx hb dL_law_499 rfl (lv_at hl 3 rfl) ?_
  refine lw_stat F (av := [.ref (g 0), .int (xs (i + 1)), .int (xs (i + 2)), .ref (g (amKN + 2))]) (rest := []) (wr_right hlt hg hob e1 hok) ⟨rfl, rfl⟩ ⟨by decide, by decide⟩ (lw_4 lw_w_wl_right lw_w_ws_right lw_w_ini lw_w_cw_right) lw_d_right hKL hNc hP hO hS (fun q hq _ => hS.2.1 q hq (Nat.not_le.mpr hq)) hl.1 (Nat.le_of_ble_eq_true rfl) dL_law_500 ⟨by show cells + 1 ≤ 601024; omega, by show slots + 6 ≤ 7293033; omega⟩ (fun r f1 H1 locs1 hT hP1 hO1 hS1 hz1 => ?_)
  obtain ⟨hth, hre⟩ := lw_ans hT hA1 hA2 (hx1_n hok)
  refine lv_istore (lv' := [(5, .int r), (0, .ref bs), (1, .ref (g 0)), (2, .ref (g 145)), (3, .ref (g (amKN + 2))), (4, .int (nI i))]) hx hb dL_law_503 hl (by decide) rfl (fun ls hl => ?_)
  refine lv_aload_n hx hb dL_law_505 rfl (lv_at hl 3 rfl) ?_
  refine lw_arg G (i := i) (j := 1) (jj := 1) hS1 (lv_at hl 1 rfl) (lv_at hl 5 rfl) (by omega) (by decide) dL_law_506 dL_law_507 dL_law_509 dL_law_510 dL_law_511 ?_
  refine lw_arg G (i := i) (j := 2) (jj := 2) hS1 (lv_at hl 1 rfl) (lv_at hl 5 rfl) (by omega) (by decide) dL_law_512 dL_law_513 dL_law_515 dL_law_516 dL_law_517 ?_
  refine lw_inv F hlt (a := 145) (is := [xs (i + 1), xs (i + 2)]) (rest := []) (A0 := fun q : Nat => s.heap.size ≤ q) e2 ra_251.1 ra_251.2.1 (by rw [ra_251.2.2.1]; exact Nat.le_of_ble_eq_true rfl) (by decide) (by rw [ra_251.2.2.2.1]; decide) lw_w_lk_251 (by rw [ra_251.2.2.2.2.1, ra_251.2.2.2.2.2.1, ra_251.2.2.2.2.2.2]; exact ⟨by decide, by decide⟩) dL_law_518 hP1 (lw_hb hg hP1 hO1) hS1 (fun q hq _ => hS1.2.1 q hq (Nat.not_le.mpr hq)) (fun q h => h.1) hl.1 (Nat.le_of_ble_eq_true rfl) ⟨by show cells + 1 ≤ 601024; omega, by show slots + 6 ≤ 7293033; omega⟩ ?_ (fun n9 e9 => by cases e9)
  intro v9 e9 H2 locs2 hP2 hS2 hz9 hk2
  cases e9
  have hO2 := lw_ok hO1 hk2
  refine (show W p l e room_1 s m #[Value.ref bs] below meth c H2 locs2 _ _ _ (F0 m 521 ls [.int z]) from ?_)
  refine lv_istore (lv' := [(6, .int z), (5, .int r), (0, .ref bs), (1, .ref (g 0)), (2, .ref (g 145)), (3, .ref (g (amKN + 2))), (4, .int (nI i))]) hx hb dL_law_521 hl (by decide) rfl (fun ls hl => ?_)
  refine lv_aload_n hx hb dL_law_523 rfl (lv_at hl 4 rfl) ?_
  refine lw_inv F hlt (a := 145) (is := []) (rest := []) (A0 := fun q : Nat => s.heap.size ≤ q) l_thrown ra_161.1 ra_161.2.1 (by rw [ra_161.2.2.1]; exact Nat.le_of_ble_eq_true rfl) (by decide) (by rw [ra_161.2.2.2.1]; decide) lw_w_lk_161 (by rw [ra_161.2.2.2.2.1, ra_161.2.2.2.2.2.1, ra_161.2.2.2.2.2.2]; exact ⟨by decide, by decide⟩) dL_law_524 hP2 (lw_hb hg hP2 hO2) hS2 (fun q hq _ => hS2.2.1 q hq (Nat.not_le.mpr hq)) (fun q h => h.1) hl.1 (Nat.le_of_ble_eq_true rfl) ⟨by show cells + 1 ≤ 601024; omega, by show slots + 6 ≤ 7293033; omega⟩ ?_ (fun n9 e9 => by cases e9)
  intro v9 e9 H3 locs3 hP3 hS3 hz9 hk3
  cases e9
  have hO3 := lw_ok hO2 hk3
  refine (show W p l e room_1 s m #[Value.ref bs] below meth c H3 locs3 _ _ _ (F0 m 527 ls [.int (cI C2 145 5)]) from ?_)
  refine lv_iload hx hb dL_law_527 (lv_at hl 1 rfl) ?_
  refine lv_icmp_eq (tgt := 534) hx hb dL_law_529 (by decide) (fun _ => ?_) (fun h => absurd hth h)
  have fin : ∀ (ls1 : Array Slot), lv_has ls1 7 [(6, .int z), (5, .int r), (0, .ref bs), (1, .ref (g 0)), (2, .ref (g 145)), (3, .ref (g (amKN + 2))), (4, .int (nI i))] → W p l e room_1 s m #[Value.ref bs] below meth c H3 locs3 (cells + 1) (slots + 6) Q (F0 m 1412 ls1 []) := fun ls1 hl1 => kk C2 B9 f1 H3 locs3 ls1 hI ⟨hP3, hO3, hS3⟩ (lv_sub hl1 [2, 3, 4, 5, 6] rfl)
  refine W.widen (k := cells + 1) (n := slots + 6) (Nat.le_refl _) (Nat.le_refl _) ?_
  refine lv_iload hx hb dL_law_534 (lv_at hl 1 rfl) ?_
  refine lv_if_ne (tgt := 551) hx hb dL_law_536 (by decide) (fun _ => lv_goto (tgt := 1412) hx hb dL_law_551 (by decide) (fin ls hl)) (fun h0 => ?_)
  refine lv_aload_n hx hb dL_law_539 rfl (lv_at hl 5 rfl) ?_
  refine lv_iconst (v := 0) hx hb dL_law_540 (by decide) ?_
  refine lw_lald G hO3 dL_law_541 ?_
  refine lv_iload hx hb dL_law_542 (lv_at hl 0 rfl) ?_
  refine lv_i2l hx hb dL_law_544 rfl ?_
  refine W.lcmp hx hb dL_law_545 ?_
  exact lv_if_eq (tgt := 551) hx hb dL_law_546 (by decide) (fun _ => lv_goto (tgt := 1412) hx hb dL_law_551 (by decide) (fin ls hl)) (fun h => absurd (by rw [hre h0]; exact lw_cmp _) h)
set_option maxHeartbeats 4000000 in
theorem cs_plan (G : LwG p l s m c bs L xs dC dI ct g cL) (hM : LwM s dC dI ct g cL C f H locs) (hl : lv_has ls 7 (lwLs bs g i)) (hi : i + 6 ≤ L) (hc : cells + 2 ≤ 601024 ∧ slots + 12 ≤ 7293033) (hC : LCase 125 252 [xs (i + 1), xs (i + 2), xs (i + 3)] hx1 (fun n => n = 0) C) (kk : ∀ (C2 : AmC) (B : Big) (f1 : Nat → Int64) (H1 : Heap) (locs1 : List Loc) (ls1 : Array Slot), LInv C2 B → LwM s dC dI ct g cL C2 f1 H1 locs1 → lv_has ls1 7 (lwLs bs g i) → W p l e room_1 s m #[Value.ref bs] below meth c H1 locs1 (cells + 1) (slots + 6) Q (F0 m 1412 ls1 [])) : W p l e room_1 s m #[Value.ref bs] below meth c H locs cells slots Q (F0 m 554 ls []) := by
  obtain ⟨A, C1, C2, z, B9, e1, hok, e2, hA1, hA2, hI⟩ := hC
  obtain ⟨hlt, F, hKL, hNc, hXX, hbl, hob, hL⟩ := id G
  obtain ⟨hx, hb, hml, hown, hts, hK, hX, hg⟩ := id F
  obtain ⟨hP, hO, hS⟩ := hM
  refine lv_aload_n hx hb dL_law_554 rfl (lv_at hl 1 rfl) ?_
  refine lw_arg G (i := i) (j := 1) (jj := 1) hS (lv_at hl 0 rfl) (lv_at hl 4 rfl) (by omega) (by decide) dL_law_555 dL_law_556 dL_law_558 dL_law_559 dL_law_560 ?_
  refine lw_arg G (i := i) (j := 2) (jj := 2) hS (lv_at hl 0 rfl) (lv_at hl 4 rfl) (by omega) (by decide) dL_law_561 dL_law_562 dL_law_564 dL_law_565 dL_law_566 ?_
  refine lw_arg G (i := i) (j := 3) (jj := 3) hS (lv_at hl 0 rfl) (lv_at hl 4 rfl) (by omega) (by decide) dL_law_567 dL_law_568 dL_law_570 dL_law_571 dL_law_572 ?_
  refine lv_aload_n hx hb dL_law_573 rfl (lv_at hl 3 rfl) ?_
  refine lw_stat F (av := [.ref (g 0), .int (xs (i + 1)), .int (xs (i + 2)), .int (xs (i + 3)), .ref (g (amKN + 2))]) (rest := []) (wr_plan hlt hg hob e1 hok) ⟨rfl, rfl⟩ ⟨by decide, by decide⟩ (lw_4 lw_w_wl_plan lw_w_ws_plan lw_w_ini lw_w_cw_plan) lw_d_plan hKL hNc hP hO hS (fun q hq _ => hS.2.1 q hq (Nat.not_le.mpr hq)) hl.1 (Nat.le_of_ble_eq_true rfl) dL_law_574 ⟨by show cells + 1 ≤ 601024; omega, by show slots + 6 ≤ 7293033; omega⟩ (fun r f1 H1 locs1 hT hP1 hO1 hS1 hz1 => ?_)
  obtain ⟨hth, hre⟩ := lw_ans hT hA1 hA2 (hx1_n hok)
  refine lv_istore (lv' := [(5, .int r), (0, .ref bs), (1, .ref (g 0)), (2, .ref (g 145)), (3, .ref (g (amKN + 2))), (4, .int (nI i))]) hx hb dL_law_577 hl (by decide) rfl (fun ls hl => ?_)
  refine lv_aload_n hx hb dL_law_579 rfl (lv_at hl 3 rfl) ?_
  refine lw_arg G (i := i) (j := 1) (jj := 1) hS1 (lv_at hl 1 rfl) (lv_at hl 5 rfl) (by omega) (by decide) dL_law_580 dL_law_581 dL_law_583 dL_law_584 dL_law_585 ?_
  refine lw_arg G (i := i) (j := 2) (jj := 2) hS1 (lv_at hl 1 rfl) (lv_at hl 5 rfl) (by omega) (by decide) dL_law_586 dL_law_587 dL_law_589 dL_law_590 dL_law_591 ?_
  refine lw_arg G (i := i) (j := 3) (jj := 3) hS1 (lv_at hl 1 rfl) (lv_at hl 5 rfl) (by omega) (by decide) dL_law_592 dL_law_593 dL_law_595 dL_law_596 dL_law_597 ?_
  refine lw_inv F hlt (a := 145) (is := [xs (i + 1), xs (i + 2), xs (i + 3)]) (rest := []) (A0 := fun q : Nat => s.heap.size ≤ q) e2 ra_252.1 ra_252.2.1 (by rw [ra_252.2.2.1]; exact Nat.le_of_ble_eq_true rfl) (by decide) (by rw [ra_252.2.2.2.1]; decide) lw_w_lk_252 (by rw [ra_252.2.2.2.2.1, ra_252.2.2.2.2.2.1, ra_252.2.2.2.2.2.2]; exact ⟨by decide, by decide⟩) dL_law_598 hP1 (lw_hb hg hP1 hO1) hS1 (fun q hq _ => hS1.2.1 q hq (Nat.not_le.mpr hq)) (fun q h => h.1) hl.1 (Nat.le_of_ble_eq_true rfl) ⟨by show cells + 1 ≤ 601024; omega, by show slots + 6 ≤ 7293033; omega⟩ ?_ (fun n9 e9 => by cases e9)
  intro v9 e9 H2 locs2 hP2 hS2 hz9 hk2
  cases e9
  have hO2 := lw_ok hO1 hk2
  refine (show W p l e room_1 s m #[Value.ref bs] below meth c H2 locs2 _ _ _ (F0 m 601 ls [.int z]) from ?_)
  refine lv_istore (lv' := [(6, .int z), (5, .int r), (0, .ref bs), (1, .ref (g 0)), (2, .ref (g 145)), (3, .ref (g (amKN + 2))), (4, .int (nI i))]) hx hb dL_law_601 hl (by decide) rfl (fun ls hl => ?_)
  refine lv_aload_n hx hb dL_law_603 rfl (lv_at hl 4 rfl) ?_
  refine lw_inv F hlt (a := 145) (is := []) (rest := []) (A0 := fun q : Nat => s.heap.size ≤ q) l_thrown ra_161.1 ra_161.2.1 (by rw [ra_161.2.2.1]; exact Nat.le_of_ble_eq_true rfl) (by decide) (by rw [ra_161.2.2.2.1]; decide) lw_w_lk_161 (by rw [ra_161.2.2.2.2.1, ra_161.2.2.2.2.2.1, ra_161.2.2.2.2.2.2]; exact ⟨by decide, by decide⟩) dL_law_604 hP2 (lw_hb hg hP2 hO2) hS2 (fun q hq _ => hS2.2.1 q hq (Nat.not_le.mpr hq)) (fun q h => h.1) hl.1 (Nat.le_of_ble_eq_true rfl) ⟨by show cells + 1 ≤ 601024; omega, by show slots + 6 ≤ 7293033; omega⟩ ?_ (fun n9 e9 => by cases e9)
  intro v9 e9 H3 locs3 hP3 hS3 hz9 hk3
  cases e9
  have hO3 := lw_ok hO2 hk3
  refine (show W p l e room_1 s m #[Value.ref bs] below meth c H3 locs3 _ _ _ (F0 m 607 ls [.int (cI C2 145 5)]) from ?_)
  refine lv_iload hx hb dL_law_607 (lv_at hl 1 rfl) ?_
  refine lv_icmp_eq (tgt := 614) hx hb dL_law_609 (by decide) (fun _ => ?_) (fun h => absurd hth h)
  have fin : ∀ (ls1 : Array Slot), lv_has ls1 7 [(6, .int z), (5, .int r), (0, .ref bs), (1, .ref (g 0)), (2, .ref (g 145)), (3, .ref (g (amKN + 2))), (4, .int (nI i))] → W p l e room_1 s m #[Value.ref bs] below meth c H3 locs3 (cells + 1) (slots + 6) Q (F0 m 1412 ls1 []) := fun ls1 hl1 => kk C2 B9 f1 H3 locs3 ls1 hI ⟨hP3, hO3, hS3⟩ (lv_sub hl1 [2, 3, 4, 5, 6] rfl)
  refine W.widen (k := cells + 1) (n := slots + 6) (Nat.le_refl _) (Nat.le_refl _) ?_
  refine lv_iload hx hb dL_law_614 (lv_at hl 1 rfl) ?_
  refine lv_if_ne (tgt := 631) hx hb dL_law_616 (by decide) (fun _ => lv_goto (tgt := 1412) hx hb dL_law_631 (by decide) (fin ls hl)) (fun h0 => ?_)
  refine lv_aload_n hx hb dL_law_619 rfl (lv_at hl 5 rfl) ?_
  refine lv_iconst (v := 0) hx hb dL_law_620 (by decide) ?_
  refine lw_lald G hO3 dL_law_621 ?_
  refine lv_iload hx hb dL_law_622 (lv_at hl 0 rfl) ?_
  refine lv_i2l hx hb dL_law_624 rfl ?_
  refine W.lcmp hx hb dL_law_625 ?_
  exact lv_if_eq (tgt := 631) hx hb dL_law_626 (by decide) (fun _ => lv_goto (tgt := 1412) hx hb dL_law_631 (by decide) (fin ls hl)) (fun h => absurd (by rw [hre h0]; exact lw_cmp _) h)
set_option maxHeartbeats 4000000 in
theorem cs_goes (G : LwG p l s m c bs L xs dC dI ct g cL) (hM : LwM s dC dI ct g cL C f H locs) (hl : lv_has ls 7 (lwLs bs g i)) (hi : i + 6 ≤ L) (hc : cells + 2 ≤ 601024 ∧ slots + 12 ≤ 7293033) (hC : LCase 126 257 [xs (i + 1), xs (i + 2), xs (i + 3), xs (i + 4)] hx1 (fun n => n = 0) C) (kk : ∀ (C2 : AmC) (B : Big) (f1 : Nat → Int64) (H1 : Heap) (locs1 : List Loc) (ls1 : Array Slot), LInv C2 B → LwM s dC dI ct g cL C2 f1 H1 locs1 → lv_has ls1 7 (lwLs bs g i) → W p l e room_1 s m #[Value.ref bs] below meth c H1 locs1 (cells + 1) (slots + 6) Q (F0 m 1412 ls1 [])) : W p l e room_1 s m #[Value.ref bs] below meth c H locs cells slots Q (F0 m 634 ls []) := by
  obtain ⟨A, C1, C2, z, B9, e1, hok, e2, hA1, hA2, hI⟩ := hC
  obtain ⟨hlt, F, hKL, hNc, hXX, hbl, hob, hL⟩ := id G
  obtain ⟨hx, hb, hml, hown, hts, hK, hX, hg⟩ := id F
  obtain ⟨hP, hO, hS⟩ := hM
  refine lv_aload_n hx hb dL_law_634 rfl (lv_at hl 1 rfl) ?_
  refine lw_arg G (i := i) (j := 1) (jj := 1) hS (lv_at hl 0 rfl) (lv_at hl 4 rfl) (by omega) (by decide) dL_law_635 dL_law_636 dL_law_638 dL_law_639 dL_law_640 ?_
  refine lw_arg G (i := i) (j := 2) (jj := 2) hS (lv_at hl 0 rfl) (lv_at hl 4 rfl) (by omega) (by decide) dL_law_641 dL_law_642 dL_law_644 dL_law_645 dL_law_646 ?_
  refine lw_arg G (i := i) (j := 3) (jj := 3) hS (lv_at hl 0 rfl) (lv_at hl 4 rfl) (by omega) (by decide) dL_law_647 dL_law_648 dL_law_650 dL_law_651 dL_law_652 ?_
  refine lw_arg G (i := i) (j := 4) (jj := 4) hS (lv_at hl 0 rfl) (lv_at hl 4 rfl) (by omega) (by decide) dL_law_653 dL_law_654 dL_law_656 dL_law_657 dL_law_658 ?_
  refine lv_aload_n hx hb dL_law_659 rfl (lv_at hl 3 rfl) ?_
  refine lw_stat F (av := [.ref (g 0), .int (xs (i + 1)), .int (xs (i + 2)), .int (xs (i + 3)), .int (xs (i + 4)), .ref (g (amKN + 2))]) (rest := []) (wr_goes hlt hg hob e1 hok) ⟨rfl, rfl⟩ ⟨by decide, by decide⟩ (lw_4 lw_w_wl_goes lw_w_ws_goes lw_w_ini lw_w_cw_goes) lw_d_goes hKL hNc hP hO hS (fun q hq _ => hS.2.1 q hq (Nat.not_le.mpr hq)) hl.1 (Nat.le_of_ble_eq_true rfl) dL_law_660 ⟨by show cells + 1 ≤ 601024; omega, by show slots + 6 ≤ 7293033; omega⟩ (fun r f1 H1 locs1 hT hP1 hO1 hS1 hz1 => ?_)
  obtain ⟨hth, hre⟩ := lw_ans hT hA1 hA2 (hx1_n hok)
  refine lv_istore (lv' := [(5, .int r), (0, .ref bs), (1, .ref (g 0)), (2, .ref (g 145)), (3, .ref (g (amKN + 2))), (4, .int (nI i))]) hx hb dL_law_663 hl (by decide) rfl (fun ls hl => ?_)
  refine lv_aload_n hx hb dL_law_665 rfl (lv_at hl 3 rfl) ?_
  refine lw_arg G (i := i) (j := 1) (jj := 1) hS1 (lv_at hl 1 rfl) (lv_at hl 5 rfl) (by omega) (by decide) dL_law_666 dL_law_667 dL_law_669 dL_law_670 dL_law_671 ?_
  refine lw_arg G (i := i) (j := 2) (jj := 2) hS1 (lv_at hl 1 rfl) (lv_at hl 5 rfl) (by omega) (by decide) dL_law_672 dL_law_673 dL_law_675 dL_law_676 dL_law_677 ?_
  refine lw_arg G (i := i) (j := 3) (jj := 3) hS1 (lv_at hl 1 rfl) (lv_at hl 5 rfl) (by omega) (by decide) dL_law_678 dL_law_679 dL_law_681 dL_law_682 dL_law_683 ?_
  refine lw_arg G (i := i) (j := 4) (jj := 4) hS1 (lv_at hl 1 rfl) (lv_at hl 5 rfl) (by omega) (by decide) dL_law_684 dL_law_685 dL_law_687 dL_law_688 dL_law_689 ?_
  refine lw_inv F hlt (a := 145) (is := [xs (i + 1), xs (i + 2), xs (i + 3), xs (i + 4)]) (rest := []) (A0 := fun q : Nat => s.heap.size ≤ q) e2 ra_257.1 ra_257.2.1 (by rw [ra_257.2.2.1]; exact Nat.le_of_ble_eq_true rfl) (by decide) (by rw [ra_257.2.2.2.1]; decide) lw_w_lk_257 (by rw [ra_257.2.2.2.2.1, ra_257.2.2.2.2.2.1, ra_257.2.2.2.2.2.2]; exact ⟨by decide, by decide⟩) dL_law_690 hP1 (lw_hb hg hP1 hO1) hS1 (fun q hq _ => hS1.2.1 q hq (Nat.not_le.mpr hq)) (fun q h => h.1) hl.1 (Nat.le_of_ble_eq_true rfl) ⟨by show cells + 1 ≤ 601024; omega, by show slots + 6 ≤ 7293033; omega⟩ ?_ (fun n9 e9 => by cases e9)
  intro v9 e9 H2 locs2 hP2 hS2 hz9 hk2
  cases e9
  have hO2 := lw_ok hO1 hk2
  refine (show W p l e room_1 s m #[Value.ref bs] below meth c H2 locs2 _ _ _ (F0 m 693 ls [.int z]) from ?_)
  refine lv_istore (lv' := [(6, .int z), (5, .int r), (0, .ref bs), (1, .ref (g 0)), (2, .ref (g 145)), (3, .ref (g (amKN + 2))), (4, .int (nI i))]) hx hb dL_law_693 hl (by decide) rfl (fun ls hl => ?_)
  refine lv_aload_n hx hb dL_law_695 rfl (lv_at hl 4 rfl) ?_
  refine lw_inv F hlt (a := 145) (is := []) (rest := []) (A0 := fun q : Nat => s.heap.size ≤ q) l_thrown ra_161.1 ra_161.2.1 (by rw [ra_161.2.2.1]; exact Nat.le_of_ble_eq_true rfl) (by decide) (by rw [ra_161.2.2.2.1]; decide) lw_w_lk_161 (by rw [ra_161.2.2.2.2.1, ra_161.2.2.2.2.2.1, ra_161.2.2.2.2.2.2]; exact ⟨by decide, by decide⟩) dL_law_696 hP2 (lw_hb hg hP2 hO2) hS2 (fun q hq _ => hS2.2.1 q hq (Nat.not_le.mpr hq)) (fun q h => h.1) hl.1 (Nat.le_of_ble_eq_true rfl) ⟨by show cells + 1 ≤ 601024; omega, by show slots + 6 ≤ 7293033; omega⟩ ?_ (fun n9 e9 => by cases e9)
  intro v9 e9 H3 locs3 hP3 hS3 hz9 hk3
  cases e9
  have hO3 := lw_ok hO2 hk3
  refine (show W p l e room_1 s m #[Value.ref bs] below meth c H3 locs3 _ _ _ (F0 m 699 ls [.int (cI C2 145 5)]) from ?_)
  refine lv_iload hx hb dL_law_699 (lv_at hl 1 rfl) ?_
  refine lv_icmp_eq (tgt := 706) hx hb dL_law_701 (by decide) (fun _ => ?_) (fun h => absurd hth h)
  have fin : ∀ (ls1 : Array Slot), lv_has ls1 7 [(6, .int z), (5, .int r), (0, .ref bs), (1, .ref (g 0)), (2, .ref (g 145)), (3, .ref (g (amKN + 2))), (4, .int (nI i))] → W p l e room_1 s m #[Value.ref bs] below meth c H3 locs3 (cells + 1) (slots + 6) Q (F0 m 1412 ls1 []) := fun ls1 hl1 => kk C2 B9 f1 H3 locs3 ls1 hI ⟨hP3, hO3, hS3⟩ (lv_sub hl1 [2, 3, 4, 5, 6] rfl)
  refine W.widen (k := cells + 1) (n := slots + 6) (Nat.le_refl _) (Nat.le_refl _) ?_
  refine lv_iload hx hb dL_law_706 (lv_at hl 1 rfl) ?_
  refine lv_if_ne (tgt := 723) hx hb dL_law_708 (by decide) (fun _ => lv_goto (tgt := 1412) hx hb dL_law_723 (by decide) (fin ls hl)) (fun h0 => ?_)
  refine lv_aload_n hx hb dL_law_711 rfl (lv_at hl 5 rfl) ?_
  refine lv_iconst (v := 0) hx hb dL_law_712 (by decide) ?_
  refine lw_lald G hO3 dL_law_713 ?_
  refine lv_iload hx hb dL_law_714 (lv_at hl 0 rfl) ?_
  refine lv_i2l hx hb dL_law_716 rfl ?_
  refine W.lcmp hx hb dL_law_717 ?_
  exact lv_if_eq (tgt := 723) hx hb dL_law_718 (by decide) (fun _ => lv_goto (tgt := 1412) hx hb dL_law_723 (by decide) (fin ls hl)) (fun h => absurd (by rw [hre h0]; exact lw_cmp _) h)
set_option maxHeartbeats 4000000 in
theorem cs_wrongPaths (G : LwG p l s m c bs L xs dC dI ct g cL) (hM : LwM s dC dI ct g cL C f H locs) (hl : lv_has ls 7 (lwLs bs g i)) (hi : i + 6 ≤ L) (hc : cells + 2 ≤ 601024 ∧ slots + 12 ≤ 7293033) (hC : LCase 127 258 [xs (i + 1)] hx1 (fun n => n = 0) C) (kk : ∀ (C2 : AmC) (B : Big) (f1 : Nat → Int64) (H1 : Heap) (locs1 : List Loc) (ls1 : Array Slot), LInv C2 B → LwM s dC dI ct g cL C2 f1 H1 locs1 → lv_has ls1 7 (lwLs bs g i) → W p l e room_1 s m #[Value.ref bs] below meth c H1 locs1 (cells + 1) (slots + 6) Q (F0 m 1412 ls1 [])) : W p l e room_1 s m #[Value.ref bs] below meth c H locs cells slots Q (F0 m 726 ls []) := by
  obtain ⟨A, C1, C2, z, B9, e1, hok, e2, hA1, hA2, hI⟩ := hC
  obtain ⟨hlt, F, hKL, hNc, hXX, hbl, hob, hL⟩ := id G
  obtain ⟨hx, hb, hml, hown, hts, hK, hX, hg⟩ := id F
  obtain ⟨hP, hO, hS⟩ := hM
  refine lv_aload_n hx hb dL_law_726 rfl (lv_at hl 1 rfl) ?_
  refine lw_arg G (i := i) (j := 1) (jj := 1) hS (lv_at hl 0 rfl) (lv_at hl 4 rfl) (by omega) (by decide) dL_law_727 dL_law_728 dL_law_730 dL_law_731 dL_law_732 ?_
  refine lv_aload_n hx hb dL_law_733 rfl (lv_at hl 3 rfl) ?_
  refine lw_stat F (av := [.ref (g 0), .int (xs (i + 1)), .ref (g (amKN + 2))]) (rest := []) (wr_wrongPaths hlt hg hob e1 hok) ⟨rfl, rfl⟩ ⟨by decide, by decide⟩ (lw_4 lw_w_wl_wrongPaths lw_w_ws_wrongPaths lw_w_ini lw_w_cw_wrongPaths) lw_d_wrongPaths hKL hNc hP hO hS (fun q hq _ => hS.2.1 q hq (Nat.not_le.mpr hq)) hl.1 (Nat.le_of_ble_eq_true rfl) dL_law_734 ⟨by show cells + 1 ≤ 601024; omega, by show slots + 6 ≤ 7293033; omega⟩ (fun r f1 H1 locs1 hT hP1 hO1 hS1 hz1 => ?_)
  obtain ⟨hth, hre⟩ := lw_ans hT hA1 hA2 (hx1_n hok)
  refine lv_istore (lv' := [(5, .int r), (0, .ref bs), (1, .ref (g 0)), (2, .ref (g 145)), (3, .ref (g (amKN + 2))), (4, .int (nI i))]) hx hb dL_law_737 hl (by decide) rfl (fun ls hl => ?_)
  refine lv_aload_n hx hb dL_law_739 rfl (lv_at hl 3 rfl) ?_
  refine lw_arg G (i := i) (j := 1) (jj := 1) hS1 (lv_at hl 1 rfl) (lv_at hl 5 rfl) (by omega) (by decide) dL_law_740 dL_law_741 dL_law_743 dL_law_744 dL_law_745 ?_
  refine lw_inv F hlt (a := 145) (is := [xs (i + 1)]) (rest := []) (A0 := fun q : Nat => s.heap.size ≤ q) e2 ra_258.1 ra_258.2.1 (by rw [ra_258.2.2.1]; exact Nat.le_of_ble_eq_true rfl) (by decide) (by rw [ra_258.2.2.2.1]; decide) lw_w_lk_258 (by rw [ra_258.2.2.2.2.1, ra_258.2.2.2.2.2.1, ra_258.2.2.2.2.2.2]; exact ⟨by decide, by decide⟩) dL_law_746 hP1 (lw_hb hg hP1 hO1) hS1 (fun q hq _ => hS1.2.1 q hq (Nat.not_le.mpr hq)) (fun q h => h.1) hl.1 (Nat.le_of_ble_eq_true rfl) ⟨by show cells + 1 ≤ 601024; omega, by show slots + 6 ≤ 7293033; omega⟩ ?_ (fun n9 e9 => by cases e9)
  intro v9 e9 H2 locs2 hP2 hS2 hz9 hk2
  cases e9
  have hO2 := lw_ok hO1 hk2
  refine (show W p l e room_1 s m #[Value.ref bs] below meth c H2 locs2 _ _ _ (F0 m 749 ls [.int z]) from ?_)
  refine lv_istore (lv' := [(6, .int z), (5, .int r), (0, .ref bs), (1, .ref (g 0)), (2, .ref (g 145)), (3, .ref (g (amKN + 2))), (4, .int (nI i))]) hx hb dL_law_749 hl (by decide) rfl (fun ls hl => ?_)
  refine lv_aload_n hx hb dL_law_751 rfl (lv_at hl 4 rfl) ?_
  refine lw_inv F hlt (a := 145) (is := []) (rest := []) (A0 := fun q : Nat => s.heap.size ≤ q) l_thrown ra_161.1 ra_161.2.1 (by rw [ra_161.2.2.1]; exact Nat.le_of_ble_eq_true rfl) (by decide) (by rw [ra_161.2.2.2.1]; decide) lw_w_lk_161 (by rw [ra_161.2.2.2.2.1, ra_161.2.2.2.2.2.1, ra_161.2.2.2.2.2.2]; exact ⟨by decide, by decide⟩) dL_law_752 hP2 (lw_hb hg hP2 hO2) hS2 (fun q hq _ => hS2.2.1 q hq (Nat.not_le.mpr hq)) (fun q h => h.1) hl.1 (Nat.le_of_ble_eq_true rfl) ⟨by show cells + 1 ≤ 601024; omega, by show slots + 6 ≤ 7293033; omega⟩ ?_ (fun n9 e9 => by cases e9)
  intro v9 e9 H3 locs3 hP3 hS3 hz9 hk3
  cases e9
  have hO3 := lw_ok hO2 hk3
  refine (show W p l e room_1 s m #[Value.ref bs] below meth c H3 locs3 _ _ _ (F0 m 755 ls [.int (cI C2 145 5)]) from ?_)
  refine lv_iload hx hb dL_law_755 (lv_at hl 1 rfl) ?_
  refine lv_icmp_eq (tgt := 762) hx hb dL_law_757 (by decide) (fun _ => ?_) (fun h => absurd hth h)
  have fin : ∀ (ls1 : Array Slot), lv_has ls1 7 [(6, .int z), (5, .int r), (0, .ref bs), (1, .ref (g 0)), (2, .ref (g 145)), (3, .ref (g (amKN + 2))), (4, .int (nI i))] → W p l e room_1 s m #[Value.ref bs] below meth c H3 locs3 (cells + 1) (slots + 6) Q (F0 m 1412 ls1 []) := fun ls1 hl1 => kk C2 B9 f1 H3 locs3 ls1 hI ⟨hP3, hO3, hS3⟩ (lv_sub hl1 [2, 3, 4, 5, 6] rfl)
  refine W.widen (k := cells + 1) (n := slots + 6) (Nat.le_refl _) (Nat.le_refl _) ?_
  refine lv_iload hx hb dL_law_762 (lv_at hl 1 rfl) ?_
  refine lv_if_ne (tgt := 779) hx hb dL_law_764 (by decide) (fun _ => lv_goto (tgt := 1412) hx hb dL_law_779 (by decide) (fin ls hl)) (fun h0 => ?_)
  refine lv_aload_n hx hb dL_law_767 rfl (lv_at hl 5 rfl) ?_
  refine lv_iconst (v := 0) hx hb dL_law_768 (by decide) ?_
  refine lw_lald G hO3 dL_law_769 ?_
  refine lv_iload hx hb dL_law_770 (lv_at hl 0 rfl) ?_
  refine lv_i2l hx hb dL_law_772 rfl ?_
  refine W.lcmp hx hb dL_law_773 ?_
  exact lv_if_eq (tgt := 779) hx hb dL_law_774 (by decide) (fun _ => lv_goto (tgt := 1412) hx hb dL_law_779 (by decide) (fin ls hl)) (fun h => absurd (by rw [hre h0]; exact lw_cmp _) h)
set_option maxHeartbeats 4000000 in
theorem cs_cheapest (G : LwG p l s m c bs L xs dC dI ct g cL) (hM : LwM s dC dI ct g cL C f H locs) (hl : lv_has ls 7 (lwLs bs g i)) (hi : i + 6 ≤ L) (hc : cells + 2 ≤ 601024 ∧ slots + 12 ≤ 7293033) (hC : LCase 128 259 [xs (i + 1), xs (i + 2)] hx1 (fun n => n = 0) C) (kk : ∀ (C2 : AmC) (B : Big) (f1 : Nat → Int64) (H1 : Heap) (locs1 : List Loc) (ls1 : Array Slot), LInv C2 B → LwM s dC dI ct g cL C2 f1 H1 locs1 → lv_has ls1 7 (lwLs bs g i) → W p l e room_1 s m #[Value.ref bs] below meth c H1 locs1 (cells + 1) (slots + 6) Q (F0 m 1412 ls1 [])) : W p l e room_1 s m #[Value.ref bs] below meth c H locs cells slots Q (F0 m 782 ls []) := by
  obtain ⟨A, C1, C2, z, B9, e1, hok, e2, hA1, hA2, hI⟩ := hC
  obtain ⟨hlt, F, hKL, hNc, hXX, hbl, hob, hL⟩ := id G
  obtain ⟨hx, hb, hml, hown, hts, hK, hX, hg⟩ := id F
  obtain ⟨hP, hO, hS⟩ := hM
  refine lv_aload_n hx hb dL_law_782 rfl (lv_at hl 1 rfl) ?_
  refine lw_arg G (i := i) (j := 1) (jj := 1) hS (lv_at hl 0 rfl) (lv_at hl 4 rfl) (by omega) (by decide) dL_law_783 dL_law_784 dL_law_786 dL_law_787 dL_law_788 ?_
  refine lw_arg G (i := i) (j := 2) (jj := 2) hS (lv_at hl 0 rfl) (lv_at hl 4 rfl) (by omega) (by decide) dL_law_789 dL_law_790 dL_law_792 dL_law_793 dL_law_794 ?_
  refine lv_aload_n hx hb dL_law_795 rfl (lv_at hl 3 rfl) ?_
  refine lw_stat F (av := [.ref (g 0), .int (xs (i + 1)), .int (xs (i + 2)), .ref (g (amKN + 2))]) (rest := []) (wr_cheapest hlt hg hob e1 hok) ⟨rfl, rfl⟩ ⟨by decide, by decide⟩ (lw_4 lw_w_wl_cheapest lw_w_ws_cheapest lw_w_ini lw_w_cw_cheapest) lw_d_cheapest hKL hNc hP hO hS (fun q hq _ => hS.2.1 q hq (Nat.not_le.mpr hq)) hl.1 (Nat.le_of_ble_eq_true rfl) dL_law_796 ⟨by show cells + 1 ≤ 601024; omega, by show slots + 6 ≤ 7293033; omega⟩ (fun r f1 H1 locs1 hT hP1 hO1 hS1 hz1 => ?_)
  obtain ⟨hth, hre⟩ := lw_ans hT hA1 hA2 (hx1_n hok)
  refine lv_istore (lv' := [(5, .int r), (0, .ref bs), (1, .ref (g 0)), (2, .ref (g 145)), (3, .ref (g (amKN + 2))), (4, .int (nI i))]) hx hb dL_law_799 hl (by decide) rfl (fun ls hl => ?_)
  refine lv_aload_n hx hb dL_law_801 rfl (lv_at hl 3 rfl) ?_
  refine lw_arg G (i := i) (j := 1) (jj := 1) hS1 (lv_at hl 1 rfl) (lv_at hl 5 rfl) (by omega) (by decide) dL_law_802 dL_law_803 dL_law_805 dL_law_806 dL_law_807 ?_
  refine lw_arg G (i := i) (j := 2) (jj := 2) hS1 (lv_at hl 1 rfl) (lv_at hl 5 rfl) (by omega) (by decide) dL_law_808 dL_law_809 dL_law_811 dL_law_812 dL_law_813 ?_
  refine lw_inv F hlt (a := 145) (is := [xs (i + 1), xs (i + 2)]) (rest := []) (A0 := fun q : Nat => s.heap.size ≤ q) e2 ra_259.1 ra_259.2.1 (by rw [ra_259.2.2.1]; exact Nat.le_of_ble_eq_true rfl) (by decide) (by rw [ra_259.2.2.2.1]; decide) lw_w_lk_259 (by rw [ra_259.2.2.2.2.1, ra_259.2.2.2.2.2.1, ra_259.2.2.2.2.2.2]; exact ⟨by decide, by decide⟩) dL_law_814 hP1 (lw_hb hg hP1 hO1) hS1 (fun q hq _ => hS1.2.1 q hq (Nat.not_le.mpr hq)) (fun q h => h.1) hl.1 (Nat.le_of_ble_eq_true rfl) ⟨by show cells + 1 ≤ 601024; omega, by show slots + 6 ≤ 7293033; omega⟩ ?_ (fun n9 e9 => by cases e9)
  intro v9 e9 H2 locs2 hP2 hS2 hz9 hk2
  cases e9
  have hO2 := lw_ok hO1 hk2
  refine (show W p l e room_1 s m #[Value.ref bs] below meth c H2 locs2 _ _ _ (F0 m 817 ls [.int z]) from ?_)
  refine lv_istore (lv' := [(6, .int z), (5, .int r), (0, .ref bs), (1, .ref (g 0)), (2, .ref (g 145)), (3, .ref (g (amKN + 2))), (4, .int (nI i))]) hx hb dL_law_817 hl (by decide) rfl (fun ls hl => ?_)
  refine lv_aload_n hx hb dL_law_819 rfl (lv_at hl 4 rfl) ?_
  refine lw_inv F hlt (a := 145) (is := []) (rest := []) (A0 := fun q : Nat => s.heap.size ≤ q) l_thrown ra_161.1 ra_161.2.1 (by rw [ra_161.2.2.1]; exact Nat.le_of_ble_eq_true rfl) (by decide) (by rw [ra_161.2.2.2.1]; decide) lw_w_lk_161 (by rw [ra_161.2.2.2.2.1, ra_161.2.2.2.2.2.1, ra_161.2.2.2.2.2.2]; exact ⟨by decide, by decide⟩) dL_law_820 hP2 (lw_hb hg hP2 hO2) hS2 (fun q hq _ => hS2.2.1 q hq (Nat.not_le.mpr hq)) (fun q h => h.1) hl.1 (Nat.le_of_ble_eq_true rfl) ⟨by show cells + 1 ≤ 601024; omega, by show slots + 6 ≤ 7293033; omega⟩ ?_ (fun n9 e9 => by cases e9)
  intro v9 e9 H3 locs3 hP3 hS3 hz9 hk3
  cases e9
  have hO3 := lw_ok hO2 hk3
  refine (show W p l e room_1 s m #[Value.ref bs] below meth c H3 locs3 _ _ _ (F0 m 823 ls [.int (cI C2 145 5)]) from ?_)
  refine lv_iload hx hb dL_law_823 (lv_at hl 1 rfl) ?_
  refine lv_icmp_eq (tgt := 830) hx hb dL_law_825 (by decide) (fun _ => ?_) (fun h => absurd hth h)
  have fin : ∀ (ls1 : Array Slot), lv_has ls1 7 [(6, .int z), (5, .int r), (0, .ref bs), (1, .ref (g 0)), (2, .ref (g 145)), (3, .ref (g (amKN + 2))), (4, .int (nI i))] → W p l e room_1 s m #[Value.ref bs] below meth c H3 locs3 (cells + 1) (slots + 6) Q (F0 m 1412 ls1 []) := fun ls1 hl1 => kk C2 B9 f1 H3 locs3 ls1 hI ⟨hP3, hO3, hS3⟩ (lv_sub hl1 [2, 3, 4, 5, 6] rfl)
  refine W.widen (k := cells + 1) (n := slots + 6) (Nat.le_refl _) (Nat.le_refl _) ?_
  refine lv_iload hx hb dL_law_830 (lv_at hl 1 rfl) ?_
  refine lv_if_ne (tgt := 847) hx hb dL_law_832 (by decide) (fun _ => lv_goto (tgt := 1412) hx hb dL_law_847 (by decide) (fin ls hl)) (fun h0 => ?_)
  refine lv_aload_n hx hb dL_law_835 rfl (lv_at hl 5 rfl) ?_
  refine lv_iconst (v := 0) hx hb dL_law_836 (by decide) ?_
  refine lw_lald G hO3 dL_law_837 ?_
  refine lv_iload hx hb dL_law_838 (lv_at hl 0 rfl) ?_
  refine lv_i2l hx hb dL_law_840 rfl ?_
  refine W.lcmp hx hb dL_law_841 ?_
  exact lv_if_eq (tgt := 847) hx hb dL_law_842 (by decide) (fun _ => lv_goto (tgt := 1412) hx hb dL_law_847 (by decide) (fin ls hl)) (fun h => absurd (by rw [hre h0]; exact lw_cmp _) h)
set_option maxHeartbeats 4000000 in
theorem cs_clashes (G : LwG p l s m c bs L xs dC dI ct g cL) (hM : LwM s dC dI ct g cL C f H locs) (hl : lv_has ls 7 (lwLs bs g i)) (hi : i + 6 ≤ L) (hc : cells + 2 ≤ 601024 ∧ slots + 12 ≤ 7293033) (hC : LCase 129 265 [xs (i + 1)] hx1 (fun n => n = 0) C) (kk : ∀ (C2 : AmC) (B : Big) (f1 : Nat → Int64) (H1 : Heap) (locs1 : List Loc) (ls1 : Array Slot), LInv C2 B → LwM s dC dI ct g cL C2 f1 H1 locs1 → lv_has ls1 7 (lwLs bs g i) → W p l e room_1 s m #[Value.ref bs] below meth c H1 locs1 (cells + 1) (slots + 6) Q (F0 m 1412 ls1 [])) : W p l e room_1 s m #[Value.ref bs] below meth c H locs cells slots Q (F0 m 850 ls []) := by
  obtain ⟨A, C1, C2, z, B9, e1, hok, e2, hA1, hA2, hI⟩ := hC
  obtain ⟨hlt, F, hKL, hNc, hXX, hbl, hob, hL⟩ := id G
  obtain ⟨hx, hb, hml, hown, hts, hK, hX, hg⟩ := id F
  obtain ⟨hP, hO, hS⟩ := hM
  refine lv_aload_n hx hb dL_law_850 rfl (lv_at hl 1 rfl) ?_
  refine lw_arg G (i := i) (j := 1) (jj := 1) hS (lv_at hl 0 rfl) (lv_at hl 4 rfl) (by omega) (by decide) dL_law_851 dL_law_852 dL_law_854 dL_law_855 dL_law_856 ?_
  refine lv_aload_n hx hb dL_law_857 rfl (lv_at hl 3 rfl) ?_
  refine lw_stat F (av := [.ref (g 0), .int (xs (i + 1)), .ref (g (amKN + 2))]) (rest := []) (wr_clashes hlt hg hob e1 hok) ⟨rfl, rfl⟩ ⟨by decide, by decide⟩ (lw_4 lw_w_wl_clashes lw_w_ws_clashes lw_w_ini lw_w_cw_clashes) lw_d_clashes hKL hNc hP hO hS (fun q hq _ => hS.2.1 q hq (Nat.not_le.mpr hq)) hl.1 (Nat.le_of_ble_eq_true rfl) dL_law_858 ⟨by show cells + 1 ≤ 601024; omega, by show slots + 6 ≤ 7293033; omega⟩ (fun r f1 H1 locs1 hT hP1 hO1 hS1 hz1 => ?_)
  obtain ⟨hth, hre⟩ := lw_ans hT hA1 hA2 (hx1_n hok)
  refine lv_istore (lv' := [(5, .int r), (0, .ref bs), (1, .ref (g 0)), (2, .ref (g 145)), (3, .ref (g (amKN + 2))), (4, .int (nI i))]) hx hb dL_law_861 hl (by decide) rfl (fun ls hl => ?_)
  refine lv_aload_n hx hb dL_law_863 rfl (lv_at hl 3 rfl) ?_
  refine lw_arg G (i := i) (j := 1) (jj := 1) hS1 (lv_at hl 1 rfl) (lv_at hl 5 rfl) (by omega) (by decide) dL_law_864 dL_law_865 dL_law_867 dL_law_868 dL_law_869 ?_
  refine lw_inv F hlt (a := 145) (is := [xs (i + 1)]) (rest := []) (A0 := fun q : Nat => s.heap.size ≤ q) e2 ra_265.1 ra_265.2.1 (by rw [ra_265.2.2.1]; exact Nat.le_of_ble_eq_true rfl) (by decide) (by rw [ra_265.2.2.2.1]; decide) lw_w_lk_265 (by rw [ra_265.2.2.2.2.1, ra_265.2.2.2.2.2.1, ra_265.2.2.2.2.2.2]; exact ⟨by decide, by decide⟩) dL_law_870 hP1 (lw_hb hg hP1 hO1) hS1 (fun q hq _ => hS1.2.1 q hq (Nat.not_le.mpr hq)) (fun q h => h.1) hl.1 (Nat.le_of_ble_eq_true rfl) ⟨by show cells + 1 ≤ 601024; omega, by show slots + 6 ≤ 7293033; omega⟩ ?_ (fun n9 e9 => by cases e9)
  intro v9 e9 H2 locs2 hP2 hS2 hz9 hk2
  cases e9
  have hO2 := lw_ok hO1 hk2
  refine (show W p l e room_1 s m #[Value.ref bs] below meth c H2 locs2 _ _ _ (F0 m 873 ls [.int z]) from ?_)
  refine lv_istore (lv' := [(6, .int z), (5, .int r), (0, .ref bs), (1, .ref (g 0)), (2, .ref (g 145)), (3, .ref (g (amKN + 2))), (4, .int (nI i))]) hx hb dL_law_873 hl (by decide) rfl (fun ls hl => ?_)
  refine lv_aload_n hx hb dL_law_875 rfl (lv_at hl 4 rfl) ?_
  refine lw_inv F hlt (a := 145) (is := []) (rest := []) (A0 := fun q : Nat => s.heap.size ≤ q) l_thrown ra_161.1 ra_161.2.1 (by rw [ra_161.2.2.1]; exact Nat.le_of_ble_eq_true rfl) (by decide) (by rw [ra_161.2.2.2.1]; decide) lw_w_lk_161 (by rw [ra_161.2.2.2.2.1, ra_161.2.2.2.2.2.1, ra_161.2.2.2.2.2.2]; exact ⟨by decide, by decide⟩) dL_law_876 hP2 (lw_hb hg hP2 hO2) hS2 (fun q hq _ => hS2.2.1 q hq (Nat.not_le.mpr hq)) (fun q h => h.1) hl.1 (Nat.le_of_ble_eq_true rfl) ⟨by show cells + 1 ≤ 601024; omega, by show slots + 6 ≤ 7293033; omega⟩ ?_ (fun n9 e9 => by cases e9)
  intro v9 e9 H3 locs3 hP3 hS3 hz9 hk3
  cases e9
  have hO3 := lw_ok hO2 hk3
  refine (show W p l e room_1 s m #[Value.ref bs] below meth c H3 locs3 _ _ _ (F0 m 879 ls [.int (cI C2 145 5)]) from ?_)
  refine lv_iload hx hb dL_law_879 (lv_at hl 1 rfl) ?_
  refine lv_icmp_eq (tgt := 886) hx hb dL_law_881 (by decide) (fun _ => ?_) (fun h => absurd hth h)
  have fin : ∀ (ls1 : Array Slot), lv_has ls1 7 [(6, .int z), (5, .int r), (0, .ref bs), (1, .ref (g 0)), (2, .ref (g 145)), (3, .ref (g (amKN + 2))), (4, .int (nI i))] → W p l e room_1 s m #[Value.ref bs] below meth c H3 locs3 (cells + 1) (slots + 6) Q (F0 m 1412 ls1 []) := fun ls1 hl1 => kk C2 B9 f1 H3 locs3 ls1 hI ⟨hP3, hO3, hS3⟩ (lv_sub hl1 [2, 3, 4, 5, 6] rfl)
  refine W.widen (k := cells + 1) (n := slots + 6) (Nat.le_refl _) (Nat.le_refl _) ?_
  refine lv_iload hx hb dL_law_886 (lv_at hl 1 rfl) ?_
  refine lv_if_ne (tgt := 903) hx hb dL_law_888 (by decide) (fun _ => lv_goto (tgt := 1412) hx hb dL_law_903 (by decide) (fin ls hl)) (fun h0 => ?_)
  refine lv_aload_n hx hb dL_law_891 rfl (lv_at hl 5 rfl) ?_
  refine lv_iconst (v := 0) hx hb dL_law_892 (by decide) ?_
  refine lw_lald G hO3 dL_law_893 ?_
  refine lv_iload hx hb dL_law_894 (lv_at hl 0 rfl) ?_
  refine lv_i2l hx hb dL_law_896 rfl ?_
  refine W.lcmp hx hb dL_law_897 ?_
  exact lv_if_eq (tgt := 903) hx hb dL_law_898 (by decide) (fun _ => lv_goto (tgt := 1412) hx hb dL_law_903 (by decide) (fin ls hl)) (fun h => absurd (by rw [hre h0]; exact lw_cmp _) h)
end LwCs
