/-! The law's cases. -/
section LwCs
variable {p : Program} {l : Launch} {e : Env} {s : State} {m : MethodId} {below : List Frame} {meth : Method} {c : Code} {bs L : Nat} {xs : Nat → Int32} {dC : Nat → ClassId} {dI : Nat → Nat → Nat} {ct : Nat → ClassId} {g : Nat → Nat} {cL : ClassId} {C : AmC} {f : Nat → Int64} {H : Heap} {locs : List Loc} {ls : Array Slot} {cells slots i : Nat} {Q : State → Prop}
set_option maxHeartbeats 4000000 in
theorem cs_order (G : LwG p l s m c bs L xs dC dI ct g cL) (hM : LwM s dC dI ct g cL C f H locs) (hl : lv_has ls 7 (lwLs bs g i)) (hi : i + 6 ≤ L) (hc : cells + 2 ≤ 601024 ∧ slots + 12 ≤ 7293033) (hC : LCase 130 268 [xs (i + 1), xs (i + 2)] hx1 (fun n => n = 0) C) (kk : ∀ (C2 : AmC) (B : Big) (f1 : Nat → Int64) (H1 : Heap) (locs1 : List Loc) (ls1 : Array Slot), LInv C2 B → LwM s dC dI ct g cL C2 f1 H1 locs1 → lv_has ls1 7 (lwLs bs g i) → W p l e room_1 s m #[Value.ref bs] below meth c H1 locs1 (cells + 1) (slots + 6) Q (F0 m 1412 ls1 [])) : W p l e room_1 s m #[Value.ref bs] below meth c H locs cells slots Q (F0 m 906 ls []) := by
  obtain ⟨A, C1, C2, z, B9, e1, hok, e2, hA1, hA2, hI⟩ := hC
  obtain ⟨hlt, F, hKL, hNc, hXX, hbl, hob, hL⟩ := id G
  obtain ⟨hx, hb, hml, hown, hts, hK, hX, hg⟩ := id F
  obtain ⟨hP, hO, hS⟩ := hM
  refine lv_aload_n hx hb dL_law_906 rfl (lv_at hl 1 rfl) ?_
  refine lw_arg G (i := i) (j := 1) (jj := 1) hS (lv_at hl 0 rfl) (lv_at hl 4 rfl) (by omega) (by decide) dL_law_907 dL_law_908 dL_law_910 dL_law_911 dL_law_912 ?_
  refine lw_arg G (i := i) (j := 2) (jj := 2) hS (lv_at hl 0 rfl) (lv_at hl 4 rfl) (by omega) (by decide) dL_law_913 dL_law_914 dL_law_916 dL_law_917 dL_law_918 ?_
  refine lv_aload_n hx hb dL_law_919 rfl (lv_at hl 3 rfl) ?_
  refine lw_stat F (av := [.ref (g 0), .int (xs (i + 1)), .int (xs (i + 2)), .ref (g (amKN + 2))]) (rest := []) (wr_order hlt hg hob e1 hok) ⟨rfl, rfl⟩ ⟨by decide, by decide⟩ (lw_4 lw_w_wl_order lw_w_ws_order lw_w_ini lw_w_cw_order) lw_d_order hKL hNc hP hO hS (fun q hq _ => hS.2.1 q hq (Nat.not_le.mpr hq)) hl.1 (Nat.le_of_ble_eq_true rfl) dL_law_920 ⟨by show cells + 1 ≤ 601024; omega, by show slots + 6 ≤ 7293033; omega⟩ (fun r f1 H1 locs1 hT hP1 hO1 hS1 hz1 => ?_)
  obtain ⟨hth, hre⟩ := lw_ans hT hA1 hA2 (hx1_n hok)
  refine lv_istore (lv' := [(5, .int r), (0, .ref bs), (1, .ref (g 0)), (2, .ref (g 145)), (3, .ref (g (amKN + 2))), (4, .int (nI i))]) hx hb dL_law_923 hl (by decide) rfl (fun ls hl => ?_)
  refine lv_aload_n hx hb dL_law_925 rfl (lv_at hl 3 rfl) ?_
  refine lw_arg G (i := i) (j := 1) (jj := 1) hS1 (lv_at hl 1 rfl) (lv_at hl 5 rfl) (by omega) (by decide) dL_law_926 dL_law_927 dL_law_929 dL_law_930 dL_law_931 ?_
  refine lw_arg G (i := i) (j := 2) (jj := 2) hS1 (lv_at hl 1 rfl) (lv_at hl 5 rfl) (by omega) (by decide) dL_law_932 dL_law_933 dL_law_935 dL_law_936 dL_law_937 ?_
  refine lw_inv F hlt (a := 145) (is := [xs (i + 1), xs (i + 2)]) (rest := []) (A0 := fun q : Nat => s.heap.size ≤ q) e2 ra_268.1 ra_268.2.1 (by rw [ra_268.2.2.1]; exact Nat.le_of_ble_eq_true rfl) (by decide) (by rw [ra_268.2.2.2.1]; decide) lw_w_lk_268 (by rw [ra_268.2.2.2.2.1, ra_268.2.2.2.2.2.1, ra_268.2.2.2.2.2.2]; exact ⟨by decide, by decide⟩) dL_law_938 hP1 (lw_hb hg hP1 hO1) hS1 (fun q hq _ => hS1.2.1 q hq (Nat.not_le.mpr hq)) (fun q h => h.1) hl.1 (Nat.le_of_ble_eq_true rfl) ⟨by show cells + 1 ≤ 601024; omega, by show slots + 6 ≤ 7293033; omega⟩ ?_ (fun n9 e9 => by cases e9)
  intro v9 e9 H2 locs2 hP2 hS2 hz9 hk2
  cases e9
  have hO2 := lw_ok hO1 hk2
  refine (show W p l e room_1 s m #[Value.ref bs] below meth c H2 locs2 _ _ _ (F0 m 941 ls [.int z]) from ?_)
  refine lv_istore (lv' := [(6, .int z), (5, .int r), (0, .ref bs), (1, .ref (g 0)), (2, .ref (g 145)), (3, .ref (g (amKN + 2))), (4, .int (nI i))]) hx hb dL_law_941 hl (by decide) rfl (fun ls hl => ?_)
  refine lv_aload_n hx hb dL_law_943 rfl (lv_at hl 4 rfl) ?_
  refine lw_inv F hlt (a := 145) (is := []) (rest := []) (A0 := fun q : Nat => s.heap.size ≤ q) l_thrown ra_161.1 ra_161.2.1 (by rw [ra_161.2.2.1]; exact Nat.le_of_ble_eq_true rfl) (by decide) (by rw [ra_161.2.2.2.1]; decide) lw_w_lk_161 (by rw [ra_161.2.2.2.2.1, ra_161.2.2.2.2.2.1, ra_161.2.2.2.2.2.2]; exact ⟨by decide, by decide⟩) dL_law_944 hP2 (lw_hb hg hP2 hO2) hS2 (fun q hq _ => hS2.2.1 q hq (Nat.not_le.mpr hq)) (fun q h => h.1) hl.1 (Nat.le_of_ble_eq_true rfl) ⟨by show cells + 1 ≤ 601024; omega, by show slots + 6 ≤ 7293033; omega⟩ ?_ (fun n9 e9 => by cases e9)
  intro v9 e9 H3 locs3 hP3 hS3 hz9 hk3
  cases e9
  have hO3 := lw_ok hO2 hk3
  refine (show W p l e room_1 s m #[Value.ref bs] below meth c H3 locs3 _ _ _ (F0 m 947 ls [.int (cI C2 145 5)]) from ?_)
  refine lv_iload hx hb dL_law_947 (lv_at hl 1 rfl) ?_
  refine lv_icmp_eq (tgt := 954) hx hb dL_law_949 (by decide) (fun _ => ?_) (fun h => absurd hth h)
  have fin : ∀ (ls1 : Array Slot), lv_has ls1 7 [(6, .int z), (5, .int r), (0, .ref bs), (1, .ref (g 0)), (2, .ref (g 145)), (3, .ref (g (amKN + 2))), (4, .int (nI i))] → W p l e room_1 s m #[Value.ref bs] below meth c H3 locs3 (cells + 1) (slots + 6) Q (F0 m 1412 ls1 []) := fun ls1 hl1 => kk C2 B9 f1 H3 locs3 ls1 hI ⟨hP3, hO3, hS3⟩ (lv_sub hl1 [2, 3, 4, 5, 6] rfl)
  refine W.widen (k := cells + 1) (n := slots + 6) (Nat.le_refl _) (Nat.le_refl _) ?_
  refine lv_iload hx hb dL_law_954 (lv_at hl 1 rfl) ?_
  refine lv_if_ne (tgt := 971) hx hb dL_law_956 (by decide) (fun _ => lv_goto (tgt := 1412) hx hb dL_law_971 (by decide) (fin ls hl)) (fun h0 => ?_)
  refine lv_aload_n hx hb dL_law_959 rfl (lv_at hl 5 rfl) ?_
  refine lv_iconst (v := 0) hx hb dL_law_960 (by decide) ?_
  refine lw_lald G hO3 dL_law_961 ?_
  refine lv_iload hx hb dL_law_962 (lv_at hl 0 rfl) ?_
  refine lv_i2l hx hb dL_law_964 rfl ?_
  refine W.lcmp hx hb dL_law_965 ?_
  exact lv_if_eq (tgt := 971) hx hb dL_law_966 (by decide) (fun _ => lv_goto (tgt := 1412) hx hb dL_law_971 (by decide) (fin ls hl)) (fun h => absurd (by rw [hre h0]; exact lw_cmp _) h)
set_option maxHeartbeats 4000000 in
theorem cs_run (G : LwG p l s m c bs L xs dC dI ct g cL) (hM : LwM s dC dI ct g cL C f H locs) (hl : lv_has ls 7 (lwLs bs g i)) (hi : i + 6 ≤ L) (hc : cells + 2 ≤ 601024 ∧ slots + 12 ≤ 7293033) (hC : LCase 131 272 [xs (i + 1)] hx1 (fun n => n = 0) C) (kk : ∀ (C2 : AmC) (B : Big) (f1 : Nat → Int64) (H1 : Heap) (locs1 : List Loc) (ls1 : Array Slot), LInv C2 B → LwM s dC dI ct g cL C2 f1 H1 locs1 → lv_has ls1 7 (lwLs bs g i) → W p l e room_1 s m #[Value.ref bs] below meth c H1 locs1 (cells + 1) (slots + 6) Q (F0 m 1412 ls1 [])) : W p l e room_1 s m #[Value.ref bs] below meth c H locs cells slots Q (F0 m 974 ls []) := by
  obtain ⟨A, C1, C2, z, B9, e1, hok, e2, hA1, hA2, hI⟩ := hC
  obtain ⟨hlt, F, hKL, hNc, hXX, hbl, hob, hL⟩ := id G
  obtain ⟨hx, hb, hml, hown, hts, hK, hX, hg⟩ := id F
  obtain ⟨hP, hO, hS⟩ := hM
  refine lv_aload_n hx hb dL_law_974 rfl (lv_at hl 1 rfl) ?_
  refine lw_arg G (i := i) (j := 1) (jj := 1) hS (lv_at hl 0 rfl) (lv_at hl 4 rfl) (by omega) (by decide) dL_law_975 dL_law_976 dL_law_978 dL_law_979 dL_law_980 ?_
  refine lv_aload_n hx hb dL_law_981 rfl (lv_at hl 3 rfl) ?_
  refine lw_stat F (av := [.ref (g 0), .int (xs (i + 1)), .ref (g (amKN + 2))]) (rest := []) (wr_run hlt hg hob e1 hok) ⟨rfl, rfl⟩ ⟨by decide, by decide⟩ (lw_4 lw_w_wl_run lw_w_ws_run lw_w_ini lw_w_cw_run) lw_d_run hKL hNc hP hO hS (fun q hq _ => hS.2.1 q hq (Nat.not_le.mpr hq)) hl.1 (Nat.le_of_ble_eq_true rfl) dL_law_982 ⟨by show cells + 1 ≤ 601024; omega, by show slots + 6 ≤ 7293033; omega⟩ (fun r f1 H1 locs1 hT hP1 hO1 hS1 hz1 => ?_)
  obtain ⟨hth, hre⟩ := lw_ans hT hA1 hA2 (hx1_n hok)
  refine lv_istore (lv' := [(5, .int r), (0, .ref bs), (1, .ref (g 0)), (2, .ref (g 145)), (3, .ref (g (amKN + 2))), (4, .int (nI i))]) hx hb dL_law_985 hl (by decide) rfl (fun ls hl => ?_)
  refine lv_aload_n hx hb dL_law_987 rfl (lv_at hl 3 rfl) ?_
  refine lw_arg G (i := i) (j := 1) (jj := 1) hS1 (lv_at hl 1 rfl) (lv_at hl 5 rfl) (by omega) (by decide) dL_law_988 dL_law_989 dL_law_991 dL_law_992 dL_law_993 ?_
  refine lw_inv F hlt (a := 145) (is := [xs (i + 1)]) (rest := []) (A0 := fun q : Nat => s.heap.size ≤ q) e2 ra_272.1 ra_272.2.1 (by rw [ra_272.2.2.1]; exact Nat.le_of_ble_eq_true rfl) (by decide) (by rw [ra_272.2.2.2.1]; decide) lw_w_lk_272 (by rw [ra_272.2.2.2.2.1, ra_272.2.2.2.2.2.1, ra_272.2.2.2.2.2.2]; exact ⟨by decide, by decide⟩) dL_law_994 hP1 (lw_hb hg hP1 hO1) hS1 (fun q hq _ => hS1.2.1 q hq (Nat.not_le.mpr hq)) (fun q h => h.1) hl.1 (Nat.le_of_ble_eq_true rfl) ⟨by show cells + 1 ≤ 601024; omega, by show slots + 6 ≤ 7293033; omega⟩ ?_ (fun n9 e9 => by cases e9)
  intro v9 e9 H2 locs2 hP2 hS2 hz9 hk2
  cases e9
  have hO2 := lw_ok hO1 hk2
  refine (show W p l e room_1 s m #[Value.ref bs] below meth c H2 locs2 _ _ _ (F0 m 997 ls [.int z]) from ?_)
  refine lv_istore (lv' := [(6, .int z), (5, .int r), (0, .ref bs), (1, .ref (g 0)), (2, .ref (g 145)), (3, .ref (g (amKN + 2))), (4, .int (nI i))]) hx hb dL_law_997 hl (by decide) rfl (fun ls hl => ?_)
  refine lv_aload_n hx hb dL_law_999 rfl (lv_at hl 4 rfl) ?_
  refine lw_inv F hlt (a := 145) (is := []) (rest := []) (A0 := fun q : Nat => s.heap.size ≤ q) l_thrown ra_161.1 ra_161.2.1 (by rw [ra_161.2.2.1]; exact Nat.le_of_ble_eq_true rfl) (by decide) (by rw [ra_161.2.2.2.1]; decide) lw_w_lk_161 (by rw [ra_161.2.2.2.2.1, ra_161.2.2.2.2.2.1, ra_161.2.2.2.2.2.2]; exact ⟨by decide, by decide⟩) dL_law_1000 hP2 (lw_hb hg hP2 hO2) hS2 (fun q hq _ => hS2.2.1 q hq (Nat.not_le.mpr hq)) (fun q h => h.1) hl.1 (Nat.le_of_ble_eq_true rfl) ⟨by show cells + 1 ≤ 601024; omega, by show slots + 6 ≤ 7293033; omega⟩ ?_ (fun n9 e9 => by cases e9)
  intro v9 e9 H3 locs3 hP3 hS3 hz9 hk3
  cases e9
  have hO3 := lw_ok hO2 hk3
  refine (show W p l e room_1 s m #[Value.ref bs] below meth c H3 locs3 _ _ _ (F0 m 1003 ls [.int (cI C2 145 5)]) from ?_)
  refine lv_iload hx hb dL_law_1003 (lv_at hl 1 rfl) ?_
  refine lv_icmp_eq (tgt := 1010) hx hb dL_law_1005 (by decide) (fun _ => ?_) (fun h => absurd hth h)
  have fin : ∀ (ls1 : Array Slot), lv_has ls1 7 [(6, .int z), (5, .int r), (0, .ref bs), (1, .ref (g 0)), (2, .ref (g 145)), (3, .ref (g (amKN + 2))), (4, .int (nI i))] → W p l e room_1 s m #[Value.ref bs] below meth c H3 locs3 (cells + 1) (slots + 6) Q (F0 m 1412 ls1 []) := fun ls1 hl1 => kk C2 B9 f1 H3 locs3 ls1 hI ⟨hP3, hO3, hS3⟩ (lv_sub hl1 [2, 3, 4, 5, 6] rfl)
  refine W.widen (k := cells + 1) (n := slots + 6) (Nat.le_refl _) (Nat.le_refl _) ?_
  refine lv_iload hx hb dL_law_1010 (lv_at hl 1 rfl) ?_
  refine lv_if_ne (tgt := 1027) hx hb dL_law_1012 (by decide) (fun _ => lv_goto (tgt := 1412) hx hb dL_law_1027 (by decide) (fin ls hl)) (fun h0 => ?_)
  refine lv_aload_n hx hb dL_law_1015 rfl (lv_at hl 5 rfl) ?_
  refine lv_iconst (v := 0) hx hb dL_law_1016 (by decide) ?_
  refine lw_lald G hO3 dL_law_1017 ?_
  refine lv_iload hx hb dL_law_1018 (lv_at hl 0 rfl) ?_
  refine lv_i2l hx hb dL_law_1020 rfl ?_
  refine W.lcmp hx hb dL_law_1021 ?_
  exact lv_if_eq (tgt := 1027) hx hb dL_law_1022 (by decide) (fun _ => lv_goto (tgt := 1412) hx hb dL_law_1027 (by decide) (fin ls hl)) (fun h => absurd (by rw [hre h0]; exact lw_cmp _) h)
set_option maxHeartbeats 4000000 in
theorem cs_lay (G : LwG p l s m c bs L xs dC dI ct g cL) (hM : LwM s dC dI ct g cL C f H locs) (hl : lv_has ls 7 (lwLs bs g i)) (hi : i + 6 ≤ L) (hc : cells + 2 ≤ 601024 ∧ slots + 12 ≤ 7293033) (hC : LCase 132 274 [xs (i + 1), xs (i + 2), xs (i + 3)] hx1 (fun n => n = 0) C) (kk : ∀ (C2 : AmC) (B : Big) (f1 : Nat → Int64) (H1 : Heap) (locs1 : List Loc) (ls1 : Array Slot), LInv C2 B → LwM s dC dI ct g cL C2 f1 H1 locs1 → lv_has ls1 7 (lwLs bs g i) → W p l e room_1 s m #[Value.ref bs] below meth c H1 locs1 (cells + 1) (slots + 6) Q (F0 m 1412 ls1 [])) : W p l e room_1 s m #[Value.ref bs] below meth c H locs cells slots Q (F0 m 1030 ls []) := by
  obtain ⟨A, C1, C2, z, B9, e1, hok, e2, hA1, hA2, hI⟩ := hC
  obtain ⟨hlt, F, hKL, hNc, hXX, hbl, hob, hL⟩ := id G
  obtain ⟨hx, hb, hml, hown, hts, hK, hX, hg⟩ := id F
  obtain ⟨hP, hO, hS⟩ := hM
  refine lv_aload_n hx hb dL_law_1030 rfl (lv_at hl 1 rfl) ?_
  refine lw_arg G (i := i) (j := 1) (jj := 1) hS (lv_at hl 0 rfl) (lv_at hl 4 rfl) (by omega) (by decide) dL_law_1031 dL_law_1032 dL_law_1034 dL_law_1035 dL_law_1036 ?_
  refine lw_arg G (i := i) (j := 2) (jj := 2) hS (lv_at hl 0 rfl) (lv_at hl 4 rfl) (by omega) (by decide) dL_law_1037 dL_law_1038 dL_law_1040 dL_law_1041 dL_law_1042 ?_
  refine lw_arg G (i := i) (j := 3) (jj := 3) hS (lv_at hl 0 rfl) (lv_at hl 4 rfl) (by omega) (by decide) dL_law_1043 dL_law_1044 dL_law_1046 dL_law_1047 dL_law_1048 ?_
  refine lv_aload_n hx hb dL_law_1049 rfl (lv_at hl 3 rfl) ?_
  refine lw_stat F (av := [.ref (g 0), .int (xs (i + 1)), .int (xs (i + 2)), .int (xs (i + 3)), .ref (g (amKN + 2))]) (rest := []) (wr_lay hlt hg hob e1 hok) ⟨rfl, rfl⟩ ⟨by decide, by decide⟩ (lw_4 lw_w_wl_lay lw_w_ws_lay lw_w_ini lw_w_cw_lay) lw_d_lay hKL hNc hP hO hS (fun q hq _ => hS.2.1 q hq (Nat.not_le.mpr hq)) hl.1 (Nat.le_of_ble_eq_true rfl) dL_law_1050 ⟨by show cells + 1 ≤ 601024; omega, by show slots + 6 ≤ 7293033; omega⟩ (fun r f1 H1 locs1 hT hP1 hO1 hS1 hz1 => ?_)
  obtain ⟨hth, hre⟩ := lw_ans hT hA1 hA2 (hx1_n hok)
  refine lv_istore (lv' := [(5, .int r), (0, .ref bs), (1, .ref (g 0)), (2, .ref (g 145)), (3, .ref (g (amKN + 2))), (4, .int (nI i))]) hx hb dL_law_1053 hl (by decide) rfl (fun ls hl => ?_)
  refine lv_aload_n hx hb dL_law_1055 rfl (lv_at hl 3 rfl) ?_
  refine lw_arg G (i := i) (j := 1) (jj := 1) hS1 (lv_at hl 1 rfl) (lv_at hl 5 rfl) (by omega) (by decide) dL_law_1056 dL_law_1057 dL_law_1059 dL_law_1060 dL_law_1061 ?_
  refine lw_arg G (i := i) (j := 2) (jj := 2) hS1 (lv_at hl 1 rfl) (lv_at hl 5 rfl) (by omega) (by decide) dL_law_1062 dL_law_1063 dL_law_1065 dL_law_1066 dL_law_1067 ?_
  refine lw_arg G (i := i) (j := 3) (jj := 3) hS1 (lv_at hl 1 rfl) (lv_at hl 5 rfl) (by omega) (by decide) dL_law_1068 dL_law_1069 dL_law_1071 dL_law_1072 dL_law_1073 ?_
  refine lw_inv F hlt (a := 145) (is := [xs (i + 1), xs (i + 2), xs (i + 3)]) (rest := []) (A0 := fun q : Nat => s.heap.size ≤ q) e2 ra_274.1 ra_274.2.1 (by rw [ra_274.2.2.1]; exact Nat.le_of_ble_eq_true rfl) (by decide) (by rw [ra_274.2.2.2.1]; decide) lw_w_lk_274 (by rw [ra_274.2.2.2.2.1, ra_274.2.2.2.2.2.1, ra_274.2.2.2.2.2.2]; exact ⟨by decide, by decide⟩) dL_law_1074 hP1 (lw_hb hg hP1 hO1) hS1 (fun q hq _ => hS1.2.1 q hq (Nat.not_le.mpr hq)) (fun q h => h.1) hl.1 (Nat.le_of_ble_eq_true rfl) ⟨by show cells + 1 ≤ 601024; omega, by show slots + 6 ≤ 7293033; omega⟩ ?_ (fun n9 e9 => by cases e9)
  intro v9 e9 H2 locs2 hP2 hS2 hz9 hk2
  cases e9
  have hO2 := lw_ok hO1 hk2
  refine (show W p l e room_1 s m #[Value.ref bs] below meth c H2 locs2 _ _ _ (F0 m 1077 ls [.int z]) from ?_)
  refine lv_istore (lv' := [(6, .int z), (5, .int r), (0, .ref bs), (1, .ref (g 0)), (2, .ref (g 145)), (3, .ref (g (amKN + 2))), (4, .int (nI i))]) hx hb dL_law_1077 hl (by decide) rfl (fun ls hl => ?_)
  refine lv_aload_n hx hb dL_law_1079 rfl (lv_at hl 4 rfl) ?_
  refine lw_inv F hlt (a := 145) (is := []) (rest := []) (A0 := fun q : Nat => s.heap.size ≤ q) l_thrown ra_161.1 ra_161.2.1 (by rw [ra_161.2.2.1]; exact Nat.le_of_ble_eq_true rfl) (by decide) (by rw [ra_161.2.2.2.1]; decide) lw_w_lk_161 (by rw [ra_161.2.2.2.2.1, ra_161.2.2.2.2.2.1, ra_161.2.2.2.2.2.2]; exact ⟨by decide, by decide⟩) dL_law_1080 hP2 (lw_hb hg hP2 hO2) hS2 (fun q hq _ => hS2.2.1 q hq (Nat.not_le.mpr hq)) (fun q h => h.1) hl.1 (Nat.le_of_ble_eq_true rfl) ⟨by show cells + 1 ≤ 601024; omega, by show slots + 6 ≤ 7293033; omega⟩ ?_ (fun n9 e9 => by cases e9)
  intro v9 e9 H3 locs3 hP3 hS3 hz9 hk3
  cases e9
  have hO3 := lw_ok hO2 hk3
  refine (show W p l e room_1 s m #[Value.ref bs] below meth c H3 locs3 _ _ _ (F0 m 1083 ls [.int (cI C2 145 5)]) from ?_)
  refine lv_iload hx hb dL_law_1083 (lv_at hl 1 rfl) ?_
  refine lv_icmp_eq (tgt := 1090) hx hb dL_law_1085 (by decide) (fun _ => ?_) (fun h => absurd hth h)
  have fin : ∀ (ls1 : Array Slot), lv_has ls1 7 [(6, .int z), (5, .int r), (0, .ref bs), (1, .ref (g 0)), (2, .ref (g 145)), (3, .ref (g (amKN + 2))), (4, .int (nI i))] → W p l e room_1 s m #[Value.ref bs] below meth c H3 locs3 (cells + 1) (slots + 6) Q (F0 m 1412 ls1 []) := fun ls1 hl1 => kk C2 B9 f1 H3 locs3 ls1 hI ⟨hP3, hO3, hS3⟩ (lv_sub hl1 [2, 3, 4, 5, 6] rfl)
  refine W.widen (k := cells + 1) (n := slots + 6) (Nat.le_refl _) (Nat.le_refl _) ?_
  refine lv_iload hx hb dL_law_1090 (lv_at hl 1 rfl) ?_
  refine lv_if_ne (tgt := 1107) hx hb dL_law_1092 (by decide) (fun _ => lv_goto (tgt := 1412) hx hb dL_law_1107 (by decide) (fin ls hl)) (fun h0 => ?_)
  refine lv_aload_n hx hb dL_law_1095 rfl (lv_at hl 5 rfl) ?_
  refine lv_iconst (v := 0) hx hb dL_law_1096 (by decide) ?_
  refine lw_lald G hO3 dL_law_1097 ?_
  refine lv_iload hx hb dL_law_1098 (lv_at hl 0 rfl) ?_
  refine lv_i2l hx hb dL_law_1100 rfl ?_
  refine W.lcmp hx hb dL_law_1101 ?_
  exact lv_if_eq (tgt := 1107) hx hb dL_law_1102 (by decide) (fun _ => lv_goto (tgt := 1412) hx hb dL_law_1107 (by decide) (fin ls hl)) (fun h => absurd (by rw [hre h0]; exact lw_cmp _) h)
set_option maxHeartbeats 4000000 in
theorem cs_take (G : LwG p l s m c bs L xs dC dI ct g cL) (hM : LwM s dC dI ct g cL C f H locs) (hl : lv_has ls 7 (lwLs bs g i)) (hi : i + 6 ≤ L) (hc : cells + 2 ≤ 601024 ∧ slots + 12 ≤ 7293033) (hC : LCase 133 275 [xs (i + 1)] hx1 (fun n => n = 0) C) (kk : ∀ (C2 : AmC) (B : Big) (f1 : Nat → Int64) (H1 : Heap) (locs1 : List Loc) (ls1 : Array Slot), LInv C2 B → LwM s dC dI ct g cL C2 f1 H1 locs1 → lv_has ls1 7 (lwLs bs g i) → W p l e room_1 s m #[Value.ref bs] below meth c H1 locs1 (cells + 1) (slots + 6) Q (F0 m 1412 ls1 [])) : W p l e room_1 s m #[Value.ref bs] below meth c H locs cells slots Q (F0 m 1110 ls []) := by
  obtain ⟨A, C1, C2, z, B9, e1, hok, e2, hA1, hA2, hI⟩ := hC
  obtain ⟨hlt, F, hKL, hNc, hXX, hbl, hob, hL⟩ := id G
  obtain ⟨hx, hb, hml, hown, hts, hK, hX, hg⟩ := id F
  obtain ⟨hP, hO, hS⟩ := hM
  refine lv_aload_n hx hb dL_law_1110 rfl (lv_at hl 1 rfl) ?_
  refine lw_arg G (i := i) (j := 1) (jj := 1) hS (lv_at hl 0 rfl) (lv_at hl 4 rfl) (by omega) (by decide) dL_law_1111 dL_law_1112 dL_law_1114 dL_law_1115 dL_law_1116 ?_
  refine lv_aload_n hx hb dL_law_1117 rfl (lv_at hl 3 rfl) ?_
  refine lw_stat F (av := [.ref (g 0), .int (xs (i + 1)), .ref (g (amKN + 2))]) (rest := []) (wr_take hlt hg hob e1 hok) ⟨rfl, rfl⟩ ⟨by decide, by decide⟩ (lw_4 lw_w_wl_take lw_w_ws_take lw_w_ini lw_w_cw_take) lw_d_take hKL hNc hP hO hS (fun q hq _ => hS.2.1 q hq (Nat.not_le.mpr hq)) hl.1 (Nat.le_of_ble_eq_true rfl) dL_law_1118 ⟨by show cells + 1 ≤ 601024; omega, by show slots + 6 ≤ 7293033; omega⟩ (fun r f1 H1 locs1 hT hP1 hO1 hS1 hz1 => ?_)
  obtain ⟨hth, hre⟩ := lw_ans hT hA1 hA2 (hx1_n hok)
  refine lv_istore (lv' := [(5, .int r), (0, .ref bs), (1, .ref (g 0)), (2, .ref (g 145)), (3, .ref (g (amKN + 2))), (4, .int (nI i))]) hx hb dL_law_1121 hl (by decide) rfl (fun ls hl => ?_)
  refine lv_aload_n hx hb dL_law_1123 rfl (lv_at hl 3 rfl) ?_
  refine lw_arg G (i := i) (j := 1) (jj := 1) hS1 (lv_at hl 1 rfl) (lv_at hl 5 rfl) (by omega) (by decide) dL_law_1124 dL_law_1125 dL_law_1127 dL_law_1128 dL_law_1129 ?_
  refine lw_inv F hlt (a := 145) (is := [xs (i + 1)]) (rest := []) (A0 := fun q : Nat => s.heap.size ≤ q) e2 ra_275.1 ra_275.2.1 (by rw [ra_275.2.2.1]; exact Nat.le_of_ble_eq_true rfl) (by decide) (by rw [ra_275.2.2.2.1]; decide) lw_w_lk_275 (by rw [ra_275.2.2.2.2.1, ra_275.2.2.2.2.2.1, ra_275.2.2.2.2.2.2]; exact ⟨by decide, by decide⟩) dL_law_1130 hP1 (lw_hb hg hP1 hO1) hS1 (fun q hq _ => hS1.2.1 q hq (Nat.not_le.mpr hq)) (fun q h => h.1) hl.1 (Nat.le_of_ble_eq_true rfl) ⟨by show cells + 1 ≤ 601024; omega, by show slots + 6 ≤ 7293033; omega⟩ ?_ (fun n9 e9 => by cases e9)
  intro v9 e9 H2 locs2 hP2 hS2 hz9 hk2
  cases e9
  have hO2 := lw_ok hO1 hk2
  refine (show W p l e room_1 s m #[Value.ref bs] below meth c H2 locs2 _ _ _ (F0 m 1133 ls [.int z]) from ?_)
  refine lv_istore (lv' := [(6, .int z), (5, .int r), (0, .ref bs), (1, .ref (g 0)), (2, .ref (g 145)), (3, .ref (g (amKN + 2))), (4, .int (nI i))]) hx hb dL_law_1133 hl (by decide) rfl (fun ls hl => ?_)
  refine lv_aload_n hx hb dL_law_1135 rfl (lv_at hl 4 rfl) ?_
  refine lw_inv F hlt (a := 145) (is := []) (rest := []) (A0 := fun q : Nat => s.heap.size ≤ q) l_thrown ra_161.1 ra_161.2.1 (by rw [ra_161.2.2.1]; exact Nat.le_of_ble_eq_true rfl) (by decide) (by rw [ra_161.2.2.2.1]; decide) lw_w_lk_161 (by rw [ra_161.2.2.2.2.1, ra_161.2.2.2.2.2.1, ra_161.2.2.2.2.2.2]; exact ⟨by decide, by decide⟩) dL_law_1136 hP2 (lw_hb hg hP2 hO2) hS2 (fun q hq _ => hS2.2.1 q hq (Nat.not_le.mpr hq)) (fun q h => h.1) hl.1 (Nat.le_of_ble_eq_true rfl) ⟨by show cells + 1 ≤ 601024; omega, by show slots + 6 ≤ 7293033; omega⟩ ?_ (fun n9 e9 => by cases e9)
  intro v9 e9 H3 locs3 hP3 hS3 hz9 hk3
  cases e9
  have hO3 := lw_ok hO2 hk3
  refine (show W p l e room_1 s m #[Value.ref bs] below meth c H3 locs3 _ _ _ (F0 m 1139 ls [.int (cI C2 145 5)]) from ?_)
  refine lv_iload hx hb dL_law_1139 (lv_at hl 1 rfl) ?_
  refine lv_icmp_eq (tgt := 1146) hx hb dL_law_1141 (by decide) (fun _ => ?_) (fun h => absurd hth h)
  have fin : ∀ (ls1 : Array Slot), lv_has ls1 7 [(6, .int z), (5, .int r), (0, .ref bs), (1, .ref (g 0)), (2, .ref (g 145)), (3, .ref (g (amKN + 2))), (4, .int (nI i))] → W p l e room_1 s m #[Value.ref bs] below meth c H3 locs3 (cells + 1) (slots + 6) Q (F0 m 1412 ls1 []) := fun ls1 hl1 => kk C2 B9 f1 H3 locs3 ls1 hI ⟨hP3, hO3, hS3⟩ (lv_sub hl1 [2, 3, 4, 5, 6] rfl)
  refine W.widen (k := cells + 1) (n := slots + 6) (Nat.le_refl _) (Nat.le_refl _) ?_
  refine lv_iload hx hb dL_law_1146 (lv_at hl 1 rfl) ?_
  refine lv_if_ne (tgt := 1163) hx hb dL_law_1148 (by decide) (fun _ => lv_goto (tgt := 1412) hx hb dL_law_1163 (by decide) (fin ls hl)) (fun h0 => ?_)
  refine lv_aload_n hx hb dL_law_1151 rfl (lv_at hl 5 rfl) ?_
  refine lv_iconst (v := 0) hx hb dL_law_1152 (by decide) ?_
  refine lw_lald G hO3 dL_law_1153 ?_
  refine lv_iload hx hb dL_law_1154 (lv_at hl 0 rfl) ?_
  refine lv_i2l hx hb dL_law_1156 rfl ?_
  refine W.lcmp hx hb dL_law_1157 ?_
  exact lv_if_eq (tgt := 1163) hx hb dL_law_1158 (by decide) (fun _ => lv_goto (tgt := 1412) hx hb dL_law_1163 (by decide) (fin ls hl)) (fun h => absurd (by rw [hre h0]; exact lw_cmp _) h)
set_option maxHeartbeats 4000000 in
theorem cs_undo (G : LwG p l s m c bs L xs dC dI ct g cL) (hM : LwM s dC dI ct g cL C f H locs) (hl : lv_has ls 7 (lwLs bs g i)) (hi : i + 6 ≤ L) (hc : cells + 2 ≤ 601024 ∧ slots + 12 ≤ 7293033) (hC : LDir 134 276 [] C) (kk : ∀ (C2 : AmC) (B : Big) (f1 : Nat → Int64) (H1 : Heap) (locs1 : List Loc) (ls1 : Array Slot), LInv C2 B → LwM s dC dI ct g cL C2 f1 H1 locs1 → lv_has ls1 7 (lwLs bs g i) → W p l e room_1 s m #[Value.ref bs] below meth c H1 locs1 (cells + 1) (slots + 6) Q (F0 m 1412 ls1 [])) : W p l e room_1 s m #[Value.ref bs] below meth c H locs cells slots Q (F0 m 1166 ls []) := by
  obtain ⟨r, C1, C2, B9, e1, e2, hI⟩ := hC
  obtain ⟨hlt, F, hKL, hNc, hXX, hbl, hob, hL⟩ := id G
  obtain ⟨hx, hb, hml, hown, hts, hK, hX, hg⟩ := id F
  obtain ⟨hP, hO, hS⟩ := hM
  refine lv_aload_n hx hb dL_law_1166 rfl (lv_at hl 1 rfl) ?_
  refine lw_inv F hlt (a := 0) (is := []) (rest := []) (A0 := fun q : Nat => s.heap.size ≤ q) e1 ra_134.1 ra_134.2.1 (by rw [ra_134.2.2.1]; exact Nat.le_of_ble_eq_true rfl) (by decide) (by rw [ra_134.2.2.2.1]; decide) lw_w_lk_134 (by rw [ra_134.2.2.2.2.1, ra_134.2.2.2.2.2.1, ra_134.2.2.2.2.2.2]; exact ⟨by decide, by decide⟩) dL_law_1167 hP (lw_hb hg hP hO) hS (fun q hq _ => hS.2.1 q hq (Nat.not_le.mpr hq)) (fun q h => h.1) hl.1 (Nat.le_of_ble_eq_true rfl) ⟨by show cells + 0 ≤ 601024; omega, by show slots + 0 ≤ 7293033; omega⟩ ?_ (fun n9 e9 => by cases e9)
  intro v9 e9 H1 locs1 hP1 hS1 hz9 hk1
  cases e9
  have hO1 := lw_ok hO hk1
  refine (show W p l e room_1 s m #[Value.ref bs] below meth c H1 locs1 _ _ _ (F0 m 1170 ls [.int r]) from ?_)
  refine lv_aload_n hx hb dL_law_1170 rfl (lv_at hl 2 rfl) ?_
  refine lw_inv F hlt (a := 145) (is := []) (rest := [.int r]) (A0 := fun q : Nat => s.heap.size ≤ q) e2 ra_276.1 ra_276.2.1 (by rw [ra_276.2.2.1]; exact Nat.le_of_ble_eq_true rfl) (by decide) (by rw [ra_276.2.2.2.1]; decide) lw_w_lk_276 (by rw [ra_276.2.2.2.2.1, ra_276.2.2.2.2.2.1, ra_276.2.2.2.2.2.2]; exact ⟨by decide, by decide⟩) dL_law_1171 hP1 (lw_hb hg hP1 hO1) hS1 (fun q hq _ => hS1.2.1 q hq (Nat.not_le.mpr hq)) (fun q h => h.1) hl.1 (Nat.le_of_ble_eq_true rfl) ⟨by show cells + 0 ≤ 601024; omega, by show slots + 0 ≤ 7293033; omega⟩ ?_ (fun n9 e9 => by cases e9)
  intro v9 e9 H2 locs2 hP2 hS2 hz9 hk2
  cases e9
  have hO2 := lw_ok hO1 hk2
  refine (show W p l e room_1 s m #[Value.ref bs] below meth c H2 locs2 _ _ _ (F0 m 1174 ls [.int r, .int r]) from ?_)
  refine W.widen (k := cells + 1) (n := slots + 6) (Nat.le_add_right _ _) (Nat.le_add_right _ _) ?_
  exact lv_icmp_eq (tgt := 1412) hx hb dL_law_1174 (by decide) (fun _ => kk C2 B9 f H2 locs2 ls hI ⟨hP2, hO2, hS2⟩ hl) (fun h => absurd rfl h)
set_option maxHeartbeats 4000000 in
theorem cs_see (G : LwG p l s m c bs L xs dC dI ct g cL) (hM : LwM s dC dI ct g cL C f H locs) (hl : lv_has ls 7 (lwLs bs g i)) (hi : i + 6 ≤ L) (hc : cells + 2 ≤ 601024 ∧ slots + 12 ≤ 7293033) (hC : LDir 135 277 [xs (i + 1), xs (i + 2), xs (i + 3)] C) (kk : ∀ (C2 : AmC) (B : Big) (f1 : Nat → Int64) (H1 : Heap) (locs1 : List Loc) (ls1 : Array Slot), LInv C2 B → LwM s dC dI ct g cL C2 f1 H1 locs1 → lv_has ls1 7 (lwLs bs g i) → W p l e room_1 s m #[Value.ref bs] below meth c H1 locs1 (cells + 1) (slots + 6) Q (F0 m 1412 ls1 [])) : W p l e room_1 s m #[Value.ref bs] below meth c H locs cells slots Q (F0 m 1179 ls []) := by
  obtain ⟨r, C1, C2, B9, e1, e2, hI⟩ := hC
  obtain ⟨hlt, F, hKL, hNc, hXX, hbl, hob, hL⟩ := id G
  obtain ⟨hx, hb, hml, hown, hts, hK, hX, hg⟩ := id F
  obtain ⟨hP, hO, hS⟩ := hM
  refine lv_aload_n hx hb dL_law_1179 rfl (lv_at hl 1 rfl) ?_
  refine lw_arg G (i := i) (j := 1) (jj := 1) hS (lv_at hl 0 rfl) (lv_at hl 4 rfl) (by omega) (by decide) dL_law_1180 dL_law_1181 dL_law_1183 dL_law_1184 dL_law_1185 ?_
  refine lw_arg G (i := i) (j := 2) (jj := 2) hS (lv_at hl 0 rfl) (lv_at hl 4 rfl) (by omega) (by decide) dL_law_1186 dL_law_1187 dL_law_1189 dL_law_1190 dL_law_1191 ?_
  refine lw_arg G (i := i) (j := 3) (jj := 3) hS (lv_at hl 0 rfl) (lv_at hl 4 rfl) (by omega) (by decide) dL_law_1192 dL_law_1193 dL_law_1195 dL_law_1196 dL_law_1197 ?_
  refine lw_inv F hlt (a := 0) (is := [xs (i + 1), xs (i + 2), xs (i + 3)]) (rest := []) (A0 := fun q : Nat => s.heap.size ≤ q) e1 ra_135.1 ra_135.2.1 (by rw [ra_135.2.2.1]; exact Nat.le_of_ble_eq_true rfl) (by decide) (by rw [ra_135.2.2.2.1]; decide) lw_w_lk_135 (by rw [ra_135.2.2.2.2.1, ra_135.2.2.2.2.2.1, ra_135.2.2.2.2.2.2]; exact ⟨by decide, by decide⟩) dL_law_1198 hP (lw_hb hg hP hO) hS (fun q hq _ => hS.2.1 q hq (Nat.not_le.mpr hq)) (fun q h => h.1) hl.1 (Nat.le_of_ble_eq_true rfl) ⟨by show cells + 0 ≤ 601024; omega, by show slots + 0 ≤ 7293033; omega⟩ ?_ (fun n9 e9 => by cases e9)
  intro v9 e9 H1 locs1 hP1 hS1 hz9 hk1
  cases e9
  have hO1 := lw_ok hO hk1
  refine (show W p l e room_1 s m #[Value.ref bs] below meth c H1 locs1 _ _ _ (F0 m 1201 ls [.int r]) from ?_)
  refine lv_aload_n hx hb dL_law_1201 rfl (lv_at hl 2 rfl) ?_
  refine lw_arg G (i := i) (j := 1) (jj := 1) hS1 (lv_at hl 0 rfl) (lv_at hl 4 rfl) (by omega) (by decide) dL_law_1202 dL_law_1203 dL_law_1205 dL_law_1206 dL_law_1207 ?_
  refine lw_arg G (i := i) (j := 2) (jj := 2) hS1 (lv_at hl 0 rfl) (lv_at hl 4 rfl) (by omega) (by decide) dL_law_1208 dL_law_1209 dL_law_1211 dL_law_1212 dL_law_1213 ?_
  refine lw_arg G (i := i) (j := 3) (jj := 3) hS1 (lv_at hl 0 rfl) (lv_at hl 4 rfl) (by omega) (by decide) dL_law_1214 dL_law_1215 dL_law_1217 dL_law_1218 dL_law_1219 ?_
  refine lw_inv F hlt (a := 145) (is := [xs (i + 1), xs (i + 2), xs (i + 3)]) (rest := [.int r]) (A0 := fun q : Nat => s.heap.size ≤ q) e2 ra_277.1 ra_277.2.1 (by rw [ra_277.2.2.1]; exact Nat.le_of_ble_eq_true rfl) (by decide) (by rw [ra_277.2.2.2.1]; decide) lw_w_lk_277 (by rw [ra_277.2.2.2.2.1, ra_277.2.2.2.2.2.1, ra_277.2.2.2.2.2.2]; exact ⟨by decide, by decide⟩) dL_law_1220 hP1 (lw_hb hg hP1 hO1) hS1 (fun q hq _ => hS1.2.1 q hq (Nat.not_le.mpr hq)) (fun q h => h.1) hl.1 (Nat.le_of_ble_eq_true rfl) ⟨by show cells + 0 ≤ 601024; omega, by show slots + 0 ≤ 7293033; omega⟩ ?_ (fun n9 e9 => by cases e9)
  intro v9 e9 H2 locs2 hP2 hS2 hz9 hk2
  cases e9
  have hO2 := lw_ok hO1 hk2
  refine (show W p l e room_1 s m #[Value.ref bs] below meth c H2 locs2 _ _ _ (F0 m 1223 ls [.int r, .int r]) from ?_)
  refine W.widen (k := cells + 1) (n := slots + 6) (Nat.le_add_right _ _) (Nat.le_add_right _ _) ?_
  exact lv_icmp_eq (tgt := 1412) hx hb dL_law_1223 (by decide) (fun _ => kk C2 B9 f H2 locs2 ls hI ⟨hP2, hO2, hS2⟩ hl) (fun h => absurd rfl h)
end LwCs
