/-! The law's cases. -/
section LwCs
variable {p : Program} {l : Launch} {e : Env} {s : State} {m : MethodId} {below : List Frame} {meth : Method} {c : Code} {bs L : Nat} {xs : Nat → Int32} {dC : Nat → ClassId} {dI : Nat → Nat → Nat} {ct : Nat → ClassId} {g : Nat → Nat} {cL : ClassId} {C : AmC} {f : Nat → Int64} {H : Heap} {locs : List Loc} {ls : Array Slot} {cells slots i : Nat} {Q : State → Prop}
set_option maxHeartbeats 4000000 in
theorem cs_fits (G : LwG p l s m c bs L xs dC dI ct g cL) (hM : LwM s dC dI ct g cL C f H locs) (hl : lv_has ls 7 (lwLs bs g i)) (hi : i + 6 ≤ L) (hc : cells + 2 ≤ 601024 ∧ slots + 12 ≤ 7293033) (hC : LDir 136 280 [] C) (kk : ∀ (C2 : AmC) (B : Big) (f1 : Nat → Int64) (H1 : Heap) (locs1 : List Loc) (ls1 : Array Slot), LInv C2 B → LwM s dC dI ct g cL C2 f1 H1 locs1 → lv_has ls1 7 (lwLs bs g i) → W p l e room_1 s m #[Value.ref bs] below meth c H1 locs1 (cells + 1) (slots + 6) Q (F0 m 1412 ls1 [])) : W p l e room_1 s m #[Value.ref bs] below meth c H locs cells slots Q (F0 m 1228 ls []) := by
  obtain ⟨r, C1, C2, B9, e1, e2, hI⟩ := hC
  obtain ⟨hlt, F, hKL, hNc, hXX, hbl, hob, hL⟩ := id G
  obtain ⟨hx, hb, hml, hown, hts, hK, hX, hg⟩ := id F
  obtain ⟨hP, hO, hS⟩ := hM
  refine lv_aload_n hx hb dL_law_1228 rfl (lv_at hl 1 rfl) ?_
  refine lw_inv F hlt (a := 0) (is := []) (rest := []) (A0 := fun q : Nat => s.heap.size ≤ q) e1 ra_136.1 ra_136.2.1 (by rw [ra_136.2.2.1]; exact Nat.le_of_ble_eq_true rfl) (by decide) (by rw [ra_136.2.2.2.1]; decide) lw_w_lk_136 (by rw [ra_136.2.2.2.2.1, ra_136.2.2.2.2.2.1, ra_136.2.2.2.2.2.2]; exact ⟨by decide, by decide⟩) dL_law_1229 hP (lw_hb hg hP hO) hS (fun q hq _ => hS.2.1 q hq (Nat.not_le.mpr hq)) (fun q h => h.1) hl.1 (Nat.le_of_ble_eq_true rfl) ⟨by show cells + 0 ≤ 601024; omega, by show slots + 0 ≤ 7293033; omega⟩ ?_ (fun n9 e9 => by cases e9)
  intro v9 e9 H1 locs1 hP1 hS1 hz9 hk1
  cases e9
  have hO1 := lw_ok hO hk1
  refine (show W p l e room_1 s m #[Value.ref bs] below meth c H1 locs1 _ _ _ (F0 m 1232 ls [.int r]) from ?_)
  refine lv_aload_n hx hb dL_law_1232 rfl (lv_at hl 2 rfl) ?_
  refine lw_inv F hlt (a := 145) (is := []) (rest := [.int r]) (A0 := fun q : Nat => s.heap.size ≤ q) e2 ra_280.1 ra_280.2.1 (by rw [ra_280.2.2.1]; exact Nat.le_of_ble_eq_true rfl) (by decide) (by rw [ra_280.2.2.2.1]; decide) lw_w_lk_280 (by rw [ra_280.2.2.2.2.1, ra_280.2.2.2.2.2.1, ra_280.2.2.2.2.2.2]; exact ⟨by decide, by decide⟩) dL_law_1233 hP1 (lw_hb hg hP1 hO1) hS1 (fun q hq _ => hS1.2.1 q hq (Nat.not_le.mpr hq)) (fun q h => h.1) hl.1 (Nat.le_of_ble_eq_true rfl) ⟨by show cells + 0 ≤ 601024; omega, by show slots + 0 ≤ 7293033; omega⟩ ?_ (fun n9 e9 => by cases e9)
  intro v9 e9 H2 locs2 hP2 hS2 hz9 hk2
  cases e9
  have hO2 := lw_ok hO1 hk2
  refine (show W p l e room_1 s m #[Value.ref bs] below meth c H2 locs2 _ _ _ (F0 m 1236 ls [.int r, .int r]) from ?_)
  refine W.widen (k := cells + 1) (n := slots + 6) (Nat.le_add_right _ _) (Nat.le_add_right _ _) ?_
  exact lv_icmp_eq (tgt := 1412) hx hb dL_law_1236 (by decide) (fun _ => kk C2 B9 f H2 locs2 ls hI ⟨hP2, hO2, hS2⟩ hl) (fun h => absurd rfl h)
set_option maxHeartbeats 4000000 in
theorem cs_look (G : LwG p l s m c bs L xs dC dI ct g cL) (hM : LwM s dC dI ct g cL C f H locs) (hl : lv_has ls 7 (lwLs bs g i)) (hi : i + 6 ≤ L) (hc : cells + 2 ≤ 601024 ∧ slots + 12 ≤ 7293033) (hC : LCase 137 281 [xs (i + 1)] hx1 (fun n => n = 0) C) (kk : ∀ (C2 : AmC) (B : Big) (f1 : Nat → Int64) (H1 : Heap) (locs1 : List Loc) (ls1 : Array Slot), LInv C2 B → LwM s dC dI ct g cL C2 f1 H1 locs1 → lv_has ls1 7 (lwLs bs g i) → W p l e room_1 s m #[Value.ref bs] below meth c H1 locs1 (cells + 1) (slots + 6) Q (F0 m 1412 ls1 [])) : W p l e room_1 s m #[Value.ref bs] below meth c H locs cells slots Q (F0 m 1241 ls []) := by
  obtain ⟨A, C1, C2, z, B9, e1, hok, e2, hA1, hA2, hI⟩ := hC
  obtain ⟨hlt, F, hKL, hNc, hXX, hbl, hob, hL⟩ := id G
  obtain ⟨hx, hb, hml, hown, hts, hK, hX, hg⟩ := id F
  obtain ⟨hP, hO, hS⟩ := hM
  refine lv_aload_n hx hb dL_law_1241 rfl (lv_at hl 1 rfl) ?_
  refine lw_arg G (i := i) (j := 1) (jj := 1) hS (lv_at hl 0 rfl) (lv_at hl 4 rfl) (by omega) (by decide) dL_law_1242 dL_law_1243 dL_law_1245 dL_law_1246 dL_law_1247 ?_
  refine lv_aload_n hx hb dL_law_1248 rfl (lv_at hl 3 rfl) ?_
  refine lw_stat F (av := [.ref (g 0), .int (xs (i + 1)), .ref (g (amKN + 2))]) (rest := []) (wr_look hlt hg hob e1 hok) ⟨rfl, rfl⟩ ⟨by decide, by decide⟩ (lw_4 lw_w_wl_look lw_w_ws_look lw_w_ini lw_w_cw_look) lw_d_look hKL hNc hP hO hS (fun q hq _ => hS.2.1 q hq (Nat.not_le.mpr hq)) hl.1 (Nat.le_of_ble_eq_true rfl) dL_law_1249 ⟨by show cells + 1 ≤ 601024; omega, by show slots + 6 ≤ 7293033; omega⟩ (fun r f1 H1 locs1 hT hP1 hO1 hS1 hz1 => ?_)
  obtain ⟨hth, hre⟩ := lw_ans hT hA1 hA2 (hx1_n hok)
  refine lv_istore (lv' := [(5, .int r), (0, .ref bs), (1, .ref (g 0)), (2, .ref (g 145)), (3, .ref (g (amKN + 2))), (4, .int (nI i))]) hx hb dL_law_1252 hl (by decide) rfl (fun ls hl => ?_)
  refine lv_aload_n hx hb dL_law_1254 rfl (lv_at hl 3 rfl) ?_
  refine lw_arg G (i := i) (j := 1) (jj := 1) hS1 (lv_at hl 1 rfl) (lv_at hl 5 rfl) (by omega) (by decide) dL_law_1255 dL_law_1256 dL_law_1258 dL_law_1259 dL_law_1260 ?_
  refine lw_inv F hlt (a := 145) (is := [xs (i + 1)]) (rest := []) (A0 := fun q : Nat => s.heap.size ≤ q) e2 ra_281.1 ra_281.2.1 (by rw [ra_281.2.2.1]; exact Nat.le_of_ble_eq_true rfl) (by decide) (by rw [ra_281.2.2.2.1]; decide) lw_w_lk_281 (by rw [ra_281.2.2.2.2.1, ra_281.2.2.2.2.2.1, ra_281.2.2.2.2.2.2]; exact ⟨by decide, by decide⟩) dL_law_1261 hP1 (lw_hb hg hP1 hO1) hS1 (fun q hq _ => hS1.2.1 q hq (Nat.not_le.mpr hq)) (fun q h => h.1) hl.1 (Nat.le_of_ble_eq_true rfl) ⟨by show cells + 1 ≤ 601024; omega, by show slots + 6 ≤ 7293033; omega⟩ ?_ (fun n9 e9 => by cases e9)
  intro v9 e9 H2 locs2 hP2 hS2 hz9 hk2
  cases e9
  have hO2 := lw_ok hO1 hk2
  refine (show W p l e room_1 s m #[Value.ref bs] below meth c H2 locs2 _ _ _ (F0 m 1264 ls [.int z]) from ?_)
  refine lv_istore (lv' := [(6, .int z), (5, .int r), (0, .ref bs), (1, .ref (g 0)), (2, .ref (g 145)), (3, .ref (g (amKN + 2))), (4, .int (nI i))]) hx hb dL_law_1264 hl (by decide) rfl (fun ls hl => ?_)
  refine lv_aload_n hx hb dL_law_1266 rfl (lv_at hl 4 rfl) ?_
  refine lw_inv F hlt (a := 145) (is := []) (rest := []) (A0 := fun q : Nat => s.heap.size ≤ q) l_thrown ra_161.1 ra_161.2.1 (by rw [ra_161.2.2.1]; exact Nat.le_of_ble_eq_true rfl) (by decide) (by rw [ra_161.2.2.2.1]; decide) lw_w_lk_161 (by rw [ra_161.2.2.2.2.1, ra_161.2.2.2.2.2.1, ra_161.2.2.2.2.2.2]; exact ⟨by decide, by decide⟩) dL_law_1267 hP2 (lw_hb hg hP2 hO2) hS2 (fun q hq _ => hS2.2.1 q hq (Nat.not_le.mpr hq)) (fun q h => h.1) hl.1 (Nat.le_of_ble_eq_true rfl) ⟨by show cells + 1 ≤ 601024; omega, by show slots + 6 ≤ 7293033; omega⟩ ?_ (fun n9 e9 => by cases e9)
  intro v9 e9 H3 locs3 hP3 hS3 hz9 hk3
  cases e9
  have hO3 := lw_ok hO2 hk3
  refine (show W p l e room_1 s m #[Value.ref bs] below meth c H3 locs3 _ _ _ (F0 m 1270 ls [.int (cI C2 145 5)]) from ?_)
  refine lv_iload hx hb dL_law_1270 (lv_at hl 1 rfl) ?_
  refine lv_icmp_eq (tgt := 1277) hx hb dL_law_1272 (by decide) (fun _ => ?_) (fun h => absurd hth h)
  have fin : ∀ (ls1 : Array Slot), lv_has ls1 7 [(6, .int z), (5, .int r), (0, .ref bs), (1, .ref (g 0)), (2, .ref (g 145)), (3, .ref (g (amKN + 2))), (4, .int (nI i))] → W p l e room_1 s m #[Value.ref bs] below meth c H3 locs3 (cells + 1) (slots + 6) Q (F0 m 1412 ls1 []) := fun ls1 hl1 => kk C2 B9 f1 H3 locs3 ls1 hI ⟨hP3, hO3, hS3⟩ (lv_sub hl1 [2, 3, 4, 5, 6] rfl)
  refine W.widen (k := cells + 1) (n := slots + 6) (Nat.le_refl _) (Nat.le_refl _) ?_
  refine lv_iload hx hb dL_law_1277 (lv_at hl 1 rfl) ?_
  refine lv_if_ne (tgt := 1294) hx hb dL_law_1279 (by decide) (fun _ => lv_goto (tgt := 1412) hx hb dL_law_1294 (by decide) (fin ls hl)) (fun h0 => ?_)
  refine lv_aload_n hx hb dL_law_1282 rfl (lv_at hl 5 rfl) ?_
  refine lv_iconst (v := 0) hx hb dL_law_1283 (by decide) ?_
  refine lw_lald G hO3 dL_law_1284 ?_
  refine lv_iload hx hb dL_law_1285 (lv_at hl 0 rfl) ?_
  refine lv_i2l hx hb dL_law_1287 rfl ?_
  refine W.lcmp hx hb dL_law_1288 ?_
  exact lv_if_eq (tgt := 1294) hx hb dL_law_1289 (by decide) (fun _ => lv_goto (tgt := 1412) hx hb dL_law_1294 (by decide) (fin ls hl)) (fun h => absurd (by rw [hre h0]; exact lw_cmp _) h)
set_option maxHeartbeats 4000000 in
theorem cs_forget (G : LwG p l s m c bs L xs dC dI ct g cL) (hM : LwM s dC dI ct g cL C f H locs) (hl : lv_has ls 7 (lwLs bs g i)) (hi : i + 6 ≤ L) (hc : cells + 2 ≤ 601024 ∧ slots + 12 ≤ 7293033) (hC : LVoid 138 283 C) (kk : ∀ (C2 : AmC) (B : Big) (f1 : Nat → Int64) (H1 : Heap) (locs1 : List Loc) (ls1 : Array Slot), LInv C2 B → LwM s dC dI ct g cL C2 f1 H1 locs1 → lv_has ls1 7 (lwLs bs g i) → W p l e room_1 s m #[Value.ref bs] below meth c H1 locs1 (cells + 1) (slots + 6) Q (F0 m 1412 ls1 [])) : W p l e room_1 s m #[Value.ref bs] below meth c H locs cells slots Q (F0 m 1297 ls []) := by
  obtain ⟨C1, C2, B9, e1, e2, hI⟩ := hC
  obtain ⟨hlt, F, hKL, hNc, hXX, hbl, hob, hL⟩ := id G
  obtain ⟨hx, hb, hml, hown, hts, hK, hX, hg⟩ := id F
  obtain ⟨hP, hO, hS⟩ := hM
  refine lv_aload_n hx hb dL_law_1297 rfl (lv_at hl 1 rfl) ?_
  refine lw_inv F hlt (a := 0) (is := []) (rest := []) (A0 := fun q : Nat => s.heap.size ≤ q) e1 ra_138.1 ra_138.2.1 (by rw [ra_138.2.2.1]; exact Nat.le_of_ble_eq_true rfl) (by decide) (by rw [ra_138.2.2.2.1]; decide) lw_w_lk_138 (by rw [ra_138.2.2.2.2.1, ra_138.2.2.2.2.2.1, ra_138.2.2.2.2.2.2]; exact ⟨by decide, by decide⟩) dL_law_1298 hP (lw_hb hg hP hO) hS (fun q hq _ => hS.2.1 q hq (Nat.not_le.mpr hq)) (fun q h => h.1) hl.1 (Nat.le_of_ble_eq_true rfl) ⟨by show cells + 0 ≤ 601024; omega, by show slots + 0 ≤ 7293033; omega⟩ ?_ (fun n9 e9 => by cases e9)
  intro v9 e9 H1 locs1 hP1 hS1 hz9 hk1
  cases e9
  have hO1 := lw_ok hO hk1
  refine (show W p l e room_1 s m #[Value.ref bs] below meth c H1 locs1 _ _ _ (F0 m 1301 ls []) from ?_)
  refine lv_aload_n hx hb dL_law_1301 rfl (lv_at hl 2 rfl) ?_
  refine lw_inv F hlt (a := 145) (is := []) (rest := []) (A0 := fun q : Nat => s.heap.size ≤ q) e2 ra_283.1 ra_283.2.1 (by rw [ra_283.2.2.1]; exact Nat.le_of_ble_eq_true rfl) (by decide) (by rw [ra_283.2.2.2.1]; decide) lw_w_lk_283 (by rw [ra_283.2.2.2.2.1, ra_283.2.2.2.2.2.1, ra_283.2.2.2.2.2.2]; exact ⟨by decide, by decide⟩) dL_law_1302 hP1 (lw_hb hg hP1 hO1) hS1 (fun q hq _ => hS1.2.1 q hq (Nat.not_le.mpr hq)) (fun q h => h.1) hl.1 (Nat.le_of_ble_eq_true rfl) ⟨by show cells + 0 ≤ 601024; omega, by show slots + 0 ≤ 7293033; omega⟩ ?_ (fun n9 e9 => by cases e9)
  intro v9 e9 H2 locs2 hP2 hS2 hz9 hk2
  cases e9
  have hO2 := lw_ok hO1 hk2
  refine (show W p l e room_1 s m #[Value.ref bs] below meth c H2 locs2 _ _ _ (F0 m 1305 ls []) from ?_)
  refine W.widen (k := cells + 1) (n := slots + 6) (Nat.le_add_right _ _) (Nat.le_add_right _ _) ?_
  exact lv_goto (tgt := 1412) hx hb dL_law_1305 (by decide) (kk C2 B9 f H2 locs2 ls hI ⟨hP2, hO2, hS2⟩ hl)
set_option maxHeartbeats 4000000 in
theorem cs_years (G : LwG p l s m c bs L xs dC dI ct g cL) (hM : LwM s dC dI ct g cL C f H locs) (hl : lv_has ls 7 (lwLs bs g i)) (hi : i + 6 ≤ L) (hc : cells + 2 ≤ 601024 ∧ slots + 12 ≤ 7293033) (hC : LCase 139 285 [xs (i + 1), xs (i + 2), xs (i + 3)] hxy (fun n => n = 0 ∨ n = 1) C) (kk : ∀ (C2 : AmC) (B : Big) (f1 : Nat → Int64) (H1 : Heap) (locs1 : List Loc) (ls1 : Array Slot), LInv C2 B → LwM s dC dI ct g cL C2 f1 H1 locs1 → lv_has ls1 7 (lwLs bs g i) → W p l e room_1 s m #[Value.ref bs] below meth c H1 locs1 (cells + 1) (slots + 6) Q (F0 m 1412 ls1 [])) : W p l e room_1 s m #[Value.ref bs] below meth c H locs cells slots Q (F0 m 1308 ls []) := by
  obtain ⟨A, C1, C2, z, B9, e1, hok, e2, hA1, hA2, hI⟩ := hC
  obtain ⟨hlt, F, hKL, hNc, hXX, hbl, hob, hL⟩ := id G
  obtain ⟨hx, hb, hml, hown, hts, hK, hX, hg⟩ := id F
  obtain ⟨hP, hO, hS⟩ := hM
  refine lv_aload_n hx hb dL_law_1308 rfl (lv_at hl 1 rfl) ?_
  refine lw_arg G (i := i) (j := 1) (jj := 1) hS (lv_at hl 0 rfl) (lv_at hl 4 rfl) (by omega) (by decide) dL_law_1309 dL_law_1310 dL_law_1312 dL_law_1313 dL_law_1314 ?_
  refine lw_arg G (i := i) (j := 2) (jj := 2) hS (lv_at hl 0 rfl) (lv_at hl 4 rfl) (by omega) (by decide) dL_law_1315 dL_law_1316 dL_law_1318 dL_law_1319 dL_law_1320 ?_
  refine lw_arg G (i := i) (j := 3) (jj := 3) hS (lv_at hl 0 rfl) (lv_at hl 4 rfl) (by omega) (by decide) dL_law_1321 dL_law_1322 dL_law_1324 dL_law_1325 dL_law_1326 ?_
  refine lv_aload_n hx hb dL_law_1327 rfl (lv_at hl 3 rfl) ?_
  refine lw_stat F (av := [.ref (g 0), .int (xs (i + 1)), .int (xs (i + 2)), .int (xs (i + 3)), .ref (g (amKN + 2))]) (rest := []) (wr_years hlt hg hob e1 hok) ⟨rfl, rfl⟩ ⟨by decide, by decide⟩ (lw_4 lw_w_wl_years lw_w_ws_years lw_w_ini lw_w_cw_years) lw_d_years hKL hNc hP hO hS (fun q hq _ => hS.2.1 q hq (Nat.not_le.mpr hq)) hl.1 (Nat.le_of_ble_eq_true rfl) dL_law_1328 ⟨by show cells + 1 ≤ 601024; omega, by show slots + 6 ≤ 7293033; omega⟩ (fun r f1 H1 locs1 hT hP1 hO1 hS1 hz1 => ?_)
  obtain ⟨hth, hre⟩ := lw_ans hT hA1 hA2 (hxy_n hok)
  refine lv_istore (lv' := [(5, .int r), (0, .ref bs), (1, .ref (g 0)), (2, .ref (g 145)), (3, .ref (g (amKN + 2))), (4, .int (nI i))]) hx hb dL_law_1331 hl (by decide) rfl (fun ls hl => ?_)
  refine lv_aload_n hx hb dL_law_1333 rfl (lv_at hl 3 rfl) ?_
  refine lw_arg G (i := i) (j := 1) (jj := 1) hS1 (lv_at hl 1 rfl) (lv_at hl 5 rfl) (by omega) (by decide) dL_law_1334 dL_law_1335 dL_law_1337 dL_law_1338 dL_law_1339 ?_
  refine lw_arg G (i := i) (j := 2) (jj := 2) hS1 (lv_at hl 1 rfl) (lv_at hl 5 rfl) (by omega) (by decide) dL_law_1340 dL_law_1341 dL_law_1343 dL_law_1344 dL_law_1345 ?_
  refine lw_arg G (i := i) (j := 3) (jj := 3) hS1 (lv_at hl 1 rfl) (lv_at hl 5 rfl) (by omega) (by decide) dL_law_1346 dL_law_1347 dL_law_1349 dL_law_1350 dL_law_1351 ?_
  refine lw_inv F hlt (a := 145) (is := [xs (i + 1), xs (i + 2), xs (i + 3)]) (rest := []) (A0 := fun q : Nat => s.heap.size ≤ q) e2 ra_285.1 ra_285.2.1 (by rw [ra_285.2.2.1]; exact Nat.le_of_ble_eq_true rfl) (by decide) (by rw [ra_285.2.2.2.1]; decide) lw_w_lk_285 (by rw [ra_285.2.2.2.2.1, ra_285.2.2.2.2.2.1, ra_285.2.2.2.2.2.2]; exact ⟨by decide, by decide⟩) dL_law_1352 hP1 (lw_hb hg hP1 hO1) hS1 (fun q hq _ => hS1.2.1 q hq (Nat.not_le.mpr hq)) (fun q h => h.1) hl.1 (Nat.le_of_ble_eq_true rfl) ⟨by show cells + 1 ≤ 601024; omega, by show slots + 6 ≤ 7293033; omega⟩ ?_ (fun n9 e9 => by cases e9)
  intro v9 e9 H2 locs2 hP2 hS2 hz9 hk2
  cases e9
  have hO2 := lw_ok hO1 hk2
  refine (show W p l e room_1 s m #[Value.ref bs] below meth c H2 locs2 _ _ _ (F0 m 1355 ls [.int z]) from ?_)
  refine lv_istore (lv' := [(6, .int z), (5, .int r), (0, .ref bs), (1, .ref (g 0)), (2, .ref (g 145)), (3, .ref (g (amKN + 2))), (4, .int (nI i))]) hx hb dL_law_1355 hl (by decide) rfl (fun ls hl => ?_)
  refine lv_aload_n hx hb dL_law_1357 rfl (lv_at hl 4 rfl) ?_
  refine lw_inv F hlt (a := 145) (is := []) (rest := []) (A0 := fun q : Nat => s.heap.size ≤ q) l_thrown ra_161.1 ra_161.2.1 (by rw [ra_161.2.2.1]; exact Nat.le_of_ble_eq_true rfl) (by decide) (by rw [ra_161.2.2.2.1]; decide) lw_w_lk_161 (by rw [ra_161.2.2.2.2.1, ra_161.2.2.2.2.2.1, ra_161.2.2.2.2.2.2]; exact ⟨by decide, by decide⟩) dL_law_1358 hP2 (lw_hb hg hP2 hO2) hS2 (fun q hq _ => hS2.2.1 q hq (Nat.not_le.mpr hq)) (fun q h => h.1) hl.1 (Nat.le_of_ble_eq_true rfl) ⟨by show cells + 1 ≤ 601024; omega, by show slots + 6 ≤ 7293033; omega⟩ ?_ (fun n9 e9 => by cases e9)
  intro v9 e9 H3 locs3 hP3 hS3 hz9 hk3
  cases e9
  have hO3 := lw_ok hO2 hk3
  refine (show W p l e room_1 s m #[Value.ref bs] below meth c H3 locs3 _ _ _ (F0 m 1361 ls [.int (cI C2 145 5)]) from ?_)
  refine lv_iload hx hb dL_law_1361 (lv_at hl 1 rfl) ?_
  refine lv_icmp_eq (tgt := 1368) hx hb dL_law_1363 (by decide) (fun _ => ?_) (fun h => absurd hth h)
  have fin : ∀ (ls1 : Array Slot), lv_has ls1 7 [(6, .int z), (5, .int r), (0, .ref bs), (1, .ref (g 0)), (2, .ref (g 145)), (3, .ref (g (amKN + 2))), (4, .int (nI i))] → W p l e room_1 s m #[Value.ref bs] below meth c H3 locs3 (cells + 1) (slots + 6) Q (F0 m 1412 ls1 []) := fun ls1 hl1 => kk C2 B9 f1 H3 locs3 ls1 hI ⟨hP3, hO3, hS3⟩ (lv_sub hl1 [2, 3, 4, 5, 6] rfl)
  refine W.widen (k := cells + 1) (n := slots + 6) (Nat.le_refl _) (Nat.le_refl _) ?_
  refine lv_iload hx hb dL_law_1368 (lv_at hl 1 rfl) ?_
  refine lv_if_ne (tgt := 1385) hx hb dL_law_1370 (by decide) (fun _ => lv_goto (tgt := 1412) hx hb dL_law_1385 (by decide) (fin ls hl)) (fun h0 => ?_)
  refine lv_aload_n hx hb dL_law_1373 rfl (lv_at hl 5 rfl) ?_
  refine lv_iconst (v := 0) hx hb dL_law_1374 (by decide) ?_
  refine lw_lald G hO3 dL_law_1375 ?_
  refine lv_iload hx hb dL_law_1376 (lv_at hl 0 rfl) ?_
  refine lv_i2l hx hb dL_law_1378 rfl ?_
  refine W.lcmp hx hb dL_law_1379 ?_
  exact lv_if_eq (tgt := 1385) hx hb dL_law_1380 (by decide) (fun _ => lv_goto (tgt := 1412) hx hb dL_law_1385 (by decide) (fin ls hl)) (fun h => absurd (by rw [hre h0]; exact lw_cmp _) h)
set_option maxHeartbeats 4000000 in
theorem cs_image (G : LwG p l s m c bs L xs dC dI ct g cL) (hM : LwM s dC dI ct g cL C f H locs) (hl : lv_has ls 7 (lwLs bs g i)) (hi : i + 6 ≤ L) (hc : cells + 2 ≤ 601024 ∧ slots + 12 ≤ 7293033) (hC : LVoid 140 286 C) (kk : ∀ (C2 : AmC) (B : Big) (f1 : Nat → Int64) (H1 : Heap) (locs1 : List Loc) (ls1 : Array Slot), LInv C2 B → LwM s dC dI ct g cL C2 f1 H1 locs1 → lv_has ls1 7 (lwLs bs g i) → W p l e room_1 s m #[Value.ref bs] below meth c H1 locs1 (cells + 1) (slots + 6) Q (F0 m 1412 ls1 [])) : W p l e room_1 s m #[Value.ref bs] below meth c H locs cells slots Q (F0 m 1388 ls []) := by
  obtain ⟨C1, C2, B9, e1, e2, hI⟩ := hC
  obtain ⟨hlt, F, hKL, hNc, hXX, hbl, hob, hL⟩ := id G
  obtain ⟨hx, hb, hml, hown, hts, hK, hX, hg⟩ := id F
  obtain ⟨hP, hO, hS⟩ := hM
  refine lv_aload_n hx hb dL_law_1388 rfl (lv_at hl 1 rfl) ?_
  refine lw_inv F hlt (a := 0) (is := []) (rest := []) (A0 := fun q : Nat => s.heap.size ≤ q) e1 ra_140.1 ra_140.2.1 (by rw [ra_140.2.2.1]; exact Nat.le_of_ble_eq_true rfl) (by decide) (by rw [ra_140.2.2.2.1]; decide) lw_w_lk_140 (by rw [ra_140.2.2.2.2.1, ra_140.2.2.2.2.2.1, ra_140.2.2.2.2.2.2]; exact ⟨by decide, by decide⟩) dL_law_1389 hP (lw_hb hg hP hO) hS (fun q hq _ => hS.2.1 q hq (Nat.not_le.mpr hq)) (fun q h => h.1) hl.1 (Nat.le_of_ble_eq_true rfl) ⟨by show cells + 0 ≤ 601024; omega, by show slots + 0 ≤ 7293033; omega⟩ ?_ (fun n9 e9 => by cases e9)
  intro v9 e9 H1 locs1 hP1 hS1 hz9 hk1
  cases e9
  have hO1 := lw_ok hO hk1
  refine (show W p l e room_1 s m #[Value.ref bs] below meth c H1 locs1 _ _ _ (F0 m 1392 ls []) from ?_)
  refine lv_aload_n hx hb dL_law_1392 rfl (lv_at hl 2 rfl) ?_
  refine lw_inv F hlt (a := 145) (is := []) (rest := []) (A0 := fun q : Nat => s.heap.size ≤ q) e2 ra_286.1 ra_286.2.1 (by rw [ra_286.2.2.1]; exact Nat.le_of_ble_eq_true rfl) (by decide) (by rw [ra_286.2.2.2.1]; decide) lw_w_lk_286 (by rw [ra_286.2.2.2.2.1, ra_286.2.2.2.2.2.1, ra_286.2.2.2.2.2.2]; exact ⟨by decide, by decide⟩) dL_law_1393 hP1 (lw_hb hg hP1 hO1) hS1 (fun q hq _ => hS1.2.1 q hq (Nat.not_le.mpr hq)) (fun q h => h.1) hl.1 (Nat.le_of_ble_eq_true rfl) ⟨by show cells + 0 ≤ 601024; omega, by show slots + 0 ≤ 7293033; omega⟩ ?_ (fun n9 e9 => by cases e9)
  intro v9 e9 H2 locs2 hP2 hS2 hz9 hk2
  cases e9
  have hO2 := lw_ok hO1 hk2
  refine (show W p l e room_1 s m #[Value.ref bs] below meth c H2 locs2 _ _ _ (F0 m 1396 ls []) from ?_)
  refine W.widen (k := cells + 1) (n := slots + 6) (Nat.le_add_right _ _) (Nat.le_add_right _ _) ?_
  exact lv_goto (tgt := 1412) hx hb dL_law_1396 (by decide) (kk C2 B9 f H2 locs2 ls hI ⟨hP2, hO2, hS2⟩ hl)
set_option maxHeartbeats 4000000 in
theorem cs_restore (G : LwG p l s m c bs L xs dC dI ct g cL) (hM : LwM s dC dI ct g cL C f H locs) (hl : lv_has ls 7 (lwLs bs g i)) (hi : i + 6 ≤ L) (hc : cells + 2 ≤ 601024 ∧ slots + 12 ≤ 7293033) (hC : LDir 141 287 [] C) (kk : ∀ (C2 : AmC) (B : Big) (f1 : Nat → Int64) (H1 : Heap) (locs1 : List Loc) (ls1 : Array Slot), LInv C2 B → LwM s dC dI ct g cL C2 f1 H1 locs1 → lv_has ls1 7 (lwLs bs g i) → W p l e room_1 s m #[Value.ref bs] below meth c H1 locs1 (cells + 1) (slots + 6) Q (F0 m 1412 ls1 [])) : W p l e room_1 s m #[Value.ref bs] below meth c H locs cells slots Q (F0 m 1399 ls []) := by
  obtain ⟨r, C1, C2, B9, e1, e2, hI⟩ := hC
  obtain ⟨hlt, F, hKL, hNc, hXX, hbl, hob, hL⟩ := id G
  obtain ⟨hx, hb, hml, hown, hts, hK, hX, hg⟩ := id F
  obtain ⟨hP, hO, hS⟩ := hM
  refine lv_aload_n hx hb dL_law_1399 rfl (lv_at hl 1 rfl) ?_
  refine lw_inv F hlt (a := 0) (is := []) (rest := []) (A0 := fun q : Nat => s.heap.size ≤ q) e1 ra_141.1 ra_141.2.1 (by rw [ra_141.2.2.1]; exact Nat.le_of_ble_eq_true rfl) (by decide) (by rw [ra_141.2.2.2.1]; decide) lw_w_lk_141 (by rw [ra_141.2.2.2.2.1, ra_141.2.2.2.2.2.1, ra_141.2.2.2.2.2.2]; exact ⟨by decide, by decide⟩) dL_law_1400 hP (lw_hb hg hP hO) hS (fun q hq _ => hS.2.1 q hq (Nat.not_le.mpr hq)) (fun q h => h.1) hl.1 (Nat.le_of_ble_eq_true rfl) ⟨by show cells + 0 ≤ 601024; omega, by show slots + 0 ≤ 7293033; omega⟩ ?_ (fun n9 e9 => by cases e9)
  intro v9 e9 H1 locs1 hP1 hS1 hz9 hk1
  cases e9
  have hO1 := lw_ok hO hk1
  refine (show W p l e room_1 s m #[Value.ref bs] below meth c H1 locs1 _ _ _ (F0 m 1403 ls [.int r]) from ?_)
  refine lv_aload_n hx hb dL_law_1403 rfl (lv_at hl 2 rfl) ?_
  refine lw_inv F hlt (a := 145) (is := []) (rest := [.int r]) (A0 := fun q : Nat => s.heap.size ≤ q) e2 ra_287.1 ra_287.2.1 (by rw [ra_287.2.2.1]; exact Nat.le_of_ble_eq_true rfl) (by decide) (by rw [ra_287.2.2.2.1]; decide) lw_w_lk_287 (by rw [ra_287.2.2.2.2.1, ra_287.2.2.2.2.2.1, ra_287.2.2.2.2.2.2]; exact ⟨by decide, by decide⟩) dL_law_1404 hP1 (lw_hb hg hP1 hO1) hS1 (fun q hq _ => hS1.2.1 q hq (Nat.not_le.mpr hq)) (fun q h => h.1) hl.1 (Nat.le_of_ble_eq_true rfl) ⟨by show cells + 0 ≤ 601024; omega, by show slots + 0 ≤ 7293033; omega⟩ ?_ (fun n9 e9 => by cases e9)
  intro v9 e9 H2 locs2 hP2 hS2 hz9 hk2
  cases e9
  have hO2 := lw_ok hO1 hk2
  refine (show W p l e room_1 s m #[Value.ref bs] below meth c H2 locs2 _ _ _ (F0 m 1407 ls [.int r, .int r]) from ?_)
  refine W.widen (k := cells + 1) (n := slots + 6) (Nat.le_add_right _ _) (Nat.le_add_right _ _) ?_
  exact lv_icmp_eq (tgt := 1412) hx hb dL_law_1407 (by decide) (fun _ => kk C2 B9 f H2 locs2 ls hI ⟨hP2, hO2, hS2⟩ hl) (fun h => absurd rfl h)
end LwCs
