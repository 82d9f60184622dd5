/-! The law's cases. -/
section LwCs
variable {p : Program} {l : Launch} {e : Env} {s : State} {m : MethodId} {below : List Frame} {meth : Method} {c : Code} {bs L : Nat} {xs : Nat → Int32} {dC : Nat → ClassId} {dI : Nat → Nat → Nat} {ct : Nat → ClassId} {g : Nat → Nat} {cL : ClassId} {C : AmC} {f : Nat → Int64} {H : Heap} {locs : List Loc} {ls : Array Slot} {cells slots i : Nat} {Q : State → Prop}
set_option maxHeartbeats 4000000 in
theorem cs_feed (G : LwG p l s m c bs L xs dC dI ct g cL) (hM : LwM s dC dI ct g cL C f H locs) (hl : lv_has ls 7 (lwLs bs g i)) (hi : i + 6 ≤ L) (hc : cells + 2 ≤ 601024 ∧ slots + 12 ≤ 7293033) (hC : LDir 118 188 [xs (i + 1), xs (i + 2), xs (i + 3), xs (i + 4), xs (i + 5)] C) (kk : ∀ (C2 : AmC) (B : Big) (f1 : Nat → Int64) (H1 : Heap) (locs1 : List Loc) (ls1 : Array Slot), LInv C2 B → LwM s dC dI ct g cL C2 f1 H1 locs1 → lv_has ls1 7 (lwLs bs g i) → W p l e room_1 s m #[Value.ref bs] below meth c H1 locs1 (cells + 1) (slots + 6) Q (F0 m 1412 ls1 [])) : W p l e room_1 s m #[Value.ref bs] below meth c H locs cells slots Q (F0 m 152 ls []) := by
  obtain ⟨r, C1, C2, B9, e1, e2, hI⟩ := hC
  obtain ⟨hlt, F, hKL, hNc, hXX, hbl, hob, hL⟩ := id G
  obtain ⟨hx, hb, hml, hown, hts, hK, hX, hg⟩ := id F
  obtain ⟨hP, hO, hS⟩ := hM
  refine lv_aload_n hx hb dL_law_152 rfl (lv_at hl 1 rfl) ?_
  refine lw_arg G (i := i) (j := 1) (jj := 1) hS (lv_at hl 0 rfl) (lv_at hl 4 rfl) (by omega) (by decide) dL_law_153 dL_law_154 dL_law_156 dL_law_157 dL_law_158 ?_
  refine lw_arg G (i := i) (j := 2) (jj := 2) hS (lv_at hl 0 rfl) (lv_at hl 4 rfl) (by omega) (by decide) dL_law_159 dL_law_160 dL_law_162 dL_law_163 dL_law_164 ?_
  refine lw_arg G (i := i) (j := 3) (jj := 3) hS (lv_at hl 0 rfl) (lv_at hl 4 rfl) (by omega) (by decide) dL_law_165 dL_law_166 dL_law_168 dL_law_169 dL_law_170 ?_
  refine lw_arg G (i := i) (j := 4) (jj := 4) hS (lv_at hl 0 rfl) (lv_at hl 4 rfl) (by omega) (by decide) dL_law_171 dL_law_172 dL_law_174 dL_law_175 dL_law_176 ?_
  refine lw_arg G (i := i) (j := 5) (jj := 5) hS (lv_at hl 0 rfl) (lv_at hl 4 rfl) (by omega) (by decide) dL_law_177 dL_law_178 dL_law_180 dL_law_181 dL_law_182 ?_
  refine lw_inv F hlt (a := 0) (is := [xs (i + 1), xs (i + 2), xs (i + 3), xs (i + 4), xs (i + 5)]) (rest := []) (A0 := fun q : Nat => s.heap.size ≤ q) e1 ra_118.1 ra_118.2.1 (by rw [ra_118.2.2.1]; exact Nat.le_of_ble_eq_true rfl) (by decide) (by rw [ra_118.2.2.2.1]; decide) lw_w_lk_118 (by rw [ra_118.2.2.2.2.1, ra_118.2.2.2.2.2.1, ra_118.2.2.2.2.2.2]; exact ⟨by decide, by decide⟩) dL_law_183 hP (lw_hb hg hP hO) hS (fun q hq _ => hS.2.1 q hq (Nat.not_le.mpr hq)) (fun q h => h.1) hl.1 (Nat.le_of_ble_eq_true rfl) ⟨by show cells + 0 ≤ 601024; omega, by show slots + 0 ≤ 7293033; omega⟩ ?_ (fun n9 e9 => by cases e9)
  intro v9 e9 H1 locs1 hP1 hS1 hz9 hk1
  cases e9
  have hO1 := lw_ok hO hk1
  refine (show W p l e room_1 s m #[Value.ref bs] below meth c H1 locs1 _ _ _ (F0 m 186 ls [.int r]) from ?_)
  refine lv_aload_n hx hb dL_law_186 rfl (lv_at hl 2 rfl) ?_
  refine lw_arg G (i := i) (j := 1) (jj := 1) hS1 (lv_at hl 0 rfl) (lv_at hl 4 rfl) (by omega) (by decide) dL_law_187 dL_law_188 dL_law_190 dL_law_191 dL_law_192 ?_
  refine lw_arg G (i := i) (j := 2) (jj := 2) hS1 (lv_at hl 0 rfl) (lv_at hl 4 rfl) (by omega) (by decide) dL_law_193 dL_law_194 dL_law_196 dL_law_197 dL_law_198 ?_
  refine lw_arg G (i := i) (j := 3) (jj := 3) hS1 (lv_at hl 0 rfl) (lv_at hl 4 rfl) (by omega) (by decide) dL_law_199 dL_law_200 dL_law_202 dL_law_203 dL_law_204 ?_
  refine lw_arg G (i := i) (j := 4) (jj := 4) hS1 (lv_at hl 0 rfl) (lv_at hl 4 rfl) (by omega) (by decide) dL_law_205 dL_law_206 dL_law_208 dL_law_209 dL_law_210 ?_
  refine lw_arg G (i := i) (j := 5) (jj := 5) hS1 (lv_at hl 0 rfl) (lv_at hl 4 rfl) (by omega) (by decide) dL_law_211 dL_law_212 dL_law_214 dL_law_215 dL_law_216 ?_
  refine lw_inv F hlt (a := 145) (is := [xs (i + 1), xs (i + 2), xs (i + 3), xs (i + 4), xs (i + 5)]) (rest := [.int r]) (A0 := fun q : Nat => s.heap.size ≤ q) e2 ra_188.1 ra_188.2.1 (by rw [ra_188.2.2.1]; exact Nat.le_of_ble_eq_true rfl) (by decide) (by rw [ra_188.2.2.2.1]; decide) lw_w_lk_188 (by rw [ra_188.2.2.2.2.1, ra_188.2.2.2.2.2.1, ra_188.2.2.2.2.2.2]; exact ⟨by decide, by decide⟩) dL_law_217 hP1 (lw_hb hg hP1 hO1) hS1 (fun q hq _ => hS1.2.1 q hq (Nat.not_le.mpr hq)) (fun q h => h.1) hl.1 (Nat.le_of_ble_eq_true rfl) ⟨by show cells + 0 ≤ 601024; omega, by show slots + 0 ≤ 7293033; omega⟩ ?_ (fun n9 e9 => by cases e9)
  intro v9 e9 H2 locs2 hP2 hS2 hz9 hk2
  cases e9
  have hO2 := lw_ok hO1 hk2
  refine (show W p l e room_1 s m #[Value.ref bs] below meth c H2 locs2 _ _ _ (F0 m 220 ls [.int r, .int r]) from ?_)
  refine W.widen (k := cells + 1) (n := slots + 6) (Nat.le_add_right _ _) (Nat.le_add_right _ _) ?_
  exact lv_icmp_eq (tgt := 1412) hx hb dL_law_220 (by decide) (fun _ => kk C2 B9 f H2 locs2 ls hI ⟨hP2, hO2, hS2⟩ hl) (fun h => absurd rfl h)
set_option maxHeartbeats 4000000 in
theorem cs_table (G : LwG p l s m c bs L xs dC dI ct g cL) (hM : LwM s dC dI ct g cL C f H locs) (hl : lv_has ls 7 (lwLs bs g i)) (hi : i + 6 ≤ L) (hc : cells + 2 ≤ 601024 ∧ slots + 12 ≤ 7293033) (hC : LCase 119 189 [xs (i + 1)] hx1 (fun n => n = 1) C) (kk : ∀ (C2 : AmC) (B : Big) (f1 : Nat → Int64) (H1 : Heap) (locs1 : List Loc) (ls1 : Array Slot), LInv C2 B → LwM s dC dI ct g cL C2 f1 H1 locs1 → lv_has ls1 7 (lwLs bs g i) → W p l e room_1 s m #[Value.ref bs] below meth c H1 locs1 (cells + 1) (slots + 6) Q (F0 m 1412 ls1 [])) : W p l e room_1 s m #[Value.ref bs] below meth c H locs cells slots Q (F0 m 225 ls []) := by
  obtain ⟨A, C1, C2, z, B9, e1, hok, e2, hA1, hA2, hI⟩ := hC
  obtain ⟨hlt, F, hKL, hNc, hXX, hbl, hob, hL⟩ := id G
  obtain ⟨hx, hb, hml, hown, hts, hK, hX, hg⟩ := id F
  obtain ⟨hP, hO, hS⟩ := hM
  refine lv_aload_n hx hb dL_law_225 rfl (lv_at hl 1 rfl) ?_
  refine lw_arg G (i := i) (j := 1) (jj := 1) hS (lv_at hl 0 rfl) (lv_at hl 4 rfl) (by omega) (by decide) dL_law_226 dL_law_227 dL_law_229 dL_law_230 dL_law_231 ?_
  refine lv_aload_n hx hb dL_law_232 rfl (lv_at hl 3 rfl) ?_
  refine lw_stat F (av := [.ref (g 0), .int (xs (i + 1)), .ref (g (amKN + 2))]) (rest := []) (wr_table hlt hg hob e1 hok) ⟨rfl, rfl⟩ ⟨by decide, by decide⟩ (lw_4 lw_w_wl_table lw_w_ws_table lw_w_ini lw_w_cw_table) lw_d_table hKL hNc hP hO hS (fun q hq _ => hS.2.1 q hq (Nat.not_le.mpr hq)) hl.1 (Nat.le_of_ble_eq_true rfl) dL_law_233 ⟨by show cells + 1 ≤ 601024; omega, by show slots + 6 ≤ 7293033; omega⟩ (fun r f1 H1 locs1 hT hP1 hO1 hS1 hz1 => ?_)
  obtain ⟨hth, hre⟩ := lw_ans hT hA1 hA2 (hx1_n hok)
  refine lv_istore (lv' := [(5, .int r), (0, .ref bs), (1, .ref (g 0)), (2, .ref (g 145)), (3, .ref (g (amKN + 2))), (4, .int (nI i))]) hx hb dL_law_236 hl (by decide) rfl (fun ls hl => ?_)
  refine lv_aload_n hx hb dL_law_238 rfl (lv_at hl 3 rfl) ?_
  refine lw_arg G (i := i) (j := 1) (jj := 1) hS1 (lv_at hl 1 rfl) (lv_at hl 5 rfl) (by omega) (by decide) dL_law_239 dL_law_240 dL_law_242 dL_law_243 dL_law_244 ?_
  refine lw_inv F hlt (a := 145) (is := [xs (i + 1)]) (rest := []) (A0 := fun q : Nat => s.heap.size ≤ q) e2 ra_189.1 ra_189.2.1 (by rw [ra_189.2.2.1]; exact Nat.le_of_ble_eq_true rfl) (by decide) (by rw [ra_189.2.2.2.1]; decide) lw_w_lk_189 (by rw [ra_189.2.2.2.2.1, ra_189.2.2.2.2.2.1, ra_189.2.2.2.2.2.2]; exact ⟨by decide, by decide⟩) dL_law_245 hP1 (lw_hb hg hP1 hO1) hS1 (fun q hq _ => hS1.2.1 q hq (Nat.not_le.mpr hq)) (fun q h => h.1) hl.1 (Nat.le_of_ble_eq_true rfl) ⟨by show cells + 1 ≤ 601024; omega, by show slots + 6 ≤ 7293033; omega⟩ ?_ (fun n9 e9 => by cases e9)
  intro v9 e9 H2 locs2 hP2 hS2 hz9 hk2
  cases e9
  have hO2 := lw_ok hO1 hk2
  refine (show W p l e room_1 s m #[Value.ref bs] below meth c H2 locs2 _ _ _ (F0 m 248 ls [.int z]) from ?_)
  refine lv_istore (lv' := [(6, .int z), (5, .int r), (0, .ref bs), (1, .ref (g 0)), (2, .ref (g 145)), (3, .ref (g (amKN + 2))), (4, .int (nI i))]) hx hb dL_law_248 hl (by decide) rfl (fun ls hl => ?_)
  refine lv_aload_n hx hb dL_law_250 rfl (lv_at hl 4 rfl) ?_
  refine lw_inv F hlt (a := 145) (is := []) (rest := []) (A0 := fun q : Nat => s.heap.size ≤ q) l_thrown ra_161.1 ra_161.2.1 (by rw [ra_161.2.2.1]; exact Nat.le_of_ble_eq_true rfl) (by decide) (by rw [ra_161.2.2.2.1]; decide) lw_w_lk_161 (by rw [ra_161.2.2.2.2.1, ra_161.2.2.2.2.2.1, ra_161.2.2.2.2.2.2]; exact ⟨by decide, by decide⟩) dL_law_251 hP2 (lw_hb hg hP2 hO2) hS2 (fun q hq _ => hS2.2.1 q hq (Nat.not_le.mpr hq)) (fun q h => h.1) hl.1 (Nat.le_of_ble_eq_true rfl) ⟨by show cells + 1 ≤ 601024; omega, by show slots + 6 ≤ 7293033; omega⟩ ?_ (fun n9 e9 => by cases e9)
  intro v9 e9 H3 locs3 hP3 hS3 hz9 hk3
  cases e9
  have hO3 := lw_ok hO2 hk3
  refine (show W p l e room_1 s m #[Value.ref bs] below meth c H3 locs3 _ _ _ (F0 m 254 ls [.int (cI C2 145 5)]) from ?_)
  refine lv_iload hx hb dL_law_254 (lv_at hl 1 rfl) ?_
  refine lv_icmp_eq (tgt := 261) hx hb dL_law_256 (by decide) (fun _ => ?_) (fun h => absurd hth h)
  have fin : ∀ (ls1 : Array Slot), lv_has ls1 7 [(6, .int z), (5, .int r), (0, .ref bs), (1, .ref (g 0)), (2, .ref (g 145)), (3, .ref (g (amKN + 2))), (4, .int (nI i))] → W p l e room_1 s m #[Value.ref bs] below meth c H3 locs3 (cells + 1) (slots + 6) Q (F0 m 1412 ls1 []) := fun ls1 hl1 => kk C2 B9 f1 H3 locs3 ls1 hI ⟨hP3, hO3, hS3⟩ (lv_sub hl1 [2, 3, 4, 5, 6] rfl)
  refine W.widen (k := cells + 1) (n := slots + 6) (Nat.le_refl _) (Nat.le_refl _) ?_
  refine lv_iload hx hb dL_law_261 (lv_at hl 1 rfl) ?_
  refine lv_if_ne (tgt := 278) hx hb dL_law_263 (by decide) (fun _ => lv_goto (tgt := 1412) hx hb dL_law_278 (by decide) (fin ls hl)) (fun h0 => ?_)
  refine lv_aload_n hx hb dL_law_266 rfl (lv_at hl 5 rfl) ?_
  refine lv_iconst (v := 0) hx hb dL_law_267 (by decide) ?_
  refine lw_lald G hO3 dL_law_268 ?_
  refine lv_iload hx hb dL_law_269 (lv_at hl 0 rfl) ?_
  refine lv_i2l hx hb dL_law_271 rfl ?_
  refine W.lcmp hx hb dL_law_272 ?_
  exact lv_if_eq (tgt := 278) hx hb dL_law_273 (by decide) (fun _ => lv_goto (tgt := 1412) hx hb dL_law_278 (by decide) (fin ls hl)) (fun h => absurd (by rw [hre h0]; exact lw_cmp _) h)
set_option maxHeartbeats 4000000 in
theorem cs_fault (G : LwG p l s m c bs L xs dC dI ct g cL) (hM : LwM s dC dI ct g cL C f H locs) (hl : lv_has ls 7 (lwLs bs g i)) (hi : i + 6 ≤ L) (hc : cells + 2 ≤ 601024 ∧ slots + 12 ≤ 7293033) (hC : LDir 120 190 [] C) (kk : ∀ (C2 : AmC) (B : Big) (f1 : Nat → Int64) (H1 : Heap) (locs1 : List Loc) (ls1 : Array Slot), LInv C2 B → LwM s dC dI ct g cL C2 f1 H1 locs1 → lv_has ls1 7 (lwLs bs g i) → W p l e room_1 s m #[Value.ref bs] below meth c H1 locs1 (cells + 1) (slots + 6) Q (F0 m 1412 ls1 [])) : W p l e room_1 s m #[Value.ref bs] below meth c H locs cells slots Q (F0 m 281 ls []) := by
  obtain ⟨r, C1, C2, B9, e1, e2, hI⟩ := hC
  obtain ⟨hlt, F, hKL, hNc, hXX, hbl, hob, hL⟩ := id G
  obtain ⟨hx, hb, hml, hown, hts, hK, hX, hg⟩ := id F
  obtain ⟨hP, hO, hS⟩ := hM
  refine lv_aload_n hx hb dL_law_281 rfl (lv_at hl 1 rfl) ?_
  refine lw_inv F hlt (a := 0) (is := []) (rest := []) (A0 := fun q : Nat => s.heap.size ≤ q) e1 ra_120.1 ra_120.2.1 (by rw [ra_120.2.2.1]; exact Nat.le_of_ble_eq_true rfl) (by decide) (by rw [ra_120.2.2.2.1]; decide) lw_w_lk_120 (by rw [ra_120.2.2.2.2.1, ra_120.2.2.2.2.2.1, ra_120.2.2.2.2.2.2]; exact ⟨by decide, by decide⟩) dL_law_282 hP (lw_hb hg hP hO) hS (fun q hq _ => hS.2.1 q hq (Nat.not_le.mpr hq)) (fun q h => h.1) hl.1 (Nat.le_of_ble_eq_true rfl) ⟨by show cells + 0 ≤ 601024; omega, by show slots + 0 ≤ 7293033; omega⟩ ?_ (fun n9 e9 => by cases e9)
  intro v9 e9 H1 locs1 hP1 hS1 hz9 hk1
  cases e9
  have hO1 := lw_ok hO hk1
  refine (show W p l e room_1 s m #[Value.ref bs] below meth c H1 locs1 _ _ _ (F0 m 285 ls [.int r]) from ?_)
  refine lv_aload_n hx hb dL_law_285 rfl (lv_at hl 2 rfl) ?_
  refine lw_inv F hlt (a := 145) (is := []) (rest := [.int r]) (A0 := fun q : Nat => s.heap.size ≤ q) e2 ra_190.1 ra_190.2.1 (by rw [ra_190.2.2.1]; exact Nat.le_of_ble_eq_true rfl) (by decide) (by rw [ra_190.2.2.2.1]; decide) lw_w_lk_190 (by rw [ra_190.2.2.2.2.1, ra_190.2.2.2.2.2.1, ra_190.2.2.2.2.2.2]; exact ⟨by decide, by decide⟩) dL_law_286 hP1 (lw_hb hg hP1 hO1) hS1 (fun q hq _ => hS1.2.1 q hq (Nat.not_le.mpr hq)) (fun q h => h.1) hl.1 (Nat.le_of_ble_eq_true rfl) ⟨by show cells + 0 ≤ 601024; omega, by show slots + 0 ≤ 7293033; omega⟩ ?_ (fun n9 e9 => by cases e9)
  intro v9 e9 H2 locs2 hP2 hS2 hz9 hk2
  cases e9
  have hO2 := lw_ok hO1 hk2
  refine (show W p l e room_1 s m #[Value.ref bs] below meth c H2 locs2 _ _ _ (F0 m 289 ls [.int r, .int r]) from ?_)
  refine W.widen (k := cells + 1) (n := slots + 6) (Nat.le_add_right _ _) (Nat.le_add_right _ _) ?_
  exact lv_icmp_eq (tgt := 1412) hx hb dL_law_289 (by decide) (fun _ => kk C2 B9 f H2 locs2 ls hI ⟨hP2, hO2, hS2⟩ hl) (fun h => absurd rfl h)
set_option maxHeartbeats 4000000 in
theorem cs_count (G : LwG p l s m c bs L xs dC dI ct g cL) (hM : LwM s dC dI ct g cL C f H locs) (hl : lv_has ls 7 (lwLs bs g i)) (hi : i + 6 ≤ L) (hc : cells + 2 ≤ 601024 ∧ slots + 12 ≤ 7293033) (hC : LCase 121 245 [xs (i + 1)] hx1 (fun n => n = 0) C) (kk : ∀ (C2 : AmC) (B : Big) (f1 : Nat → Int64) (H1 : Heap) (locs1 : List Loc) (ls1 : Array Slot), LInv C2 B → LwM s dC dI ct g cL C2 f1 H1 locs1 → lv_has ls1 7 (lwLs bs g i) → W p l e room_1 s m #[Value.ref bs] below meth c H1 locs1 (cells + 1) (slots + 6) Q (F0 m 1412 ls1 [])) : W p l e room_1 s m #[Value.ref bs] below meth c H locs cells slots Q (F0 m 294 ls []) := by
  obtain ⟨A, C1, C2, z, B9, e1, hok, e2, hA1, hA2, hI⟩ := hC
  obtain ⟨hlt, F, hKL, hNc, hXX, hbl, hob, hL⟩ := id G
  obtain ⟨hx, hb, hml, hown, hts, hK, hX, hg⟩ := id F
  obtain ⟨hP, hO, hS⟩ := hM
  refine lv_aload_n hx hb dL_law_294 rfl (lv_at hl 1 rfl) ?_
  refine lw_arg G (i := i) (j := 1) (jj := 1) hS (lv_at hl 0 rfl) (lv_at hl 4 rfl) (by omega) (by decide) dL_law_295 dL_law_296 dL_law_298 dL_law_299 dL_law_300 ?_
  refine lv_aload_n hx hb dL_law_301 rfl (lv_at hl 3 rfl) ?_
  refine lw_stat F (av := [.ref (g 0), .int (xs (i + 1)), .ref (g (amKN + 2))]) (rest := []) (wr_count hlt hg hob e1 hok) ⟨rfl, rfl⟩ ⟨by decide, by decide⟩ (lw_4 lw_w_wl_count lw_w_ws_count lw_w_ini lw_w_cw_count) lw_d_count hKL hNc hP hO hS (fun q hq _ => hS.2.1 q hq (Nat.not_le.mpr hq)) hl.1 (Nat.le_of_ble_eq_true rfl) dL_law_302 ⟨by show cells + 1 ≤ 601024; omega, by show slots + 6 ≤ 7293033; omega⟩ (fun r f1 H1 locs1 hT hP1 hO1 hS1 hz1 => ?_)
  obtain ⟨hth, hre⟩ := lw_ans hT hA1 hA2 (hx1_n hok)
  refine lv_istore (lv' := [(5, .int r), (0, .ref bs), (1, .ref (g 0)), (2, .ref (g 145)), (3, .ref (g (amKN + 2))), (4, .int (nI i))]) hx hb dL_law_305 hl (by decide) rfl (fun ls hl => ?_)
  refine lv_aload_n hx hb dL_law_307 rfl (lv_at hl 3 rfl) ?_
  refine lw_arg G (i := i) (j := 1) (jj := 1) hS1 (lv_at hl 1 rfl) (lv_at hl 5 rfl) (by omega) (by decide) dL_law_308 dL_law_309 dL_law_311 dL_law_312 dL_law_313 ?_
  refine lw_inv F hlt (a := 145) (is := [xs (i + 1)]) (rest := []) (A0 := fun q : Nat => s.heap.size ≤ q) e2 ra_245.1 ra_245.2.1 (by rw [ra_245.2.2.1]; exact Nat.le_of_ble_eq_true rfl) (by decide) (by rw [ra_245.2.2.2.1]; decide) lw_w_lk_245 (by rw [ra_245.2.2.2.2.1, ra_245.2.2.2.2.2.1, ra_245.2.2.2.2.2.2]; exact ⟨by decide, by decide⟩) dL_law_314 hP1 (lw_hb hg hP1 hO1) hS1 (fun q hq _ => hS1.2.1 q hq (Nat.not_le.mpr hq)) (fun q h => h.1) hl.1 (Nat.le_of_ble_eq_true rfl) ⟨by show cells + 1 ≤ 601024; omega, by show slots + 6 ≤ 7293033; omega⟩ ?_ (fun n9 e9 => by cases e9)
  intro v9 e9 H2 locs2 hP2 hS2 hz9 hk2
  cases e9
  have hO2 := lw_ok hO1 hk2
  refine (show W p l e room_1 s m #[Value.ref bs] below meth c H2 locs2 _ _ _ (F0 m 317 ls [.int z]) from ?_)
  refine lv_istore (lv' := [(6, .int z), (5, .int r), (0, .ref bs), (1, .ref (g 0)), (2, .ref (g 145)), (3, .ref (g (amKN + 2))), (4, .int (nI i))]) hx hb dL_law_317 hl (by decide) rfl (fun ls hl => ?_)
  refine lv_aload_n hx hb dL_law_319 rfl (lv_at hl 4 rfl) ?_
  refine lw_inv F hlt (a := 145) (is := []) (rest := []) (A0 := fun q : Nat => s.heap.size ≤ q) l_thrown ra_161.1 ra_161.2.1 (by rw [ra_161.2.2.1]; exact Nat.le_of_ble_eq_true rfl) (by decide) (by rw [ra_161.2.2.2.1]; decide) lw_w_lk_161 (by rw [ra_161.2.2.2.2.1, ra_161.2.2.2.2.2.1, ra_161.2.2.2.2.2.2]; exact ⟨by decide, by decide⟩) dL_law_320 hP2 (lw_hb hg hP2 hO2) hS2 (fun q hq _ => hS2.2.1 q hq (Nat.not_le.mpr hq)) (fun q h => h.1) hl.1 (Nat.le_of_ble_eq_true rfl) ⟨by show cells + 1 ≤ 601024; omega, by show slots + 6 ≤ 7293033; omega⟩ ?_ (fun n9 e9 => by cases e9)
  intro v9 e9 H3 locs3 hP3 hS3 hz9 hk3
  cases e9
  have hO3 := lw_ok hO2 hk3
  refine (show W p l e room_1 s m #[Value.ref bs] below meth c H3 locs3 _ _ _ (F0 m 323 ls [.int (cI C2 145 5)]) from ?_)
  refine lv_iload hx hb dL_law_323 (lv_at hl 1 rfl) ?_
  refine lv_icmp_eq (tgt := 330) hx hb dL_law_325 (by decide) (fun _ => ?_) (fun h => absurd hth h)
  have fin : ∀ (ls1 : Array Slot), lv_has ls1 7 [(6, .int z), (5, .int r), (0, .ref bs), (1, .ref (g 0)), (2, .ref (g 145)), (3, .ref (g (amKN + 2))), (4, .int (nI i))] → W p l e room_1 s m #[Value.ref bs] below meth c H3 locs3 (cells + 1) (slots + 6) Q (F0 m 1412 ls1 []) := fun ls1 hl1 => kk C2 B9 f1 H3 locs3 ls1 hI ⟨hP3, hO3, hS3⟩ (lv_sub hl1 [2, 3, 4, 5, 6] rfl)
  refine W.widen (k := cells + 1) (n := slots + 6) (Nat.le_refl _) (Nat.le_refl _) ?_
  refine lv_iload hx hb dL_law_330 (lv_at hl 1 rfl) ?_
  refine lv_if_ne (tgt := 347) hx hb dL_law_332 (by decide) (fun _ => lv_goto (tgt := 1412) hx hb dL_law_347 (by decide) (fin ls hl)) (fun h0 => ?_)
  refine lv_aload_n hx hb dL_law_335 rfl (lv_at hl 5 rfl) ?_
  refine lv_iconst (v := 0) hx hb dL_law_336 (by decide) ?_
  refine lw_lald G hO3 dL_law_337 ?_
  refine lv_iload hx hb dL_law_338 (lv_at hl 0 rfl) ?_
  refine lv_i2l hx hb dL_law_340 rfl ?_
  refine W.lcmp hx hb dL_law_341 ?_
  exact lv_if_eq (tgt := 347) hx hb dL_law_342 (by decide) (fun _ => lv_goto (tgt := 1412) hx hb dL_law_347 (by decide) (fin ls hl)) (fun h => absurd (by rw [hre h0]; exact lw_cmp _) h)
set_option maxHeartbeats 4000000 in
theorem cs_cell (G : LwG p l s m c bs L xs dC dI ct g cL) (hM : LwM s dC dI ct g cL C f H locs) (hl : lv_has ls 7 (lwLs bs g i)) (hi : i + 6 ≤ L) (hc : cells + 2 ≤ 601024 ∧ slots + 12 ≤ 7293033) (hC : LCase 122 247 [xs (i + 1), xs (i + 2)] hx1 (fun n => n = 0) C) (kk : ∀ (C2 : AmC) (B : Big) (f1 : Nat → Int64) (H1 : Heap) (locs1 : List Loc) (ls1 : Array Slot), LInv C2 B → LwM s dC dI ct g cL C2 f1 H1 locs1 → lv_has ls1 7 (lwLs bs g i) → W p l e room_1 s m #[Value.ref bs] below meth c H1 locs1 (cells + 1) (slots + 6) Q (F0 m 1412 ls1 [])) : W p l e room_1 s m #[Value.ref bs] below meth c H locs cells slots Q (F0 m 350 ls []) := by
  obtain ⟨A, C1, C2, z, B9, e1, hok, e2, hA1, hA2, hI⟩ := hC
  obtain ⟨hlt, F, hKL, hNc, hXX, hbl, hob, hL⟩ := id G
  obtain ⟨hx, hb, hml, hown, hts, hK, hX, hg⟩ := id F
  obtain ⟨hP, hO, hS⟩ := hM
  refine lv_aload_n hx hb dL_law_350 rfl (lv_at hl 1 rfl) ?_
  refine lw_arg G (i := i) (j := 1) (jj := 1) hS (lv_at hl 0 rfl) (lv_at hl 4 rfl) (by omega) (by decide) dL_law_351 dL_law_352 dL_law_354 dL_law_355 dL_law_356 ?_
  refine lw_arg G (i := i) (j := 2) (jj := 2) hS (lv_at hl 0 rfl) (lv_at hl 4 rfl) (by omega) (by decide) dL_law_357 dL_law_358 dL_law_360 dL_law_361 dL_law_362 ?_
  refine lv_aload_n hx hb dL_law_363 rfl (lv_at hl 3 rfl) ?_
  refine lw_stat F (av := [.ref (g 0), .int (xs (i + 1)), .int (xs (i + 2)), .ref (g (amKN + 2))]) (rest := []) (wr_cell hlt hg hob e1 hok) ⟨rfl, rfl⟩ ⟨by decide, by decide⟩ (lw_4 lw_w_wl_cell lw_w_ws_cell lw_w_ini lw_w_cw_cell) lw_d_cell hKL hNc hP hO hS (fun q hq _ => hS.2.1 q hq (Nat.not_le.mpr hq)) hl.1 (Nat.le_of_ble_eq_true rfl) dL_law_364 ⟨by show cells + 1 ≤ 601024; omega, by show slots + 6 ≤ 7293033; omega⟩ (fun r f1 H1 locs1 hT hP1 hO1 hS1 hz1 => ?_)
  obtain ⟨hth, hre⟩ := lw_ans hT hA1 hA2 (hx1_n hok)
  refine lv_istore (lv' := [(5, .int r), (0, .ref bs), (1, .ref (g 0)), (2, .ref (g 145)), (3, .ref (g (amKN + 2))), (4, .int (nI i))]) hx hb dL_law_367 hl (by decide) rfl (fun ls hl => ?_)
  refine lv_aload_n hx hb dL_law_369 rfl (lv_at hl 3 rfl) ?_
  refine lw_arg G (i := i) (j := 1) (jj := 1) hS1 (lv_at hl 1 rfl) (lv_at hl 5 rfl) (by omega) (by decide) dL_law_370 dL_law_371 dL_law_373 dL_law_374 dL_law_375 ?_
  refine lw_arg G (i := i) (j := 2) (jj := 2) hS1 (lv_at hl 1 rfl) (lv_at hl 5 rfl) (by omega) (by decide) dL_law_376 dL_law_377 dL_law_379 dL_law_380 dL_law_381 ?_
  refine lw_inv F hlt (a := 145) (is := [xs (i + 1), xs (i + 2)]) (rest := []) (A0 := fun q : Nat => s.heap.size ≤ q) e2 ra_247.1 ra_247.2.1 (by rw [ra_247.2.2.1]; exact Nat.le_of_ble_eq_true rfl) (by decide) (by rw [ra_247.2.2.2.1]; decide) lw_w_lk_247 (by rw [ra_247.2.2.2.2.1, ra_247.2.2.2.2.2.1, ra_247.2.2.2.2.2.2]; exact ⟨by decide, by decide⟩) dL_law_382 hP1 (lw_hb hg hP1 hO1) hS1 (fun q hq _ => hS1.2.1 q hq (Nat.not_le.mpr hq)) (fun q h => h.1) hl.1 (Nat.le_of_ble_eq_true rfl) ⟨by show cells + 1 ≤ 601024; omega, by show slots + 6 ≤ 7293033; omega⟩ ?_ (fun n9 e9 => by cases e9)
  intro v9 e9 H2 locs2 hP2 hS2 hz9 hk2
  cases e9
  have hO2 := lw_ok hO1 hk2
  refine (show W p l e room_1 s m #[Value.ref bs] below meth c H2 locs2 _ _ _ (F0 m 385 ls [.int z]) from ?_)
  refine lv_istore (lv' := [(6, .int z), (5, .int r), (0, .ref bs), (1, .ref (g 0)), (2, .ref (g 145)), (3, .ref (g (amKN + 2))), (4, .int (nI i))]) hx hb dL_law_385 hl (by decide) rfl (fun ls hl => ?_)
  refine lv_aload_n hx hb dL_law_387 rfl (lv_at hl 4 rfl) ?_
  refine lw_inv F hlt (a := 145) (is := []) (rest := []) (A0 := fun q : Nat => s.heap.size ≤ q) l_thrown ra_161.1 ra_161.2.1 (by rw [ra_161.2.2.1]; exact Nat.le_of_ble_eq_true rfl) (by decide) (by rw [ra_161.2.2.2.1]; decide) lw_w_lk_161 (by rw [ra_161.2.2.2.2.1, ra_161.2.2.2.2.2.1, ra_161.2.2.2.2.2.2]; exact ⟨by decide, by decide⟩) dL_law_388 hP2 (lw_hb hg hP2 hO2) hS2 (fun q hq _ => hS2.2.1 q hq (Nat.not_le.mpr hq)) (fun q h => h.1) hl.1 (Nat.le_of_ble_eq_true rfl) ⟨by show cells + 1 ≤ 601024; omega, by show slots + 6 ≤ 7293033; omega⟩ ?_ (fun n9 e9 => by cases e9)
  intro v9 e9 H3 locs3 hP3 hS3 hz9 hk3
  cases e9
  have hO3 := lw_ok hO2 hk3
  refine (show W p l e room_1 s m #[Value.ref bs] below meth c H3 locs3 _ _ _ (F0 m 391 ls [.int (cI C2 145 5)]) from ?_)
  refine lv_iload hx hb dL_law_391 (lv_at hl 1 rfl) ?_
  refine lv_icmp_eq (tgt := 398) hx hb dL_law_393 (by decide) (fun _ => ?_) (fun h => absurd hth h)
  have fin : ∀ (ls1 : Array Slot), lv_has ls1 7 [(6, .int z), (5, .int r), (0, .ref bs), (1, .ref (g 0)), (2, .ref (g 145)), (3, .ref (g (amKN + 2))), (4, .int (nI i))] → W p l e room_1 s m #[Value.ref bs] below meth c H3 locs3 (cells + 1) (slots + 6) Q (F0 m 1412 ls1 []) := fun ls1 hl1 => kk C2 B9 f1 H3 locs3 ls1 hI ⟨hP3, hO3, hS3⟩ (lv_sub hl1 [2, 3, 4, 5, 6] rfl)
  refine W.widen (k := cells + 1) (n := slots + 6) (Nat.le_refl _) (Nat.le_refl _) ?_
  refine lv_iload hx hb dL_law_398 (lv_at hl 1 rfl) ?_
  refine lv_if_ne (tgt := 415) hx hb dL_law_400 (by decide) (fun _ => lv_goto (tgt := 1412) hx hb dL_law_415 (by decide) (fin ls hl)) (fun h0 => ?_)
  refine lv_aload_n hx hb dL_law_403 rfl (lv_at hl 5 rfl) ?_
  refine lv_iconst (v := 0) hx hb dL_law_404 (by decide) ?_
  refine lw_lald G hO3 dL_law_405 ?_
  refine lv_iload hx hb dL_law_406 (lv_at hl 0 rfl) ?_
  refine lv_i2l hx hb dL_law_408 rfl ?_
  refine W.lcmp hx hb dL_law_409 ?_
  exact lv_if_eq (tgt := 415) hx hb dL_law_410 (by decide) (fun _ => lv_goto (tgt := 1412) hx hb dL_law_415 (by decide) (fin ls hl)) (fun h => absurd (by rw [hre h0]; exact lw_cmp _) h)
set_option maxHeartbeats 4000000 in
theorem cs_along (G : LwG p l s m c bs L xs dC dI ct g cL) (hM : LwM s dC dI ct g cL C f H locs) (hl : lv_has ls 7 (lwLs bs g i)) (hi : i + 6 ≤ L) (hc : cells + 2 ≤ 601024 ∧ slots + 12 ≤ 7293033) (hC : LCase 123 249 [xs (i + 1), xs (i + 2)] hx1 (fun n => n = 0) C) (kk : ∀ (C2 : AmC) (B : Big) (f1 : Nat → Int64) (H1 : Heap) (locs1 : List Loc) (ls1 : Array Slot), LInv C2 B → LwM s dC dI ct g cL C2 f1 H1 locs1 → lv_has ls1 7 (lwLs bs g i) → W p l e room_1 s m #[Value.ref bs] below meth c H1 locs1 (cells + 1) (slots + 6) Q (F0 m 1412 ls1 [])) : W p l e room_1 s m #[Value.ref bs] below meth c H locs cells slots Q (F0 m 418 ls []) := by
  obtain ⟨A, C1, C2, z, B9, e1, hok, e2, hA1, hA2, hI⟩ := hC
  obtain ⟨hlt, F, hKL, hNc, hXX, hbl, hob, hL⟩ := id G
  obtain ⟨hx, hb, hml, hown, hts, hK, hX, hg⟩ := id F
  obtain ⟨hP, hO, hS⟩ := hM
  refine lv_aload_n hx hb dL_law_418 rfl (lv_at hl 1 rfl) ?_
  refine lw_arg G (i := i) (j := 1) (jj := 1) hS (lv_at hl 0 rfl) (lv_at hl 4 rfl) (by omega) (by decide) dL_law_419 dL_law_420 dL_law_422 dL_law_423 dL_law_424 ?_
  refine lw_arg G (i := i) (j := 2) (jj := 2) hS (lv_at hl 0 rfl) (lv_at hl 4 rfl) (by omega) (by decide) dL_law_425 dL_law_426 dL_law_428 dL_law_429 dL_law_430 ?_
  refine lv_aload_n hx hb dL_law_431 rfl (lv_at hl 3 rfl) ?_
  refine lw_stat F (av := [.ref (g 0), .int (xs (i + 1)), .int (xs (i + 2)), .ref (g (amKN + 2))]) (rest := []) (wr_along hlt hg hob e1 hok) ⟨rfl, rfl⟩ ⟨by decide, by decide⟩ (lw_4 lw_w_wl_along lw_w_ws_along lw_w_ini lw_w_cw_along) lw_d_along hKL hNc hP hO hS (fun q hq _ => hS.2.1 q hq (Nat.not_le.mpr hq)) hl.1 (Nat.le_of_ble_eq_true rfl) dL_law_432 ⟨by show cells + 1 ≤ 601024; omega, by show slots + 6 ≤ 7293033; omega⟩ (fun r f1 H1 locs1 hT hP1 hO1 hS1 hz1 => ?_)
  obtain ⟨hth, hre⟩ := lw_ans hT hA1 hA2 (hx1_n hok)
  refine lv_istore (lv' := [(5, .int r), (0, .ref bs), (1, .ref (g 0)), (2, .ref (g 145)), (3, .ref (g (amKN + 2))), (4, .int (nI i))]) hx hb dL_law_435 hl (by decide) rfl (fun ls hl => ?_)
  refine lv_aload_n hx hb dL_law_437 rfl (lv_at hl 3 rfl) ?_
  refine lw_arg G (i := i) (j := 1) (jj := 1) hS1 (lv_at hl 1 rfl) (lv_at hl 5 rfl) (by omega) (by decide) dL_law_438 dL_law_439 dL_law_441 dL_law_442 dL_law_443 ?_
  refine lw_arg G (i := i) (j := 2) (jj := 2) hS1 (lv_at hl 1 rfl) (lv_at hl 5 rfl) (by omega) (by decide) dL_law_444 dL_law_445 dL_law_447 dL_law_448 dL_law_449 ?_
  refine lw_inv F hlt (a := 145) (is := [xs (i + 1), xs (i + 2)]) (rest := []) (A0 := fun q : Nat => s.heap.size ≤ q) e2 ra_249.1 ra_249.2.1 (by rw [ra_249.2.2.1]; exact Nat.le_of_ble_eq_true rfl) (by decide) (by rw [ra_249.2.2.2.1]; decide) lw_w_lk_249 (by rw [ra_249.2.2.2.2.1, ra_249.2.2.2.2.2.1, ra_249.2.2.2.2.2.2]; exact ⟨by decide, by decide⟩) dL_law_450 hP1 (lw_hb hg hP1 hO1) hS1 (fun q hq _ => hS1.2.1 q hq (Nat.not_le.mpr hq)) (fun q h => h.1) hl.1 (Nat.le_of_ble_eq_true rfl) ⟨by show cells + 1 ≤ 601024; omega, by show slots + 6 ≤ 7293033; omega⟩ ?_ (fun n9 e9 => by cases e9)
  intro v9 e9 H2 locs2 hP2 hS2 hz9 hk2
  cases e9
  have hO2 := lw_ok hO1 hk2
  refine (show W p l e room_1 s m #[Value.ref bs] below meth c H2 locs2 _ _ _ (F0 m 453 ls [.int z]) from ?_)
  refine lv_istore (lv' := [(6, .int z), (5, .int r), (0, .ref bs), (1, .ref (g 0)), (2, .ref (g 145)), (3, .ref (g (amKN + 2))), (4, .int (nI i))]) hx hb dL_law_453 hl (by decide) rfl (fun ls hl => ?_)
  refine lv_aload_n hx hb dL_law_455 rfl (lv_at hl 4 rfl) ?_
  refine lw_inv F hlt (a := 145) (is := []) (rest := []) (A0 := fun q : Nat => s.heap.size ≤ q) l_thrown ra_161.1 ra_161.2.1 (by rw [ra_161.2.2.1]; exact Nat.le_of_ble_eq_true rfl) (by decide) (by rw [ra_161.2.2.2.1]; decide) lw_w_lk_161 (by rw [ra_161.2.2.2.2.1, ra_161.2.2.2.2.2.1, ra_161.2.2.2.2.2.2]; exact ⟨by decide, by decide⟩) dL_law_456 hP2 (lw_hb hg hP2 hO2) hS2 (fun q hq _ => hS2.2.1 q hq (Nat.not_le.mpr hq)) (fun q h => h.1) hl.1 (Nat.le_of_ble_eq_true rfl) ⟨by show cells + 1 ≤ 601024; omega, by show slots + 6 ≤ 7293033; omega⟩ ?_ (fun n9 e9 => by cases e9)
  intro v9 e9 H3 locs3 hP3 hS3 hz9 hk3
  cases e9
  have hO3 := lw_ok hO2 hk3
  refine (show W p l e room_1 s m #[Value.ref bs] below meth c H3 locs3 _ _ _ (F0 m 459 ls [.int (cI C2 145 5)]) from ?_)
  refine lv_iload hx hb dL_law_459 (lv_at hl 1 rfl) ?_
  refine lv_icmp_eq (tgt := 466) hx hb dL_law_461 (by decide) (fun _ => ?_) (fun h => absurd hth h)
  have fin : ∀ (ls1 : Array Slot), lv_has ls1 7 [(6, .int z), (5, .int r), (0, .ref bs), (1, .ref (g 0)), (2, .ref (g 145)), (3, .ref (g (amKN + 2))), (4, .int (nI i))] → W p l e room_1 s m #[Value.ref bs] below meth c H3 locs3 (cells + 1) (slots + 6) Q (F0 m 1412 ls1 []) := fun ls1 hl1 => kk C2 B9 f1 H3 locs3 ls1 hI ⟨hP3, hO3, hS3⟩ (lv_sub hl1 [2, 3, 4, 5, 6] rfl)
  refine W.widen (k := cells + 1) (n := slots + 6) (Nat.le_refl _) (Nat.le_refl _) ?_
  refine lv_iload hx hb dL_law_466 (lv_at hl 1 rfl) ?_
  refine lv_if_ne (tgt := 483) hx hb dL_law_468 (by decide) (fun _ => lv_goto (tgt := 1412) hx hb dL_law_483 (by decide) (fin ls hl)) (fun h0 => ?_)
  refine lv_aload_n hx hb dL_law_471 rfl (lv_at hl 5 rfl) ?_
  refine lv_iconst (v := 0) hx hb dL_law_472 (by decide) ?_
  refine lw_lald G hO3 dL_law_473 ?_
  refine lv_iload hx hb dL_law_474 (lv_at hl 0 rfl) ?_
  refine lv_i2l hx hb dL_law_476 rfl ?_
  refine W.lcmp hx hb dL_law_477 ?_
  exact lv_if_eq (tgt := 483) hx hb dL_law_478 (by decide) (fun _ => lv_goto (tgt := 1412) hx hb dL_law_483 (by decide) (fin ls hl)) (fun h => absurd (by rw [hre h0]; exact lw_cmp _) h)
end LwCs
