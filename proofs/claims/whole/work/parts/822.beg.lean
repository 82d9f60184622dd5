/-! The law, from its entry. -/
section LwB
variable {p : Program} {l : Launch} {e : Env} {R : Room} {s : State} {m : MethodId} {args : Array Value} {below : List Frame} {meth : Method} {c : Code} {Q : State → Prop} {cc : ByteArray} {own : String} {nL : Nat} {dC : Nat → ClassId} {dI : Nat → Nat → Nat} {ct : Nat → ClassId} {g : Nat → Nat} {b z0 s0 : Nat} {pc : Nat} {ll : AmL} {st : List Value} {M : AmM}
/-- a constructor -/
theorem sn_init (F : AmF p s m args meth c own cc nL dC dI ct g b z0 true) (hlt : l.stackTraces = false) {k idx a : Nat} {M' : AmM} (hE : En true k 0 (lv_args 0 [.ref a]) [] M (.inl none) M') (hk : aK k = 2) (hna : (aA k).1 = 1) (hcat : 1 ≤ (aA k).2.1) (hlk : Cond.methodLink own idx (aY k) ∈ amTB) (hfr : aF k + 1 ≤ R.frames ∧ 8 + (aN k + 11) + aL k ≤ R.locals) (hst : amCat st ≤ 8) (hr3 : mZ M' - z0 ≤ R.cells) (hr4 : mS M' - s0 ≤ R.slots) (hKN : mZ M' ≤ amKN) (hd : decode cc pc = .ok (.invokespecial idx, 3)) (k9 : AmG p l e R s m args below meth c Q nL dC dI ct g b z0 s0 true (pc + 3) ll st M') : AmG p l e R s m args below meth c Q nL dC dI ct g b z0 s0 true pc ll (.ref a :: st) M := by
  obtain ⟨hx, hb, hml, hown, hts, hK, hX, hb0, hlk9, hg, hex⟩ := F
  intro H locs ls hP hS hl h1 h2 h3
  refine W_size (fun hH => ?_)
  obtain ⟨n, hn⟩ := hE
  obtain ⟨op, hP0⟩ := am_has hn
  have hMo := am_hMo k 0 op hP0
  have hgr := amRun_grow hn
  have hM := am_met (ax_run (l := l) hlt (dC := dC) (dI := dI) (ct := ct) (x := true) hg n) hMo hg hn hcat hKN
  have q1 : mZ M - z0 + (mZ M' - mZ M + amXc (.inl none)) = mZ M' - z0 := by
    simp only [amXc]
    omega
  have q2 : mS M - s0 + (mS M' - mS M + amXs (.inl none)) = mS M' - s0 := by
    simp only [amXs]
    omega
  obtain ⟨hpl, hcode, hini, hdd, hloc, hpc, hk0, hk1, hk2⟩ := hMo
  obtain ⟨m1, m2, m3⟩ := hk2 hk
  have hU : ∀ U : State, U.heap = H → s.WarmedH U.vm → amPre dC dI ct g b true [.ref a] M (Value.ref (g a) :: ([] : List Value)).toArray U := by
    intro U hU hW
    refine ⟨rfl, by rw [hU]; exact hP, va_K.moved hW.alike hK, amSX_go hX hW hU hS, by rw [hU]; exact hb0.up hS.1, fun _ => ?_⟩
    have w1 := am_top hg hP hS hb0 h3
    have w2 := hex rfl
    rw [hU]
    omega
  have hdd' : (aY k).cls ≠ "java/lang/invoke/MethodHandle" ∧ (aY k).cls ≠ "java/lang/invoke/VarHandle" ∧ (parseMethodDescriptor (aY k).desc).map (fun d => d.parameters.length) = some 0 := by
    rw [if_neg (by omega), hna] at hdd
    exact hdd
  have hws9 : amWsO aY aC aN aR k = Cond.code (aY k) (aC k) (aN k) none :: amTB := by
    unfold amWsO
    rw [m3]
  have hB := callB_of (R := R) (s := s) (args := args) (own := own) (index := idx) (y := aY k) (bytes := aC k) (maxL := aN k) (ret := none) (rm := amRm aF aL k (mZ M' - mZ M + amXc (.inl none)) (mS M' - mS M + amXs (.inl none))) (mc := mZ M' - mZ M + amXc (.inl none)) (ms := mS M' - mS M + amXs (.inl none)) 0 hts (amWsO_good hcode) hws9 rfl rfl (hts _ hini) (hts _ hlk) hdd' hfr
  have hrun := vx_runI (e := e) (below := below) (meth := meth) (H := H) (locs := locs) (cells := mZ M - z0) (slots := mS M - s0) (b := g a) (As := []) (rest := cvs g st) (g := F0 m pc ls (cvs g (.ref a :: st))) ⟨hx, hb, hml, hown, hts⟩ hM ⟨hB, m2, hts _ m1⟩
    ⟨amPre_blind, hU⟩ rfl rfl hl.1 rfl (lv_room (Nat.le_trans (Nat.le_of_eq (am_cats g _)) hst)) hd ⟨by rw [q1]; exact hr3, by rw [q2]; exact hr4⟩
  refine am_after hrun hS (fun v hv H1 locs1 hP1 hS1 => ?_) (fun n9 e9 => by cases e9)
  cases hv
  rw [q1, q2]
  exact k9 H1 locs1 ls hP1 hS1 hl (by omega) (by omega) hKN
end LwB
theorem lw_flags {l : Launch} (h : l.flags = flags0) : l.stackTraces = false := by
  unfold Launch.stackTraces
  rw [h]
  decide
/-- where the cells lie -/
def lwg (b tK tW o : Nat) (a : Nat) : Nat := if a < 198 then b + a else if a = 198 then tK else if a = 199 then tW else if a = 200 then o else 0
theorem lwg_o {b tK tW o1 o2 : Nat} : ∀ a, a ≠ 200 → lwg b tK tW o1 a = lwg b tK tW o2 a := by
  intro a ha
  unfold lwg
  rw [if_neg ha, if_neg ha]
/-- the two constructors -/
theorem aM_ex : ∃ M1 : AmM, mZ M1 = 145 ∧ mS M1 = 21721 ∧ En true 117 0 [(0, .ref 0)] [] (mNew aM0 9 0 16) (.inl none) M1 ∧ ∃ M2 : AmM, mZ M2 = aZ ∧ mS M2 = aS ∧ En true 159 0 [(0, .ref 145)] [] (mNew M1 10 0 90) (.inl none) M2 ∧ ∀ (ct : Nat → ClassId) (g : Nat → Nat), amWs ct g M2 = amWs ct g (mkM aC0) :=
  ⟨aM1, aM_z.1, aM_z.2.1, ⟨4000, aR1_e⟩, aM2, aM_z.2.2.1, aM_z.2.2.2, ⟨4000, aR2_e⟩, aWs0⟩
set_option maxHeartbeats 4000000 in
/-- THE LAW, from its entry -/
theorem whole_start {p : Program} {e : Env} {s : State} {m : MethodId} {below : List Frame} {meth : Method} {c : Code} (l : Launch) (hflags : l.flags = flags0) {b L : Nat} {xs : Nat → Int32} (hL : L ≤ 3072) (C0 : lw_At p s m meth c b L xs) : W p l e room_1 s m #[Value.ref b] below meth c s.heap [] 0 0 (lw_Z below #[Value.ref b] s) (entryFrame m ([Value.ref b] : List Value).toArray 7) := by
  obtain ⟨hx, hb, hr, hml, hown, hts, hX, hbl, hlocks, hgv⟩ := id C0
  have hlt := lw_flags hflags
  have htb : ∀ w ∈ amTB, w.before #[Value.ref b] s = true := fun w hw => hts w (List.mem_filter.mp hw).1
  obtain ⟨tK, tW, hsx⟩ := st_sx hts hgv
  have sx0 := hsx (lwg s.heap.size tK tW b) s.heap.size rfl rfl (fun a ha h => absurd h.1 (Nat.not_le.mpr ha))
  obtain ⟨dC, dI, ct, hK⟩ := st_K htb sx0.2.2.2.1 sx0.2.2.2.2.1
  have hNc : va_Nc "java/lang/IllegalArgumentException" "java/util/NoSuchElementException" s := va_Nc.of (flat_of_before _ hgv _ (nr_all _ (List.mem_of_getElem? (i := 10) rfl)))
  have hg1 : amHg (lwg s.heap.size tK tW b) s.heap.size := ⟨fun a ha => if_pos ha, Or.inl hbl⟩
  have F : AmF p s m #[Value.ref b] meth c RL code 7 dC dI ct (lwg s.heap.size tK tW b) s.heap.size 0 true := ⟨hx, hb, hml, hown, htb, hK, sx0, ⟨Nat.le_refl _, hbl⟩, hlocks, hg1, fun _ => rfl⟩
  obtain ⟨M1, z1, s1, e1, M2, z2, s2, e2, w2⟩ := aM_ex
  have A16 : AmG p l e room_1 s m #[Value.ref b] below meth c (lw_Z below #[Value.ref b] s) 7 dC dI ct (lwg s.heap.size tK tW b) s.heap.size 0 0 true 16 [(2, .ref 145), (1, .ref 0), (0, .ref 200)] [] M2 := by
    intro H locs ls hP hS hl h1 h2 h3
    have hl : lv_has ls 7 [(2, .ref (lwg s.heap.size tK tW b 145)), (1, .ref (lwg s.heap.size tK tW b 0)), (0, .ref b)] := hl
    have hD := amWs_D (ct := ct) (M := M2) hg1 h3
    have hD9 : va_D (fun q : Nat => s.heap.size ≤ q) (amWs ct (lwg s.heap.size tK tW b) M2) := hD.weaken (fun _ _ _ h => h.1)
    have hS9 : va_S (fun q : Nat => s.heap.size ≤ q) s.heap H locs := ⟨hS.1, fun q a1 a2 => hS.2.1 q a1 (fun z => a2 z.1), fun q hq => (hS.2.2 q hq).1⟩
    rw [z2, s2]
    refine lv_iconst (v := 1) hx hb dL_law_16 (by decide) ?_
    refine va_newa (D := (dC, dI)) (atype := .long) (ty := .long) (N' := 1) (a0 := (1, .inr (.inl (fun _ => 0)))) hx hb (htb _ lw_w_al) rfl hK hP hD9 hS9 (fun q h => h) (fun cA => rfl) (by decide) (by decide) (by decide) (by decide) (by decide) dL_law_17 (fun q cL H1 hK1 hP1 hD1 hS1 => ?_)
    obtain ⟨hPm, hPo⟩ := lw_pl hP1
    have hq : s.heap.size + 198 ≤ q := by
      have e6 : (amWs ct (lwg s.heap.size tK tW b) M2 ++ [(q, (.inl (cL, (1, .inr (.inl (fun _ => 0)))) : va_E))])[(amWs ct (lwg s.heap.size tK tW b) M2).length]? = some (q, .inl (cL, (1, .inr (.inl (fun _ => 0))))) := by
        rw [List.getElem?_append_right (Nat.le_refl _), Nat.sub_self]
        rfl
      have hq0 : s.heap.size ≤ q := hD1.2 _ _ e6
      by_cases hlt9 : q < s.heap.size + 198
      · exfalso
        have hk : q - s.heap.size < mZ M2 := by
          rw [z2]
          unfold aZ
          omega
        have e5 : (amWs ct (lwg s.heap.size tK tW b) M2 ++ [(q, (.inl (cL, (1, .inr (.inl (fun _ => 0)))) : va_E))])[q - s.heap.size]? = some (lwg s.heap.size tK tW b (q - s.heap.size), amE ct (lwg s.heap.size tK tW b) M2 (q - s.heap.size)) := by
          rw [List.getElem?_append_left (by rw [amWs_len]; exact hk), amWs_get hk]
        have h6 := hD1.1 _ _ _ _ e5 e6 (by
          show lwg s.heap.size tK tW b (q - s.heap.size) = q
          rw [hg1.1 _ (by rw [z2] at hk; exact hk)]
          omega)
        rw [amWs_len] at h6
        omega
      · omega
    have G : LwG p l s m c b L xs dC dI ct (lwg s.heap.size tK tW q) cL := ⟨hlt, ⟨hx, hb, hml, hown, htb, hK, hsx (lwg s.heap.size tK tW q) s.heap.size rfl rfl (fun a ha h => absurd h.1 (Nat.not_le.mpr ha)), fun a ha => if_pos ha, Or.inr hq⟩, hK1.sub [5] rfl, hNc, hX, hbl, Nat.le_trans (Nat.le_add_right _ 198) hq, hL⟩
    have hM : LwM s dC dI ct (lwg s.heap.size tK tW q) cL aC0 (fun _ => 0) H1 locs := ⟨lw_g lwg_o (by rw [← w2]; exact hPm), hPo, hS1⟩
    refine lv_astore_n (lv' := [(3, .ref q), (2, .ref (lwg s.heap.size tK tW b 145)), (1, .ref (lwg s.heap.size tK tW b 0)), (0, .ref b)]) hx hb dL_law_19 rfl hl (by decide) rfl (fun ls hl => ?_)
    refine lv_iconst (v := 0) hx hb dL_law_20 (by decide) ?_
    refine lv_istore (lv' := [(4, .int 0), (3, .ref q), (2, .ref (lwg s.heap.size tK tW b 145)), (1, .ref (lwg s.heap.size tK tW b 0)), (0, .ref b)]) hx hb dL_law_21 hl (by decide) rfl (fun ls hl => ?_)
    refine W.widen (k := 199 + 0) (n := 46951 + 6 * 0) (by decide) (by decide) ?_
    refine law_loop G hr hlocks (L + 1) 0 (by omega) (Nat.zero_le _) aC0 aB0 (fun _ => 0) H1 locs ls aI0 hM ?_
    show lv_has ls 7 [(0, .ref b), (1, .ref (lwg s.heap.size tK tW b 0)), (2, .ref (lwg s.heap.size tK tW b 145)), (3, .ref q), (4, .int (nI 0))]
    rw [nI_0]
    exact lv_sub hl [4, 3, 2, 1, 0] rfl
  have A15 : AmG p l e room_1 s m #[Value.ref b] below meth c (lw_Z below #[Value.ref b] s) 7 dC dI ct (lwg s.heap.size tK tW b) s.heap.size 0 0 true 15 [(1, .ref 0), (0, .ref 200)] [.ref 145] M2 := sn_astore_n (f := 2) (j := 2) F rfl (by decide) dL_law_15 A16
  have A12 : AmG p l e room_1 s m #[Value.ref b] below meth c (lw_Z below #[Value.ref b] s) 7 dC dI ct (lwg s.heap.size tK tW b) s.heap.size 0 0 true 12 [(1, .ref 0), (0, .ref 200)] [.ref 145, .ref 145] (mNew M1 10 0 90) := sn_init F hlt (k := 159) e2 ra_159.1 ra_159.2.1 (by rw [ra_159.2.2.1]; decide) lw_w_lk_159 (by rw [ra_159.2.2.2.2.1, ra_159.2.2.2.2.2.1, ra_159.2.2.2.2.2.2]; exact ⟨by decide, by decide⟩) (by decide) (by rw [z2]; decide) (by rw [s2]; decide) (by rw [z2]; decide) dL_law_12 A15
  have A11 : AmG p l e room_1 s m #[Value.ref b] below meth c (lw_Z below #[Value.ref b] s) 7 dC dI ct (lwg s.heap.size tK tW b) s.heap.size 0 0 true 11 [(1, .ref 0), (0, .ref 200)] [.ref 145] (mNew M1 10 0 90) := sn_dup F rfl dL_law_11 A12
  have A8 : AmG p l e room_1 s m #[Value.ref b] below meth c (lw_Z below #[Value.ref b] s) 7 dC dI ct (lwg s.heap.size tK tW b) s.heap.size 0 0 true 8 [(1, .ref 0), (0, .ref 200)] [] M1 := sn_new F (ci := 10) rfl (by decide) lw_w_c66 (inL_at 10 rfl) (inL_at 15 rfl) (by rw [z1]; decide) (by rw [s1]; decide) (by rw [z1]; decide) dL_law_8 (by rw [z1]; exact A11)
  have A7 : AmG p l e room_1 s m #[Value.ref b] below meth c (lw_Z below #[Value.ref b] s) 7 dC dI ct (lwg s.heap.size tK tW b) s.heap.size 0 0 true 7 [(0, .ref 200)] [.ref 0] M1 := sn_astore_n (f := 1) (j := 1) F rfl (by decide) dL_law_7 A8
  have A4 : AmG p l e room_1 s m #[Value.ref b] below meth c (lw_Z below #[Value.ref b] s) 7 dC dI ct (lwg s.heap.size tK tW b) s.heap.size 0 0 true 4 [(0, .ref 200)] [.ref 0, .ref 0] (mNew aM0 9 0 16) := sn_init F hlt (k := 117) e1 ra_117.1 ra_117.2.1 (by rw [ra_117.2.2.1]; decide) lw_w_lk_117 (by rw [ra_117.2.2.2.2.1, ra_117.2.2.2.2.2.1, ra_117.2.2.2.2.2.2]; exact ⟨by decide, by decide⟩) (by decide) (by rw [z1]; decide) (by rw [s1]; decide) (by rw [z1]; decide) dL_law_4 A7
  have A3 : AmG p l e room_1 s m #[Value.ref b] below meth c (lw_Z below #[Value.ref b] s) 7 dC dI ct (lwg s.heap.size tK tW b) s.heap.size 0 0 true 3 [(0, .ref 200)] [.ref 0] (mNew aM0 9 0 16) := sn_dup F rfl dL_law_3 A4
  have A0 : AmG p l e room_1 s m #[Value.ref b] below meth c (lw_Z below #[Value.ref b] s) 7 dC dI ct (lwg s.heap.size tK tW b) s.heap.size 0 0 true 0 [(0, .ref 200)] [] aM0 := sn_new F (ci := 9) rfl (by decide) lw_w_c8 (inL_at 9 rfl) (inL_at 14 rfl) (by decide) (by decide) (by decide) dL_law_0 A3
  have hl := lv_entry ([.ref b]) (n := 7) (Nat.le_of_ble_eq_true rfl)
  rw [lg_entry_eq]
  generalize (lg_sl ([.ref b]) ++ List.replicate (7 - (lg_sl ([.ref b])).length) Slot.unset).toArray = ls at hl ⊢
  have hl : lv_has ls 7 [(0, .ref b)] := hl
  exact A0 s.heap [] ls (fun k q h => absurd (amWs_at h).1 (Nat.not_lt_zero k)) va_S.rf hl (Nat.le_refl _) (Nat.le_refl _) (by decide)
