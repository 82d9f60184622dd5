/-! The table is good. -/
theorem am_grp {p : Nat → Bool} {a n : Nat} (h : (List.range n).all (fun j => p (a + j)) = true) : ∀ k, a ≤ k → k < a + n → p k = true := by
  intro k h1 h2
  have h3 := List.all_eq_true.mp h (k - a) (List.mem_range.mpr (by omega))
  rwa [Nat.add_sub_cancel' h1] at h3
theorem amChk_all : ∀ k, k < 289 → amChk k = true := by
  intro k hk
  by_cases h0 : k < 16
  · exact am_grp (a := 0) amChk0 k (by omega) (by omega)
  by_cases h1 : k < 32
  · exact am_grp (a := 16) amChk1 k (by omega) (by omega)
  by_cases h2 : k < 48
  · exact am_grp (a := 32) amChk2 k (by omega) (by omega)
  by_cases h3 : k < 64
  · exact am_grp (a := 48) amChk3 k (by omega) (by omega)
  by_cases h4 : k < 80
  · exact am_grp (a := 64) amChk4 k (by omega) (by omega)
  by_cases h5 : k < 96
  · exact am_grp (a := 80) amChk5 k (by omega) (by omega)
  by_cases h6 : k < 112
  · exact am_grp (a := 96) amChk6 k (by omega) (by omega)
  by_cases h7 : k < 128
  · exact am_grp (a := 112) amChk7 k (by omega) (by omega)
  by_cases h8 : k < 144
  · exact am_grp (a := 128) amChk8 k (by omega) (by omega)
  by_cases h9 : k < 160
  · exact am_grp (a := 144) amChk9 k (by omega) (by omega)
  by_cases h10 : k < 176
  · exact am_grp (a := 160) amChk10 k (by omega) (by omega)
  by_cases h11 : k < 192
  · exact am_grp (a := 176) amChk11 k (by omega) (by omega)
  by_cases h12 : k < 208
  · exact am_grp (a := 192) amChk12 k (by omega) (by omega)
  by_cases h13 : k < 224
  · exact am_grp (a := 208) amChk13 k (by omega) (by omega)
  by_cases h14 : k < 240
  · exact am_grp (a := 224) amChk14 k (by omega) (by omega)
  by_cases h15 : k < 256
  · exact am_grp (a := 240) amChk15 k (by omega) (by omega)
  by_cases h16 : k < 272
  · exact am_grp (a := 256) amChk16 k (by omega) (by omega)
  by_cases h17 : k < 288
  · exact am_grp (a := 272) amChk17 k (by omega) (by omega)
  exact am_grp (a := 288) amChk18 k (by omega) (by omega)
theorem amMb_all : ∀ k, k < 289 → amMb k = true := by
  intro k hk
  by_cases h0 : k < 16
  · exact am_grp (a := 0) amMb0 k (by omega) (by omega)
  by_cases h1 : k < 32
  · exact am_grp (a := 16) amMb1 k (by omega) (by omega)
  by_cases h2 : k < 48
  · exact am_grp (a := 32) amMb2 k (by omega) (by omega)
  by_cases h3 : k < 64
  · exact am_grp (a := 48) amMb3 k (by omega) (by omega)
  by_cases h4 : k < 80
  · exact am_grp (a := 64) amMb4 k (by omega) (by omega)
  by_cases h5 : k < 96
  · exact am_grp (a := 80) amMb5 k (by omega) (by omega)
  by_cases h6 : k < 112
  · exact am_grp (a := 96) amMb6 k (by omega) (by omega)
  by_cases h7 : k < 128
  · exact am_grp (a := 112) amMb7 k (by omega) (by omega)
  by_cases h8 : k < 144
  · exact am_grp (a := 128) amMb8 k (by omega) (by omega)
  by_cases h9 : k < 160
  · exact am_grp (a := 144) amMb9 k (by omega) (by omega)
  by_cases h10 : k < 176
  · exact am_grp (a := 160) amMb10 k (by omega) (by omega)
  by_cases h11 : k < 192
  · exact am_grp (a := 176) amMb11 k (by omega) (by omega)
  by_cases h12 : k < 208
  · exact am_grp (a := 192) amMb12 k (by omega) (by omega)
  by_cases h13 : k < 224
  · exact am_grp (a := 208) amMb13 k (by omega) (by omega)
  by_cases h14 : k < 240
  · exact am_grp (a := 224) amMb14 k (by omega) (by omega)
  by_cases h15 : k < 256
  · exact am_grp (a := 240) amMb15 k (by omega) (by omega)
  by_cases h16 : k < 272
  · exact am_grp (a := 256) amMb16 k (by omega) (by omega)
  by_cases h17 : k < 288
  · exact am_grp (a := 272) amMb17 k (by omega) (by omega)
  exact am_grp (a := 288) amMb18 k (by omega) (by omega)
theorem amTab_end {k : Nat} (hk : 289 ≤ k) : amTab k = [] := by
  unfold amTab
  split
  · rename_i h; exfalso; omega
  · rename_i h; exfalso; omega
  · rename_i h; exfalso; omega
  · rename_i h; exfalso; omega
  · rename_i h; exfalso; omega
  · rename_i h; exfalso; omega
  · rename_i h; exfalso; omega
  · rename_i h; exfalso; omega
  · rename_i h; exfalso; omega
  · rename_i h; exfalso; omega
  · rename_i h; exfalso; omega
  · rename_i h; exfalso; omega
  · rename_i h; exfalso; omega
  · rename_i h; exfalso; omega
  · rename_i h; exfalso; omega
  · rename_i h; exfalso; omega
  · rename_i h; exfalso; omega
  · rename_i h; exfalso; omega
  · rename_i h
    rw [List.getD_eq_getElem?_getD, List.getElem?_eq_none (by show 1 ≤ k % 16; omega)]
    rfl
  · rfl
theorem aP_in {k i : Nat} {op : Instr} (h : aP k i = some op) : k < 289 ∧ i < (amTab k).length := by
  have h1 : i < (amTab k).length := by
    rcases Nat.lt_or_ge i (amTab k).length with q | q
    · exact q
    · unfold aP amEnt at h
      rw [List.getD_eq_getElem?_getD, List.getElem?_eq_none q] at h
      cases h
  refine ⟨?_, h1⟩
  rcases Nat.lt_or_ge k 289 with q | q
  · exact q
  · rw [amTab_end q] at h1
    exact absurd h1 (Nat.not_lt_zero _)
theorem am_cwof {ws : List Cond} (ps : List Nat) (hp : ws = ps.filterMap (fun i => lw_tbl[i]?)) (h : ws.all (fun w => goodWord w || amNest w) = true) : ∀ w ∈ ws, w ∈ amTB ∨ (amNest w = true ∧ w ∈ lw_tbl) := by
  intro w hw
  have h1 := List.all_eq_true.mp h w hw
  rw [hp] at hw
  obtain ⟨i, -, hi⟩ := List.mem_filterMap.mp hw
  have h2 := List.mem_of_getElem? hi
  rcases Bool.or_eq_true _ _ ▸ h1 with h3 | h3
  · exact Or.inl (List.mem_filter.mpr ⟨h2, h3⟩)
  · exact Or.inr ⟨h3, h2⟩
theorem am_cw : ∀ c, ∀ w ∈ amCW c, w ∈ amTB ∨ (amNest w = true ∧ w ∈ lw_tbl) := by
  intro c
  unfold amCW
  split
  · exact am_cwof _ amCW0_at amCW0_ok
  · exact am_cwof _ amCW1_at amCW1_ok
  · exact am_cwof _ amCW2_at amCW2_ok
  · exact am_cwof _ amCW3_at amCW3_ok
  · exact am_cwof _ amCW4_at amCW4_ok
  · exact am_cwof _ amCW5_at amCW5_ok
  · exact am_cwof _ amCW6_at amCW6_ok
  · exact am_cwof _ amCW7_at amCW7_ok
  · exact am_cwof _ amCW8_at amCW8_ok
  · exact am_cwof _ amCW9_at amCW9_ok
  · exact am_cwof _ amCW10_at amCW10_ok
  · exact am_cwof _ amCW11_at amCW11_ok
  · intro w hw; cases hw
theorem am_hOK : ∀ k i op, aP k i = some op → amOk aY aC aN aR aF aL aK aPc aV aX aW k i op = true ∧ ∀ wd ∈ aW k i, wd ∈ amTB ∨ (amNest wd = true ∧ wd ∈ lw_tbl) := by
  intro k i op h
  obtain ⟨hk, hi⟩ := aP_in h
  constructor
  · have h1 := List.all_eq_true.mp (amChk_all k hk) i (List.mem_range.mpr hi)
    rw [h] at h1
    exact h1
  · intro wd hwd
    obtain ⟨j, -, hj⟩ := List.mem_filterMap.mp hwd
    exact am_cw _ wd (List.mem_of_getElem? hj)
set_option maxRecDepth 20000 in
theorem amCe0 : (List.range 16).map (fun j => Cond.code (aY (0 + j)) (aC (0 + j)) (aN (0 + j)) (aR (0 + j))) = ([.code yX0_init cX0_init 1 (none), .code yX0_start cX0_start 4 (none), .code yX0_startWithin cX0_startWithin 6 (none), .code yX0_narrow cX0_narrow 7 (none), .code yX0_startForOther cX0_startForOther 5 (none), .code yX0_next cX0_next 8 (some .int), .code yX0_isInRange cX0_isInRange 3 (some .boolean), .code yX0_rank cX0_rank 9 (some .long), .code yX1_init cX1_init 1 (none), .code yX1_empty cX1_empty 1 (none), .code yX1_copyFrom cX1_copyFrom 2 (none), .code yX1_push cX1_push 2 (none), .code yX1_pop cX1_pop 3 (none), .code yX2_init cX2_init 2 (none), .code yX2_parse cX2_parse 6 (some .int), .code yX2_cut cX2_cut 7 (none)] : List Cond) := rfl
set_option maxRecDepth 20000 in
theorem amCe1 : (List.range 16).map (fun j => Cond.code (aY (16 + j)) (aC (16 + j)) (aN (16 + j)) (aR (16 + j))) = ([.code yX2_isLetter cX2_isLetter 1 (some .boolean), .code yX2_isDigit cX2_isDigit 1 (some .boolean), .code yX2_isSign cX2_isSign 1 (some .boolean), .code yX2_addToken cX2_addToken 4 (none), .code yX2_addNumber cX2_addNumber 6 (none), .code yX2_addWord cX2_addWord 5 (none), .code yX2_wordKind cX2_wordKind 8 (some .int), .code yX2_kind cX2_kind 1 (some .int), .code yX2_number cX2_number 1 (some .int), .code yX2_refuse cX2_refuse 2 (some .boolean), .code yX2_pass cX2_pass 2 (some .boolean), .code yX2_readColumns cX2_readColumns 2 (some .boolean), .code yX2_readRow cX2_readRow 3 (some .boolean), .code yX2_readOther cX2_readOther 2 (some .boolean), .code yX2_readSigned cX2_readSigned 2 (some .boolean), .code yX2_readColumn cX2_readColumn 1 (some .boolean)] : List Cond) := rfl
set_option maxRecDepth 20000 in
theorem amCe2 : (List.range 16).map (fun j => Cond.code (aY (32 + j)) (aC (32 + j)) (aN (32 + j)) (aR (32 + j))) = ([.code yX2_readIndex cX2_readIndex 4 (some .boolean), .code yX2_begin cX2_begin 3 (some (.object RX8)), .code yX2_readUpdate cX2_readUpdate 2 (some .boolean), .code yX2_readDelete cX2_readDelete 1 (some .boolean), .code yX2_readInsert cX2_readInsert 2 (some .boolean), .code yX2_readMerge cX2_readMerge 3 (some .boolean), .code yX2_allow cX2_allow 3 (none), .code yX2_readSets cX2_readSets 4 (some .boolean), .code yX2_readValues cX2_readValues 3 (some .boolean), .code yX2_readWhere cX2_readWhere 5 (some .boolean), .code yX2_readValue cX2_readValue 3 (some .boolean), .code yX2_readAtom cX2_readAtom 3 (some .boolean), .code yX3_init cX3_init 2 (none), .code yX3_perform cX3_perform 7 (none), .code yX3_earlyEnd cX3_earlyEnd 1 (some .int), .code yX3_twice cX3_twice 3 (some .int)] : List Cond) := rfl
set_option maxRecDepth 20000 in
theorem amCe3 : (List.range 16).map (fun j => Cond.code (aY (48 + j)) (aC (48 + j)) (aN (48 + j)) (aR (48 + j))) = ([.code yX3_finish cX3_finish 4 (none), .code yX3_findDouble cX3_findDouble 2 (none), .code yX3_findDoubleAt cX3_findDoubleAt 5 (none), .code yX3_readTable cX3_readTable 4 (none), .code yX3_readForOthers cX3_readForOthers 7 (none), .code yX3_meet cX3_meet 4 (none), .code yX3_emptySpool cX3_emptySpool 4 (none), .code yX3_laysNewRow cX3_laysNewRow 2 (some .boolean), .code yX3_make cX3_make 6 (none), .code yX3_write cX3_write 3 (none), .code yX3_applyTo cX3_applyTo 6 (some .int), .code yX3_findClash cX3_findClash 2 (none), .code yX4_init cX4_init 1 (none), .code yX4_decide cX4_decide 8 (none), .code yX4_measure cX4_measure 7 (none), .code yX4_measureMerge cX4_measureMerge 10 (none)] : List Cond) := rfl
set_option maxRecDepth 20000 in
theorem amCe4 : (List.range 16).map (fun j => Cond.code (aY (64 + j)) (aC (64 + j)) (aN (64 + j)) (aR (64 + j))) = ([.code yX4_heldAt cX4_heldAt 5 (some .int), .code yX4_meetsItself cX4_meetsItself 8 (some .boolean), .code yX4_motion cX4_motion 8 (some .int), .code yX4_testsAsk cX4_testsAsk 5 (some .boolean), .code yX4_makingAsks cX4_makingAsks 3 (some .boolean), .code yX4_asks cX4_asks 9 (some .boolean), .code yX5_init cX5_init 1 (none), .code yX5_empty cX5_empty 1 (none), .code yX5_copyFrom cX5_copyFrom 2 (none), .code yX5_saveTo cX5_saveTo 3 (none), .code yX5_loadFrom cX5_loadFrom 4 (none), .code yX5_has cX5_has 2 (some .boolean), .code yX5_get cX5_get 3 (some .int), .code yX5_put cX5_put 4 (none), .code yX5_add cX5_add 2 (none), .code yX5_drop cX5_drop 2 (none)] : List Cond) := rfl
set_option maxRecDepth 20000 in
theorem amCe5 : (List.range 16).map (fun j => Cond.code (aY (80 + j)) (aC (80 + j)) (aN (80 + j)) (aR (80 + j))) = ([.code yX5_firstFree cX5_firstFree 2 (some .int), .code yX5_size cX5_size 1 (some .int), .code yX5_whole cX5_whole 7 (some .int), .code yX5_lacking cX5_lacking 8 (some .int), .code yX5_isLike cX5_isLike 6 (some .boolean), .code yX6_init cX6_init 2 (none), .code yX6_empty cX6_empty 1 (none), .code yX6_paths cX6_paths 1 (some .int), .code yX6_indexOf cX6_indexOf 1 (some .int), .code yX6_goesDown cX6_goesDown 1 (some .boolean), .code yX6_statement cX6_statement 2 (some (.object RX8)), .code yX6_addStatement cX6_addStatement 2 (some (.object RX8)), .code yX6_addIndex cX6_addIndex 4 (none), .code yX6_firstColumn cX6_firstColumn 2 (some .int), .code yX6_secondColumn cX6_secondColumn 2 (some .int), .code yX6_otherNumber cX6_otherNumber 3 (some .int)] : List Cond) := rfl
set_option maxRecDepth 20000 in
theorem amCe6 : (List.range 16).map (fun j => Cond.code (aY (96 + j)) (aC (96 + j)) (aN (96 + j)) (aR (96 + j))) = ([.code yX6_putOther cX6_putOther 4 (none), .code yX6_addAtom cX6_addAtom 4 (some .boolean), .code yX6_closeValue cX6_closeValue 2 (some .int), .code yX6_addTest cX6_addTest 4 (none), .code yX6_atomsOf cX6_atomsOf 2 (some .int), .code yX6_atomAt cX6_atomAt 4 (some .int), .code yX6_worth cX6_worth 8 (some .int), .code yX6_holds cX6_holds 9 (some .boolean), .code yX6_areAlike cX6_areAlike 7 (some .boolean), .code yX6_twins cX6_twins 5 (some .int), .code yX6_hasTwin cX6_hasTwin 5 (some .boolean), .code yX6_firstClash cX6_firstClash 3 (some .int), .code yX7_init cX7_init 1 (none), .code yX7_begin cX7_begin 2 (none), .code yX7_copyFrom cX7_copyFrom 2 (none), .code yX7_addSeen cX7_addSeen 4 (none)] : List Cond) := rfl
set_option maxRecDepth 20000 in
theorem amCe7 : (List.range 16).map (fun j => Cond.code (aY (112 + j)) (aC (112 + j)) (aN (112 + j)) (aR (112 + j))) = ([.code yX7_isSeenIn cX7_isSeenIn 3 (some .boolean), .code yX8_init cX8_init 1 (none), .code yX8_empty cX8_empty 3 (none), .code yX8_isSet cX8_isSet 2 (some .boolean), .code yX8_setCount cX8_setCount 3 (some .int), .code yX9_init cX9_init 2 (none), .code yX9_feed cX9_feed 6 (some .int), .code yX9_table cX9_table 4 (some .int), .code yX9_fault cX9_fault 1 (some .int), .code yX9_count cX9_count 2 (some .int), .code yX9_cell cX9_cell 3 (some .int), .code yX9_along cX9_along 5 (some .int), .code yX9_right cX9_right 3 (some .int), .code yX9_plan cX9_plan 4 (some .int), .code yX9_goes cX9_goes 5 (some .int), .code yX9_wrongPaths cX9_wrongPaths 4 (some .int)] : List Cond) := rfl
set_option maxRecDepth 20000 in
theorem amCe8 : (List.range 16).map (fun j => Cond.code (aY (128 + j)) (aC (128 + j)) (aN (128 + j)) (aR (128 + j))) = ([.code yX9_cheapest cX9_cheapest 7 (some .int), .code yX9_clashes cX9_clashes 4 (some .int), .code yX9_order cX9_order 4 (some .int), .code yX9_run cX9_run 2 (some .int), .code yX9_lay cX9_lay 5 (some .int), .code yX9_take cX9_take 2 (some .int), .code yX9_undo cX9_undo 1 (some .int), .code yX9_see cX9_see 5 (some .int), .code yX9_fits cX9_fits 3 (some .int), .code yX9_look cX9_look 8 (some .int), .code yX9_forget cX9_forget 1 (none), .code yX9_years cX9_years 10 (some .int), .code yX9_image cX9_image 1 (none), .code yX9_restore cX9_restore 1 (some .boolean), .code yX9_tapeNumber cX9_tapeNumber 3 (none), .code yX9_checkStatement cX9_checkStatement 2 (none)] : List Cond) := rfl
set_option maxRecDepth 20000 in
theorem amCe9 : (List.range 16).map (fun j => Cond.code (aY (144 + j)) (aC (144 + j)) (aN (144 + j)) (aR (144 + j))) = ([.code yX9_checkPath cX9_checkPath 2 (none), .code yX9_checkPlace cX9_checkPlace 2 (none), .code yX9_checkCell cX9_checkCell 3 (none), .code yX9_checkWhat cX9_checkWhat 2 (none), .code yX9_isPlace cX9_isPlace 1 (some .boolean), .code yX9_isColumn cX9_isColumn 2 (some .boolean), .code yX9_canHold cX9_canHold 1 (some .boolean), .code yX9_goRight cX9_goRight 3 (none), .code yX9_putByHand cX9_putByHand 6 (some .boolean), .code yX9_fitsBehind cX9_fitsBehind 2 (some .boolean), .code yX9_unlikeAt cX9_unlikeAt 9 (some .int), .code yX9_findOrder cX9_findOrder 6 (some .int), .code yX9_firstWritable cX9_firstWritable 7 (some .int), .code yX9_stirred cX9_stirred 1 (some .int), .code yX9_drawn cX9_drawn 2 (some .int), .code yX10_init cX10_init 1 (none)] : List Cond) := rfl
set_option maxRecDepth 20000 in
theorem amCe10 : (List.range 16).map (fun j => Cond.code (aY (160 + j)) (aC (160 + j)) (aN (160 + j)) (aR (160 + j))) = ([.code yX10_clears cX10_clears 2 (none), .code yX10_thrown cX10_thrown 1 (some .int), .code yX10_fine cX10_fine 3 (some .boolean), .code yX10_within cX10_within 3 (some .boolean), .code yX10_copies cX10_copies 5 (none), .code yX10_isLetter cX10_isLetter 1 (some .boolean), .code yX10_byteAt cX10_byteAt 2 (some .int), .code yX10_wordFrom cX10_wordFrom 7 (some .int), .code yX10_isSign cX10_isSign 1 (some .boolean), .code yX10_go cX10_go 2 (none), .code yX10_wants cX10_wants 3 (some .boolean), .code yX10_is cX10_is 2 (some .boolean), .code yX10_isSignHere cX10_isSignHere 2 (some .boolean), .code yX10_passes cX10_passes 2 (none), .code yX10_signed cX10_signed 3 (some .int), .code yX10_isColumnWord cX10_isColumnWord 1 (some .boolean)] : List Cond) := rfl
set_option maxRecDepth 20000 in
theorem amCe11 : (List.range 16).map (fun j => Cond.code (aY (176 + j)) (aC (176 + j)) (aN (176 + j)) (aR (176 + j))) = ([.code yX10_column cX10_column 2 (some .int), .code yX10_adds cX10_adds 5 (none), .code yX10_atom cX10_atom 5 (none), .code yX10_value cX10_value 5 (some .int), .code yX10_sets cX10_sets 5 (none), .code yX10_freshOnes cX10_freshOnes 4 (none), .code yX10_where cX10_where 4 (none), .code yX10_statement cX10_statement 3 (none), .code yX10_merge cX10_merge 2 (none), .code yX10_numbers cX10_numbers 4 (none), .code yX10_index cX10_index 3 (none), .code yX10_clause cX10_clause 1 (none), .code yX10_feed cX10_feed 8 (some .int), .code yX10_table cX10_table 3 (some .int), .code yX10_fault cX10_fault 1 (some .int), .code yX10_areLike cX10_areLike 9 (some .boolean)] : List Cond) := rfl
set_option maxRecDepth 20000 in
theorem amCe12 : (List.range 16).map (fun j => Cond.code (aY (192 + j)) (aC (192 + j)) (aN (192 + j)) (aR (192 + j))) = ([.code yX10_firstClash cX10_firstClash 8 (some .int), .code yX10_at cX10_at 3 (some .int), .code yX10_indexOf cX10_indexOf 2 (some .int), .code yX10_isDown cX10_isDown 1 (some .boolean), .code yX10_oneOf cX10_oneOf 3 (some .int), .code yX10_twoOf cX10_twoOf 3 (some .int), .code yX10_compared cX10_compared 8 (some .int), .code yX10_isBehind cX10_isBehind 4 (some .boolean), .code yX10_isAhead cX10_isAhead 5 (some .boolean), .code yX10_isInRange cX10_isInRange 7 (some .boolean), .code yX10_isAlone cX10_isAlone 3 (some .boolean), .code yX10_isSo cX10_isSo 3 (some .boolean), .code yX10_begins cX10_begins 2 (none), .code yX10_reads cX10_reads 4 (some .int), .code yX10_otherAt cX10_otherAt 3 (some .int), .code yX10_overAll cX10_overAll 7 (some .int)] : List Cond) := rfl
set_option maxRecDepth 20000 in
theorem amCe13 : (List.range 16).map (fun j => Cond.code (aY (208 + j)) (aC (208 + j)) (aN (208 + j)) (aR (208 + j))) = ([.code yX10_atomAt cX10_atomAt 4 (some .int), .code yX10_valueAt cX10_valueAt 7 (some .int), .code yX10_holds cX10_holds 3 (some .boolean), .code yX10_makes cX10_makes 7 (none), .code yX10_freePlace cX10_freePlace 2 (some .int), .code yX10_writes cX10_writes 6 (none), .code yX10_isNewOne cX10_isNewOne 2 (some .boolean), .code yX10_isGoneBy cX10_isGoneBy 2 (some .boolean), .code yX10_isKept cX10_isKept 2 (some .boolean), .code yX10_makesOf cX10_makesOf 3 (none), .code yX10_writesOf cX10_writesOf 2 (none), .code yX10_takes cX10_takes 6 (none), .code yX10_goesOn cX10_goesOn 6 (none), .code yX10_laysMade cX10_laysMade 4 (none), .code yX10_matches cX10_matches 8 (none), .code yX10_isDouble cX10_isDouble 4 (some .boolean)] : List Cond) := rfl
set_option maxRecDepth 20000 in
theorem amCe14 : (List.range 16).map (fun j => Cond.code (aY (224 + j)) (aC (224 + j)) (aN (224 + j)) (aR (224 + j))) = ([.code yX10_runs cX10_runs 5 (none), .code yX10_laysWork cX10_laysWork 3 (none), .code yX10_rightRun cX10_rightRun 4 (none), .code yX10_isSetBy cX10_isSetBy 3 (some .boolean), .code yX10_madeBy cX10_madeBy 4 (some .int), .code yX10_movedBy cX10_movedBy 4 (some .int), .code yX10_isMoved cX10_isMoved 5 (some .boolean), .code yX10_isMovedBack cX10_isMovedBack 6 (some .boolean), .code yX10_firstMoved cX10_firstMoved 5 (some .int), .code yX10_mayMeet cX10_mayMeet 5 (some .boolean), .code yX10_asksAll cX10_asksAll 5 (some .boolean), .code yX10_isAnyChanged cX10_isAnyChanged 2 (some .boolean), .code yX10_testsAsk cX10_testsAsk 3 (some .boolean), .code yX10_madeAsks cX10_madeAsks 5 (some .boolean), .code yX10_reasons cX10_reasons 3 (some .int), .code yX10_setMany cX10_setMany 4 (some .int)] : List Cond) := rfl
set_option maxRecDepth 20000 in
theorem amCe15 : (List.range 16).map (fun j => Cond.code (aY (240 + j)) (aC (240 + j)) (aN (240 + j)) (aR (240 + j))) = ([.code yX10_eachMade cX10_eachMade 2 (some .int), .code yX10_holdsFor cX10_holdsFor 8 (none), .code yX10_planned cX10_planned 6 (some .int), .code yX10_paths cX10_paths 1 (some .int), .code yX10_rowMany cX10_rowMany 4 (some .int), .code yX10_count cX10_count 2 (some .int), .code yX10_isCell cX10_isCell 3 (some .boolean), .code yX10_cell cX10_cell 3 (some .int), .code yX10_isPath cX10_isPath 2 (some .boolean), .code yX10_along cX10_along 5 (some .int), .code yX10_isStatement cX10_isStatement 2 (some .boolean), .code yX10_right cX10_right 3 (some .int), .code yX10_plan cX10_plan 6 (some .int), .code yX10_areRowsLike cX10_areRowsLike 5 (some .boolean), .code yX10_lacking cX10_lacking 6 (some .int), .code yX10_goesOtherwise cX10_goesOtherwise 5 (some .int)] : List Cond) := rfl
set_option maxRecDepth 20000 in
theorem amCe16 : (List.range 16).map (fun j => Cond.code (aY (256 + j)) (aC (256 + j)) (aN (256 + j)) (aR (256 + j))) = ([.code yX10_twice cX10_twice 3 (some .int), .code yX10_goes cX10_goes 6 (some .int), .code yX10_wrongPaths cX10_wrongPaths 4 (some .int), .code yX10_cheapest cX10_cheapest 8 (some .int), .code yX10_laysWide cX10_laysWide 3 (none), .code yX10_wideAt cX10_wideAt 2 (some .int), .code yX10_putsWide cX10_putsWide 5 (none), .code yX10_putsBack cX10_putsBack 4 (none), .code yX10_isClear cX10_isClear 1 (some .boolean), .code yX10_clashes cX10_clashes 4 (some .int), .code yX10_isOrdered cX10_isOrdered 5 (some .boolean), .code yX10_isPutWell cX10_isPutWell 2 (some .boolean), .code yX10_order cX10_order 4 (some .int), .code yX10_keptAt cX10_keptAt 2 (some .int), .code yX10_keeps cX10_keeps 1 (none), .code yX10_laysBack cX10_laysBack 3 (none)] : List Cond) := rfl
set_option maxRecDepth 20000 in
theorem amCe17 : (List.range 16).map (fun j => Cond.code (aY (272 + j)) (aC (272 + j)) (aN (272 + j)) (aR (272 + j))) = ([.code yX10_run cX10_run 2 (some .int), .code yX10_isLaid cX10_isLaid 7 (some .boolean), .code yX10_lay cX10_lay 5 (some .int), .code yX10_take cX10_take 2 (some .int), .code yX10_undo cX10_undo 1 (some .int), .code yX10_see cX10_see 4 (some .int), .code yX10_thought cX10_thought 2 (none), .code yX10_workAt cX10_workAt 3 (some .int), .code yX10_fits cX10_fits 5 (some .int), .code yX10_look cX10_look 8 (some .int), .code yX10_unlike cX10_unlike 7 (some .int), .code yX10_forget cX10_forget 1 (none), .code yX10_draw cX10_draw 2 (some .int), .code yX10_years cX10_years 10 (some .int), .code yX10_image cX10_image 2 (none), .code yX10_restore cX10_restore 2 (some .boolean)] : List Cond) := rfl
set_option maxRecDepth 20000 in
theorem amCe18 : (List.range 1).map (fun j => Cond.code (aY (288 + j)) (aC (288 + j)) (aN (288 + j)) (aR (288 + j))) = ([.code yJ6_bitCount_0f7a4 cJ6_bitCount_0f7a4 1 (some .int)] : List Cond) := rfl
theorem am_code {a n : Nat} {ws : List Cond} (ps : List Nat) (h1 : (List.range n).map (fun j => Cond.code (aY (a + j)) (aC (a + j)) (aN (a + j)) (aR (a + j))) = ws) (h2 : ws = ps.filterMap (fun i => lw_tbl[i]?)) : ∀ k, a ≤ k → k < a + n → Cond.code (aY k) (aC k) (aN k) (aR k) ∈ amTB := by
  intro k q1 q2
  have h3 : Cond.code (aY k) (aC k) (aN k) (aR k) ∈ ws := by
    rw [← h1]
    refine List.mem_map.mpr ⟨k - a, List.mem_range.mpr (by omega), ?_⟩
    rw [Nat.add_sub_cancel' q1]
  rw [h2] at h3
  obtain ⟨i, -, hi⟩ := List.mem_filterMap.mp h3
  exact List.mem_filter.mpr ⟨List.mem_of_getElem? hi, rfl⟩
theorem am_codes : ∀ k, k < 289 → Cond.code (aY k) (aC k) (aN k) (aR k) ∈ amTB := by
  intro k hk
  by_cases h0 : k < 16
  · exact am_code _ amCe0 amCd0 k (by omega) (by omega)
  by_cases h1 : k < 32
  · exact am_code _ amCe1 amCd1 k (by omega) (by omega)
  by_cases h2 : k < 48
  · exact am_code _ amCe2 amCd2 k (by omega) (by omega)
  by_cases h3 : k < 64
  · exact am_code _ amCe3 amCd3 k (by omega) (by omega)
  by_cases h4 : k < 80
  · exact am_code _ amCe4 amCd4 k (by omega) (by omega)
  by_cases h5 : k < 96
  · exact am_code _ amCe5 amCd5 k (by omega) (by omega)
  by_cases h6 : k < 112
  · exact am_code _ amCe6 amCd6 k (by omega) (by omega)
  by_cases h7 : k < 128
  · exact am_code _ amCe7 amCd7 k (by omega) (by omega)
  by_cases h8 : k < 144
  · exact am_code _ amCe8 amCd8 k (by omega) (by omega)
  by_cases h9 : k < 160
  · exact am_code _ amCe9 amCd9 k (by omega) (by omega)
  by_cases h10 : k < 176
  · exact am_code _ amCe10 amCd10 k (by omega) (by omega)
  by_cases h11 : k < 192
  · exact am_code _ amCe11 amCd11 k (by omega) (by omega)
  by_cases h12 : k < 208
  · exact am_code _ amCe12 amCd12 k (by omega) (by omega)
  by_cases h13 : k < 224
  · exact am_code _ amCe13 amCd13 k (by omega) (by omega)
  by_cases h14 : k < 240
  · exact am_code _ amCe14 amCd14 k (by omega) (by omega)
  by_cases h15 : k < 256
  · exact am_code _ amCe15 amCd15 k (by omega) (by omega)
  by_cases h16 : k < 272
  · exact am_code _ amCe16 amCd16 k (by omega) (by omega)
  by_cases h17 : k < 288
  · exact am_code _ amCe17 amCd17 k (by omega) (by omega)
  exact am_code _ amCe18 amCd18 k (by omega) (by omega)
theorem am_hMo : ∀ k i op, aP k i = some op → amMo aY aC aN aR aK aPc aA k := by
  intro k i op h
  obtain ⟨hk, -⟩ := aP_in h
  have h1 := amMb_all k hk
  simp only [amMb, amMs, Bool.and_eq_true, decide_eq_true_eq] at h1
  obtain ⟨h2, h3, h4, h5, h6, h7, h8, h9⟩ := h1
  have hw : ∀ w ∈ amMw k, w ∈ amTB := am_tbof (amMp k) h2 h3
  refine ⟨h4, am_codes k hk, ?_, h5, rfl, h6, fun q => ?_, fun q => ?_, fun q => ?_⟩
  · refine hw _ ?_
    unfold amMw
    split <;> exact List.mem_cons_self
  · have e : amMw k = [.initialized (aY k).cls, .instanceMethod (aY k), .selects (aY k).cls (aY k) (aY k)] := by simp only [amMw, q]
    rw [e] at hw
    exact ⟨hw _ (List.mem_cons_of_mem _ List.mem_cons_self), hw _ (List.mem_cons_of_mem _ (List.mem_cons_of_mem _ List.mem_cons_self)), (h7 q).1, (h7 q).2⟩
  · have e : amMw k = [.initialized (aY k).cls, .static (aY k)] := by simp only [amMw, q]
    rw [e] at hw
    exact hw _ (List.mem_cons_of_mem _ List.mem_cons_self)
  · have e : amMw k = [.initialized (aY k).cls, .instanceMethod (aY k)] := by simp only [amMw, q]
    rw [e] at hw
    exact ⟨hw _ (List.mem_cons_of_mem _ List.mem_cons_self), (h8 q).1, (h8 q).2⟩
