/-! Every step on the class's text of words is the machine's. -/
theorem ax_hz : HZq := fun _ _ _ _ h => h.2.2.2.2.2.2.2.2.2.2.2
theorem ax_txt {l : Launch} : AmTxt l aY aC aN aR aF aL aPc aA aP := by
  intro p e R s m args below meth c Q z0 s0 dC dI ct g b x k i i' op ll l' st st' M M1 hP hsp F hr3 hr4 hS G
  obtain ⟨F0', hnm, hrt, hxf, hRf, hRl⟩ := F
  have hs := at_site hP hsp
  obtain ⟨p1, p2, p3, p4⟩ := at_pc
  obtain ⟨e1, e2, e3, e4⟩ := at_de
  obtain ⟨⟨q1, o1⟩, o2, ⟨q3, o3⟩, o4⟩ := at_op
  obtain ⟨f1, f2, f3⟩ := at_f
  simp only [atS, List.mem_cons, List.not_mem_nil, or_false, Prod.mk.injEq] at hs
  rcases hs with ⟨rfl, rfl⟩ | ⟨rfl, rfl⟩ | ⟨rfl, rfl⟩ | ⟨rfl, rfl⟩
  · rw [o1] at hP
    cases hP
    rw [f3] at F0'
    simp only [amStep, amGo, Option.some.injEq, Sum.inl.injEq, Prod.mk.injEq] at hS
    obtain ⟨rfl, rfl, rfl, rfl⟩ := hS
    exact sn_ldcT F0' e1 (by rw [← p1]; exact G)
  · rw [o2] at hP
    cases hP
    rw [f3] at F0'
    simp only [amStep, amGo] at hS
    split at hS <;> first | (cases hS; done) | skip
    split at hS <;> first | (cases hS; done) | skip
    rename_i hc9
    cases hS
    obtain ⟨rfl, hc⟩ := hc9
    exact sn_len ax_hz F0' hc (Nat.le_trans f1 hRf) (Nat.le_trans f2 hRl) hr3 hr4 e2 (by rw [← p2]; exact G)
  · rw [o3] at hP
    cases hP
    rw [f3] at F0'
    simp only [amStep, amGo, Option.some.injEq, Sum.inl.injEq, Prod.mk.injEq] at hS
    obtain ⟨rfl, rfl, rfl, rfl⟩ := hS
    exact sn_ldcT F0' e3 (by rw [← p3]; exact G)
  · rw [o4] at hP
    cases hP
    rw [f3] at F0'
    simp only [amStep, amGo] at hS
    split at hS <;> first | (cases hS; done) | skip
    split at hS <;> first | (cases hS; done) | skip
    rename_i hc9
    cases hS
    obtain ⟨rfl, hc1, hc2⟩ := hc9
    exact sn_chr ax_hz F0' hc1 hc2 (Nat.le_trans f1 hRf) (Nat.le_trans f2 hRl) hr3 hr4 e4 (by rw [← p4]; exact G)
/-- runs of the abstract machine are the machine's -/
theorem ax_run {l : Launch} (hlt : l.stackTraces = false) {dC : Nat → ClassId} {dI : Nat → Nat → Nat} {ct : Nat → ClassId} {g : Nat → Nat} {b : Nat} {x : Bool} (hg : amHg g b) : ∀ n, AmRn l aY aC aN aR aF aL aPc aA aP dC dI ct g b x n := am_run_ok am_hOK am_hMo (ax_thr hlt) ax_txt hg
