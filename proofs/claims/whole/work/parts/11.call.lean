/-! Calls: what is so behind one, and that a frame's facts are the callee's too. -/
theorem amSX_same {g : Nat → Nat} {b : Nat} {u U : State} {H : Heap} (hv : u.vm = U.vm) (h : amSX g b u H) : amSX g b U H := by
  obtain ⟨h1, h2, h3, h4, h5, h6, h7, h8, h9, ⟨adV, h10⟩, h11, h12⟩ := h
  have hA : u.vm.Alike U.vm := by rw [hv]; exact Vm.Alike.refl _
  refine ⟨fun w hw hn => ?_, h2.moved hA, h3.moved hA, h4.moved hA, h5.moved hA, fun q hq => ?_, h7.moved hA, h8.moved hA, h9.same hv.symm, ⟨adV, h10.moved hA⟩, h11.moved hA, h12.moved hA⟩
  · have hz := h1 w hw hn
    cases w <;> simp [amNest] at hn
    · exact va_Nw.same rfl hv hz
    · exact va_Nw.same rfl hv hz
    · exact va_Nw.same rfl hv hz
    · exact va_Nw.same rfl hv hz
  · obtain ⟨sa, ha⟩ := h6 q hq
    exact ⟨sa, ha.same hv.symm⟩
section AmCall
variable {p : Program} {l : Launch} {e : Env} {R : Room} {s : State} {m : MethodId} {args : Array Value} {below : List Frame} {meth : Method} {c : Code} {Q : State → Prop} {cc : ByteArray} {own : String} {nL : Nat} {dC : Nat → ClassId} {dI : Nat → Nat → Nat} {ct : Nat → ClassId} {g : Nat → Nat} {b z0 s0 : Nat} {x : Bool} {pc : Nat} {ll : AmL} {st : List Value} {M : AmM}
/-- what a method's start has -/
def amPre (dC : Nat → ClassId) (dI : Nat → Nat → Nat) (ct : Nat → ClassId) (g : Nat → Nat) (b : Nat) (x : Bool) (av : List Value) (M : AmM) : Array Value → State → Prop :=
  va_Pc (cvs g av) (fun U => va_P (dC, dI) vwCl (amWs ct g M) U.heap ∧ va_K (dC, dI) vwCl (amTys ct) U ∧ amSX g b U U.heap ∧ amHb g b U.heap.size ∧ (x = true → U.heap.size = b + mZ M))
theorem amPre_blind {av : List Value} : FrameBlind (amPre dC dI ct g b x av M) := by
  intro a U gg mk q
  obtain ⟨q0, q1, q2, q3, q4, q5⟩ := q
  exact ⟨q0, q1, va_K.moved (u := U) (U := U.calling gg mk a) (Vm.Alike.refl U.vm) q2, amSX_same (u := U) (U := U.calling gg mk a) rfl q3, q4, q5⟩
/-- behind a call: it goes on, or the exception goes on -/
theorem am_after {H : Heap} {locs : List Loc} {ls : Array Slot} {cells slots mc ms : Nat} {st0 rest : List Value} {a : Array Value} {o : AmO} {M' : AmM} (hr : vx_Run p l e R s m args below meth c H locs cells slots mc ms (F0 m pc ls st0) rest (amQ dC dI ct g b o M' a) (amX dC dI ct g b o M') (amA g b)) (hS : va_S (amA g b) s.heap H locs)
    (kr : ∀ v, o = .inl v → ∀ (H1 : Heap) (locs1 : List Loc), va_P (dC, dI) vwCl (amWs ct g M') H1 → va_S (amA g b) s.heap H1 locs1 → W p l e R s m args below meth c H1 locs1 (cells + mc) (slots + ms) Q (F0 m (pc + 3) ls ((v.map (cv g)).toList ++ rest)))
    (kt : ∀ n, o = .inr n → ∀ (H1 : Heap) (locs1 : List Loc) (q : Addr) (ce : Cell), va_P (dC, dI) vwCl (amWs ct g M') H1 → va_S (amA g b) s.heap H1 locs1 → H1[q]? = some ce → ce.vm = .none → s.vm.findClass (amEx n) = some ce.cls → vx_W p l e R s m args below meth c H1 locs1 (cells + mc) (slots + ms) Q (F0 m pc ls rest) q) :
    W p l e R s m args below meth c H locs cells slots Q (F0 m pc ls st0) := by
  intro T hT X
  rcases hr T hT X with ⟨v, st₀, t, T', L, h0, X', hL, e1, e2, ⟨v9, ho, hv, hP, hF⟩, stp⟩ | ⟨q, st₀, t, T', L, E, ce, h0, X', hL, e1, e2, ⟨n, ho, hE, hP, hF⟩, hce, hcv, hcl, stp⟩
  · cases hv
    obtain ⟨k1, k2, k3⟩ := vx_keep h0 e1 hS (fun _ _ h => h) (fun _ h => h) hL hF
    obtain ⟨t2, a1, b1⟩ := kr v9 ho T'.heap (locs ++ L) (by rw [e1]; exact hP) k3 T' rfl X'
    exact ⟨t2, stp t2 a1, b1⟩
  · obtain ⟨k1, k2, k3⟩ := vx_keep h0 e1 hS (fun _ _ h => h) (fun _ h => h) hL hF
    subst hE
    obtain ⟨t2, a1, b1⟩ := kt n ho T'.heap (locs ++ L) q ce (by rw [e1]; exact hP) k3 (by rw [e1]; exact hce) hcv hcl T' rfl X'
    exact ⟨t2, stp.trans a1, b1⟩
end AmCall
