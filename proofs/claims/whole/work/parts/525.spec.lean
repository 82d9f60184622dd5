/-! What a text tells, as a mathematical value; and what is asked of it. -/
/-- sign, kind (0 number, 1 column, 2 other, 3 sum, 4 least, 5 most, 6 count), number or column -/
abbrev Atom : Type := Int32 × Nat × Int32
abbrev Val : Type := List Atom
abbrev Tst : Type := Val × Int32 × Val
/-- (kind: 0 update, 1 delete, 2 insert, 3 merge; how: 0 set, 1 gone, 2 kept; own column, other's), what is set, what a new row is, tests -/
abbrev Stm : Type := (Nat × Nat × Nat × Nat) × (Nat → Option Val) × (Nat → Option Val) × List Tst
/-- columns, indexes, keys, others, statements -/
abbrev Scr : Type := Nat × List (Nat × Option Nat) × Int32 × List (Nat → Int32) × List Stm
def sCols (S : Scr) : Nat := S.1
def sIdx (S : Scr) : List (Nat × Option Nat) := S.2.1
def sKeys (S : Scr) : Int32 := S.2.2.1
def sOth (S : Scr) : List (Nat → Int32) := S.2.2.2.1
def sStm (S : Scr) : List Stm := S.2.2.2.2
def ix1 (S : Scr) (i : Nat) : Nat := ((sIdx S).getD i (0, none)).1
def ix2 (S : Scr) (i : Nat) : Option Nat := ((sIdx S).getD i (0, none)).2
def othN (S : Scr) (o c : Nat) : Int32 := (sOth S).getD o (fun _ => 0) c
def tKd (t : Stm) : Nat := t.1.1
def tHow (t : Stm) : Nat := t.1.2.1
def tOwn (t : Stm) : Nat := t.1.2.2.1
def tOth (t : Stm) : Nat := t.1.2.2.2
def tSet (t : Stm) : Nat → Option Val := t.2.1
def tNew (t : Stm) : Nat → Option Val := t.2.2.1
def tTst (t : Stm) : List Tst := t.2.2.2
/-- 0 set, 1 gone, 2 kept, 3 copied -/
def tCh (t : Stm) : Nat := if tKd t = 0 then 0 else if tKd t = 1 then 1 else if tKd t = 2 then 3 else tHow t
def tAdds (t : Stm) : Bool := (tNew t 0).isSome
def oto (S : Scr) (o : Option Nat) (c : Nat) : Int32 := match o with
  | some q => othN S q c
  | none => 0
/-- an atom's worth for a row and one of others -/
def aVal (S : Scr) (T : Tab) (pl o : Option Nat) (a : Atom) : Int32 :=
  if a.2.1 = 0 then a.2.2 else if a.2.1 = 1 then tgo T pl a.2.2.toNatClampNeg else if a.2.1 = 2 then oto S o a.2.2.toNatClampNeg else (sWhole a.2.1 a.2.2.toNatClampNeg T).1
def aStep (S : Scr) (T : Tab) (pl o : Option Nat) (x : Int32) (a : Atom) : Int32 :=
  if a.1 = 42 then x * aVal S T pl o a else if a.1 = 45 then x - aVal S T pl o a else x + aVal S T pl o a
def sVal (S : Scr) (T : Tab) (pl o : Option Nat) (v : Val) : Int32 := v.foldl (aStep S T pl o) 0
def sSo (x sg y : Int32) : Bool := if sg = 60 then decide (x < y) else if sg = 62 then decide (y < x) else decide (x = y)
def sHolds (S : Scr) (T : Tab) (pl : Option Nat) (t : Stm) : Bool := (tTst t).all (fun q => sSo (sVal S T pl none q.1) q.2.1 (sVal S T pl none q.2.2))
/-! keys -/
def kEq (S : Scr) (T : Tab) (i p q : Nat) : Bool := decide (T.2 p (ix1 S i) = T.2 q (ix1 S i)) && (match ix2 S i with
  | none => true
  | some c => decide (T.2 p c = T.2 q c))
def twQ (N : Nat) (S : Scr) (T : Tab) (i p : Nat) : Option Nat := qf (fun q => T.1 q && kEq S T i p q) (N - (p + 1)) (p + 1)
def twP (N : Nat) (S : Scr) (T : Tab) (i : Nat) : Option Nat := qf (fun p => T.1 p && (twQ N S T i p).isSome) N 0
def sTwin (N : Nat) (S : Scr) (T : Tab) (i : Nat) : Option (Nat × Nat) := (twP N S T i).bind (fun p => (twQ N S T i p).map (fun q => (p, q)))
def sClash (N : Nat) (S : Scr) (T : Tab) : Option Nat := qf (fun i => bt (sKeys S) i && (sTwin N S T i).isSome) (sIdx S).length 0
/-- whether by a key another row is like the one at p -/
def sHasTwin (N : Nat) (S : Scr) (T : Tab) (p : Nat) : Bool := T.1 p && (qf (fun q => T.1 q && decide (q ≠ p) && (qf (fun i => bt (sKeys S) i && kEq S T i p q) (sIdx S).length 0).isSome) N 0).isSome
/-! paths -/
def pDown (path : Nat) : Bool := decide (0 < path) && decide (path % 2 = 0)
def pX (S : Scr) (path : Nat) (T : Tab) (p : Nat) : Int32 := if path = 0 then 0 else T.2 p (ix1 S ((path - 1) / 2))
def pY (S : Scr) (path : Nat) (T : Tab) (p : Nat) : Int32 := if path = 0 then 0 else match ix2 S ((path - 1) / 2) with
  | none => 0
  | some c => T.2 p c
def rk3 (path : Nat) (sec : Bool) (x y : Int32) (p : Nat) : Int := if path = 0 then (p : Int) else (if pDown path = true then -1 else 1) * (((x.toInt + 9999) * 19999 + (if sec = true then y.toInt + 9999 else 0)) * 30 + p)
def sRk (S : Scr) (path : Nat) (T : Tab) (p : Nat) : Int := rk3 path (ix2 S ((path - 1) / 2)).isSome (pX S path T p) (pY S path T p) p
/-- a test of the path's column against a number -/
def rgT (c : Nat) (q : Tst) : Option (Int32 × Int32) := match q.1, q.2.2 with
  | [a], [b] => if a.2.1 = 1 ∧ a.2.2 = nI c ∧ b.2.1 = 0 then some (q.2.1, b.2.2) else none
  | _, _ => none
/-- whether the path's first number is in the range -/
def rgX (S : Scr) (st : Option Stm) (path : Nat) (o : Option Nat) (x : Int32) : Bool := match st with
  | none => true
  | some t => if tKd t = 3 then (if ix1 S ((path - 1) / 2) = tOwn t then decide (x = othN S (o.getD 0) (tOth t)) else true) else (tTst t).all (fun q => match rgT (ix1 S ((path - 1) / 2)) q with
    | none => true
    | some (sg, b) => sSo x sg b)
def sRng (S : Scr) (st : Option Stm) (path : Nat) (o : Option Nat) (T : Tab) (p : Nat) : Bool := if path = 0 then true else rgX S st path o (T.2 p (ix1 S ((path - 1) / 2)))
def lOk (last : Option Int) (x : Int) : Bool := match last with
  | none => true
  | some y => decide (y < x)
def bLt (rk : Nat → Int) (x : Int) (b : Option Nat) : Bool := match b with
  | none => true
  | some q => decide (x < rk q)
def nxC (ok : Nat → Bool) (rk : Nat → Int) (last : Option Int) (p : Nat) (b : Option Nat) : Bool := ok p && lOk last (rk p) && bLt rk (rk p) b
def nxS (ok : Nat → Bool) (rk : Nat → Int) (last : Option Int) (p : Nat) (b : Option Nat) : Option Nat := if nxC ok rk last p b = true then some p else b
/-- the next row along a path -/
def sNext (ok : Nat → Bool) (rk : Nat → Int) (last : Option Int) : Option Nat := qo (nxS ok rk last) 30 0 none
/-! what holds of a text that was taken -/
def okN (v : Int32) : Prop := -9999 ≤ v.toInt ∧ v.toInt ≤ 9999
def AtomOK (cols : Nat) (a : Atom) : Prop := (a.1 = 42 ∨ a.1 = 43 ∨ a.1 = 45) ∧ ((a.2.1 = 0 ∧ okN a.2.2) ∨ (1 ≤ a.2.1 ∧ a.2.1 ≤ 6 ∧ ∃ c, c < cols ∧ a.2.2 = nI c))
def ValOK (cols : Nat) (oth col : Bool) (v : Val) : Prop := v ≠ [] ∧ v.length ≤ 450 ∧ ∀ a ∈ v, AtomOK cols a ∧ (a.2.1 = 2 → oth = true) ∧ (a.2.1 = 1 → col = true)
def VoOK (cols : Nat) (oth col : Bool) (v : Option Val) : Prop := ∀ w, v = some w → ValOK cols oth col w
def StmOK (cols : Nat) (t : Stm) : Prop :=
  tKd t ≤ 3 ∧ tHow t ≤ 2 ∧ (tKd t ≠ 3 → tHow t = 0 ∧ tOwn t = 0 ∧ tOth t = 0) ∧ tOwn t < cols ∧ tOth t < cols
  ∧ (∀ c, cols ≤ c → tSet t c = none ∧ tNew t c = none)
  ∧ (tKd t = 1 ∨ tKd t = 2 ∨ (tKd t = 3 ∧ tHow t ≠ 0) → ∀ c, tSet t c = none)
  ∧ (tKd t = 0 ∨ tKd t = 1 → ∀ c, tNew t c = none)
  ∧ (tKd t = 2 → ∀ c, c < cols → (tNew t c).isSome = true)
  ∧ (tKd t = 3 → (∀ c, c < cols → (tNew t c).isSome = true) ∨ ∀ c, tNew t c = none)
  ∧ (∀ c, VoOK cols (decide (tKd t = 3)) true (tSet t c))
  ∧ (∀ c, VoOK cols (decide (tKd t = 3)) (decide (tKd t ≠ 3)) (tNew t c))
  ∧ (tKd t = 3 → tTst t = [])
  ∧ ∀ q ∈ tTst t, ValOK cols false true q.1 ∧ (q.2.1 = 60 ∨ q.2.1 = 61 ∨ q.2.1 = 62) ∧ ValOK cols false true q.2.2
def ScrOK (S : Scr) : Prop :=
  1 ≤ sCols S ∧ sCols S ≤ 4 ∧ (sIdx S).length ≤ 3 ∧ (∀ q ∈ sIdx S, q.1 < sCols S ∧ ∀ c, q.2 = some c → c < sCols S ∧ c ≠ q.1)
  ∧ (∀ i, (sIdx S).length ≤ i → bt (sKeys S) i = false) ∧ (sOth S).length ≤ 10 ∧ (∀ f ∈ sOth S, ∀ c, c < sCols S → okN (f c)) ∧ (sStm S).length ≤ 8 ∧ ∀ t ∈ sStm S, StmOK (sCols S) t
def TabN (cols : Nat) (T : Tab) : Prop := ∀ p, p < 30 → T.1 p = true → ∀ c, c < cols → okN (T.2 p c)
/-! how the class's script bears it -/
def kC (k : Nat) : Int32 := if k = 0 then 128 else if k = 1 then 130 else if k = 2 then 202 else if k = 3 then 211 else if k = 4 then 212 else if k = 5 then 213 else 214
def AtC (C : AmC) (s j : Nat) (a : Atom) : Prop := cI C (s + 10) j = a.1 ∧ cI C (s + 11) j = kC a.2.1 ∧ cI C (s + 12) j = a.2.2
/-- value number k of the script at s is v -/
def VC (C : AmC) (s k : Nat) (v : Val) : Prop := ∃ vc a, cI C s 15 = nI vc ∧ vc ≤ 450 ∧ k < vc ∧ cI C (s + 13) k = nI a ∧ cI C (s + 13) (k + 1) = nI (a + v.length) ∧ a + v.length ≤ 450 ∧ ∀ i (h : i < v.length), AtC C s (a + i) v[i]
def VOC (C : AmC) (s : Nat) (x : Int32) (v : Option Val) : Prop := match v with
  | none => x = -1
  | some w => ∃ k, x = nI k ∧ VC C s k w
def StmC (cols : Nat) (C : AmC) (s a : Nat) (t : Stm) : Prop :=
  cI C a 0 = (if tKd t = 3 then 1 else 0) ∧ cI C a 1 = (if tAdds t = true then 1 else 0) ∧ cI C a 2 = nI (tCh t) ∧ cI C a 3 = nI (tOwn t) ∧ cI C a 4 = nI (tOth t)
  ∧ (∀ c, c < 4 → VOC C s (cI C (a + 1) c) (tSet t c)) ∧ (∀ c, c < 4 → VOC C s (cI C (a + 2) c) (tNew t c))
  ∧ ∃ f, cI C a 7 = nI f ∧ cI C a 8 = nI (tTst t).length ∧ f + (tTst t).length ≤ 450
  ∧ ∀ i (h : i < (tTst t).length), ∃ k, cI C (s + 14) (f + i) = (tTst t)[i].2.1 ∧ cI C (s + 15) (f + i) = nI k ∧ VC C s k (tTst t)[i].1 ∧ VC C s (k + 1) (tTst t)[i].2.2
def ScrC (C : AmC) (s : Nat) (S : Scr) : Prop :=
  cI C s 0 = nI (sCols S) ∧ cI C s 2 = nI (sIdx S).length ∧ (∀ i, i < (sIdx S).length → cI C (s + 3) i = nI (ix1 S i) ∧ cI C (s + 4) i = oI (ix2 S i))
  ∧ cI C s 5 = sKeys S ∧ cI C s 6 = nI (sOth S).length ∧ (∀ o, o < (sOth S).length → ∀ c, c < sCols S → cI C (s + 5) (o * 4 + c) = othN S o c)
  ∧ cI C s 8 = nI (sStm S).length ∧ ∀ i (h : i < (sStm S).length), StmC (sCols S) C s (s + 16 + 3 * i) (sStm S)[i]
/-! how the reference bears it: half h -/
def AtM (C : AmC) (j : Nat) (a : Atom) : Prop := cI C 151 j = a.1 ∧ cI C 152 j = nI a.2.1 ∧ cI C 153 j = a.2.2
def VM (C : AmC) (k : Nat) (v : Val) : Prop := k < 640 ∧ ∃ a, cI C 154 k = nI a ∧ cI C 155 k = nI v.length ∧ a + v.length ≤ 920 ∧ ∀ i (h : i < v.length), AtM C (a + i) v[i]
def VOM (C : AmC) (x : Int32) (v : Option Val) : Prop := match v with
  | none => x = -1
  | some w => ∃ k, x = nI k ∧ VM C k w
def StmM (C : AmC) (i : Nat) (t : Stm) : Prop :=
  cI C 170 i = nI (tKd t) ∧ cI C 171 i = nI (tHow t) ∧ (tKd t = 3 → cI C 172 i = nI (tOwn t) ∧ cI C 173 i = nI (tOth t))
  ∧ (∀ c, c < 4 → VOM C (cI C 176 (4 * i + c)) (tSet t c)) ∧ (∀ c, c < 4 → VOM C (cI C 177 (4 * i + c)) (tNew t c))
  ∧ ∃ f, cI C 174 i = nI f ∧ cI C 175 i = nI (tTst t).length ∧ f + (tTst t).length ≤ 320
  ∧ ∀ j (h : j < (tTst t).length), cI C 157 (f + j) = (tTst t)[j].2.1 ∧ (∃ k, cI C 156 (f + j) = nI k ∧ VM C k (tTst t)[j].1) ∧ ∃ k, cI C 158 (f + j) = nI k ∧ VM C k (tTst t)[j].2.2
def ScrM (C : AmC) (h : Nat) (S : Scr) : Prop :=
  h < 2 ∧ cI C 159 h = nI (sCols S) ∧ cI C 160 h = nI (sIdx S).length ∧ (∀ i, i < (sIdx S).length → cI C 167 (3 * h + i) = nI (ix1 S i) ∧ cI C 168 (3 * h + i) = oI (ix2 S i))
  ∧ cI C 161 h = sKeys S ∧ cI C 162 h = nI (sOth S).length ∧ (∀ o, o < (sOth S).length → ∀ c, c < sCols S → cI C 169 (4 * (10 * h + o) + c) = othN S o c)
  ∧ cI C 163 h = nI (sStm S).length ∧ ∀ i (g : i < (sStm S).length), StmM C (8 * h + i) (sStm S)[i]
/-- a table of N places from f on in the array a -/
def TabM (N cols : Nat) (C : AmC) (a f : Nat) (T : Tab) : Prop := (∀ p, p < N → cI C a (f + p) = if T.1 p = true then 1 else 0) ∧ ∀ p, p < N → T.1 p = true → ∀ c, c < cols → cI C a (f + N + 4 * p + c) = T.2 p c
/-- columns that the table hasn't bear 0 -/
def TabZ (N cols : Nat) (C : AmC) (a f : Nat) (T : Tab) : Prop := ∀ p, p < N → T.1 p = true → ∀ c, cols ≤ c → c < 4 → cI C a (f + N + 4 * p + c) = 0
