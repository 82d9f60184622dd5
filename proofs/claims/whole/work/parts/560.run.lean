/-! A run of a statement, as a mathematical value. -/
def inR (x : Int32) : Bool := decide (-9999 ≤ x.toInt) && decide (x.toInt ≤ 9999)
def isNewS (t : Stm) (pl : Option Nat) : Bool := decide (tKd t = 2) || pl.isNone
def valsS (t : Stm) (pl : Option Nat) (c : Nat) : Option Val := if isNewS t pl = true then tNew t c else tSet t c
def mkS (S : Scr) (T : Tab) (t : Stm) (pl o : Option Nat) (c : Nat) : Int32 := match valsS t pl c with
  | some v => sVal S T pl o v
  | none => 0
def ovF (S : Scr) (T : Tab) (t : Stm) (pl o : Option Nat) (c : Nat) : Bool := match valsS t pl c with
  | some v => !inR (sVal S T pl o v)
  | none => false
def sOver (S : Scr) (T : Tab) (t : Stm) (pl o : Option Nat) : Option Nat := qf (ovF S T t pl o) (sCols S) 0
/-- table; end and what is told; writes at places; what was written: for which row, where, what -/
abbrev RS : Type := Tab × (Int32 × Int32 × Int32) × (Nat → Nat) × List (Option Nat × Nat × (Nat → Int32))
abbrev Itm : Type := Option Nat × Option Nat × (Nat → Int32)
def rT (r : RS) : Tab := r.1
def rE (r : RS) : Int32 := r.2.1.1
def r1 (r : RS) : Int32 := r.2.1.2.1
def r2 (r : RS) : Int32 := r.2.1.2.2
def rC (r : RS) : Nat → Nat := r.2.2.1
def rL (r : RS) : List (Option Nat × Nat × (Nat → Int32)) := r.2.2.2
def rEnd (r : RS) (e x y : Int32) : RS := (r.1, (e, x, y), r.2.2)
/-- where a row is put -/
def sAt (T : Tab) (t : Stm) (pl : Option Nat) : Option Nat := if isNewS t pl = true then sFree T else pl
def sPut (T : Tab) (t : Stm) (pl : Option Nat) (q : Nat) (mk : Nat → Int32) : Tab :=
  if isNewS t pl = true then (va_up T.1 q true, va_up T.2 q mk) else if tCh t = 1 then (va_up T.1 q false, T.2) else (va_up T.1 q true, va_up T.2 q (fun c => if (tSet t c).isSome = true then mk c else T.2 q c))
def sWrite (t : Stm) (pl : Option Nat) (mk : Nat → Int32) (r : RS) : RS := match sAt (rT r) t pl with
  | none => rEnd r 3 (-1) (-1)
  | some q => if 200 ≤ (rL r).length then rEnd r 4 (-1) (-1) else (sPut (rT r) t pl q mk, r.2.1, va_up (rC r) q (rC r q + 1), rL r ++ [(pl, q, mk)])
/-- making, then a write, unless a number is too great -/
def sMkW (S : Scr) (t : Stm) (pl o : Option Nat) (r : RS) : RS := match sOver S (rT r) t pl o with
  | some c => rEnd r 2 (oI pl) (nI c)
  | none => sWrite t pl (mkS S (rT r) t pl o) r
def isKpt (t : Stm) (pl : Option Nat) : Bool := decide (tCh t = 2) && pl.isSome
def sMeet (S : Scr) (t : Stm) (stage : Nat) (pl o : Option Nat) (x : RS × List Itm) : RS × List Itm :=
  if isKpt t pl = true then x else if (decide (stage ≠ 1) && !sHolds S (rT x.1) pl t) = true then x else
  if stage = 0 then (sMkW S t pl o x.1, x.2) else if stage = 3 then (match sOver S (rT x.1) t pl o with
    | some c => (rEnd x.1 2 (oI pl) (nI c), x.2)
    | none => (x.1, x.2 ++ [(pl, o, mkS S (rT x.1) t pl o)])) else (x.1, x.2 ++ [(pl, o, fun _ => 0)])
def sOk (S : Scr) (t : Stm) (path : Nat) (o : Option Nat) (T : Tab) (p : Nat) : Bool := T.1 p && sRng S (some t) path o T p
def sRead (S : Scr) (t : Stm) (stage path : Nat) : Nat → Option Int → RS × List Itm → RS × List Itm
  | 0, _, x => x
  | n + 1, last, x => if rE x.1 = 0 then (match sNext (sOk S t path (some 0) (rT x.1)) (sRk S path (rT x.1)) last with
    | none => x
    | some p => sRead S t stage path n (some (sRk S path (rT x.1) p)) (sMeet S t stage (some p) none x)) else x
def isMat (S : Scr) (t : Stm) (o : Nat) (T : Tab) (p : Nat) : Bool := decide (T.2 p (tOwn t) = othN S o (tOth t))
def sReadO (S : Scr) (t : Stm) (stage path o : Nat) : Nat → Option Int → Bool → RS × List Itm → (RS × List Itm) × Bool
  | 0, _, b, x => (x, b)
  | n + 1, last, b, x => if rE x.1 = 0 then (match sNext (sOk S t path (some o) (rT x.1)) (sRk S path (rT x.1)) last with
    | none => (x, b)
    | some p => if isMat S t o (rT x.1) p = true then sReadO S t stage path o n (some (sRk S path (rT x.1) p)) true (sMeet S t stage (some p) (some o) x) else sReadO S t stage path o n (some (sRk S path (rT x.1) p)) b x) else (x, b)
def sFor (S : Scr) (t : Stm) (stage path o : Nat) (x : RS × List Itm) : RS × List Itm :=
  if (!(sReadO S t stage path o 7000 none false x).2 && tAdds t && decide (rE (sReadO S t stage path o 7000 none false x).1.1 = 0)) = true then sMeet S t stage none (some o) (sReadO S t stage path o 7000 none false x).1 else (sReadO S t stage path o 7000 none false x).1
def sFors (S : Scr) (t : Stm) (stage path : Nat) : Nat → Nat → RS × List Itm → RS × List Itm
  | 0, _, x => x
  | k + 1, o, x => if rE x.1 = 0 then sFors S t stage path k (o + 1) (sFor S t stage path o x) else x
/-- two of others that match one row -/
def sDbl (S : Scr) (t : Stm) (T : Tab) (p : Nat) : Option (Nat × Nat) := (qf (fun o => isMat S t o T p) (sOth S).length 0).bind (fun o => (qf (fun o' => isMat S t o' T p) ((sOth S).length - (o + 1)) (o + 1)).map (fun o' => (o, o')))
def sDblP (S : Scr) (t : Stm) (T : Tab) : Option Nat := if tKd t = 3 ∧ tHow t ≠ 2 then qf (fun p => T.1 p && (sDbl S t T p).isSome) 30 0 else none
def dblI (o : Option (Nat × Nat)) : Int32 := match o with
  | some (x, y) => nI (100 * x + y)
  | none => -1
/-- whether the row is still there -/
def plHas (T : Tab) (pl : Option Nat) : Bool := match pl with
  | some p => T.1 p
  | none => true
def sItem (S : Scr) (t : Stm) (stage : Nat) (r : RS) (q : Itm) : RS :=
  if rE r = 0 then (if plHas (rT r) q.1 = true then (if (decide (stage = 1) && !sHolds S (rT r) q.1 t) = true then r else if stage = 3 then sWrite t q.1 q.2.2 r else sMkW S t q.1 q.2.1 r) else r) else r
def sRun0 (T : Tab) : RS := (T, (0, -1, -1), fun _ => 0, [])
def sReads (S : Scr) (t : Stm) (stage path : Nat) (T : Tab) : RS × List Itm := match sDblP S t T with
  | some p => (rEnd (sRun0 T) 1 (nI p) (dblI (sDbl S t T p)), [])
  | none => if tKd t = 3 then sFors S t stage path (sOth S).length 0 (sRun0 T, []) else sRead S t stage path 7000 none (sRun0 T, [])
/-- a run along a path with a spool at a stage -/
def sRun (S : Scr) (t : Stm) (stage path : Nat) (T : Tab) : RS := (sReads S t stage path T).2.foldl (sItem S t stage) (sReads S t stage path T).1
/-- with the clash that is found at its end -/
def sEnd (S : Scr) (r : RS) : RS := if rE r = 0 then (match sClash 30 S (rT r) with
  | some i => rEnd r 5 (nI i) (twI (sTwin 30 S (rT r) i))
  | none => r) else r
def sRight (S : Scr) (t : Stm) (T : Tab) : RS := sEnd S (sRun S t 3 0 T)
