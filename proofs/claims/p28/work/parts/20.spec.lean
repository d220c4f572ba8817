/-! 20: what the document says, as functions: actors, messages, steps -/
/-- from (or -1), and the body: n, or 200 and who died -/
abbrev Msg : Type := Int32 × Int32
/-- whose, when, n -/
abbrev Tmr : Type := Int32 × Int32 × Int32
/-- whole numbers (0 parent, 1 own, 2 strategy, 3 budget, 4 window, 5 count, 6 live); stack, mailbox, stash, watchers, notes -/
abbrev Act : Type := (Nat → Int32) × List Int32 × List Msg × List Msg × List Int32 × List Int32
/-- how many came; whole numbers (5 latest, 6 time, 7 clock, 8 letters, 9 seed, 10 ended); actors; timers as they will be due; log; causes, the first first -/
abbrev Wst : Type := Nat × (Nat → Int32) × (Nat → Act) × List Tmr × List Msg × List Msg
def aI (x : Act) : Nat → Int32 := x.1
def aStk (x : Act) : List Int32 := x.2.1
def aMail (x : Act) : List Msg := x.2.2.1
def aStash (x : Act) : List Msg := x.2.2.2.1
def aWat (x : Act) : List Int32 := x.2.2.2.2.1
def aNot (x : Act) : List Int32 := x.2.2.2.2.2
def aSI (x : Act) (k : Nat) (v : Int32) : Act := (upd (aI x) k v, aStk x, aMail x, aStash x, aWat x, aNot x)
def aSStk (x : Act) (l : List Int32) : Act := (aI x, l, aMail x, aStash x, aWat x, aNot x)
def aSMail (x : Act) (l : List Msg) : Act := (aI x, aStk x, l, aStash x, aWat x, aNot x)
def aSStash (x : Act) (l : List Msg) : Act := (aI x, aStk x, aMail x, l, aWat x, aNot x)
def aSWat (x : Act) (l : List Int32) : Act := (aI x, aStk x, aMail x, aStash x, l, aNot x)
def aSNot (x : Act) (l : List Int32) : Act := (aI x, aStk x, aMail x, aStash x, aWat x, l)
def wN (w : Wst) : Nat := w.1
def wI (w : Wst) : Nat → Int32 := w.2.1
def wA (w : Wst) : Nat → Act := w.2.2.1
def wT (w : Wst) : List Tmr := w.2.2.2.1
def wL (w : Wst) : List Msg := w.2.2.2.2.1
def wC (w : Wst) : List Msg := w.2.2.2.2.2
def wSN (w : Wst) (n : Nat) : Wst := (n, wI w, wA w, wT w, wL w, wC w)
def wSI (w : Wst) (k : Nat) (v : Int32) : Wst := (wN w, upd (wI w) k v, wA w, wT w, wL w, wC w)
def wSF (w : Wst) (f : Nat → Act) : Wst := (wN w, wI w, f, wT w, wL w, wC w)
def wSA (w : Wst) (a : Nat) (x : Act) : Wst := wSF w (xup (wA w) a x)
def wST (w : Wst) (l : List Tmr) : Wst := (wN w, wI w, wA w, l, wL w, wC w)
def wSL (w : Wst) (l : List Msg) : Wst := (wN w, wI w, wA w, wT w, l, wC w)
def wSC (w : Wst) (l : List Msg) : Wst := (wN w, wI w, wA w, wT w, wL w, l)
/-- which one a whole number names -/
def nu (q : Int32) : Nat := q.toNatClampNeg
def sLive (w : Wst) (a : Nat) : Bool := decide (a < wN w) && decide (aI (wA w a) 6 = 1)
def sLC (w : Wst) (c a : Nat) : Bool := sLive w c && decide (aI (wA w c) 0 = Int32.ofNat a)
/-- a message is sent -/
def sSend (w : Wst) (to : Nat) (m : Msg) : Wst :=
  if sLive w to = true ∧ (aMail (wA w to)).length < 12 then wSA w to (aSMail (wA w to) (aMail (wA w to) ++ [m])) else wSI w 8 (wI w 8 + 1)
/-- its own behaviour alone; what it noted goes -/
def aKeep (x : Act) : Act := aSNot (aSStk x [aI x 1]) []
def sForget (w : Wst) (a : Nat) : Wst := wST (wSA w a (aKeep (wA w a))) ((wT w).filter fun t => !(t.1 == Int32.ofNat a))
def sUnwatch (w : Wst) (a : Nat) : Wst := wSF w fun b => if b < wN w then aSWat (wA w b) ((aWat (wA w b)).filter fun q => !(q == Int32.ofNat a)) else wA w b
def sTell (w : Wst) (a : Nat) (l : List Int32) : Wst := l.foldl (fun w q => sSend w (nu q) (-1, 200 + Int32.ofNat a)) w
/-- one stops, none below it is live -/
def sStop1 (w : Wst) (a : Nat) : Wst :=
  let w2 := sUnwatch (sForget (wSA w a (aSStash (aSMail (aSI (wA w a) 6 0) []) [])) a) a
  wSA (sTell w2 a (aWat (wA w2 a))) a (aSWat (wA (sTell w2 a (aWat (wA w2 a))) a) [])
/-- the live children of a below c, the greatest first: f of each -/
def sKids (f : Wst → Nat → Wst) (a : Nat) : Nat → Wst → Wst
  | 0, w => w
  | c + 1, w => sKids f a c (if a < c ∧ sLC w c a = true then f w c else w)
def sStop : Nat → Wst → Nat → Wst
  | 0, w, _ => w
  | n + 1, w, a => sStop1 (sKids (sStop n) a (wN w) w) a
/-- the stash comes back -/
def sBack (w : Wst) (a : Nat) : Wst :=
  let x := wA w a
  let r := min (aStash x).length (12 - (aMail x).length)
  wSI (wSA w a (aSStash (aSMail x ((aStash x).take r ++ aMail x)) [])) 8 (wI w 8 + (Int32.ofNat (aStash x).length - Int32.ofNat r))
def sRestart (w : Wst) (a : Nat) : Wst :=
  let w1 := sKids (sStop 12) a (wN w) w
  sBack (sForget (wSA w1 a (aSI (wA w1 a) 5 0)) a) a
