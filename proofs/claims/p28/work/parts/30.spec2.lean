/-! 30: what the document says: messages dealt with, failures, steps -/
def sPass (a : Nat) (n : Int32) (all : Bool) : Nat → Nat → Wst → Wst
  | 0, _, w => w
  | k + 1, c, w => if sLC w c a = true then (if all = true then sPass a n all k (c + 1) (sSend w c (Int32.ofNat a, n)) else sSend w c (Int32.ofNat a, n)) else sPass a n all k (c + 1) w
/-- whom a number names for WATCH -/
def sNamed (w : Wst) (n : Int32) : Nat := nu (irm (if n < 0 then n + 99 else n) (Int32.ofNat (wN w)))
def sWatch (w : Wst) (a : Nat) (n : Int32) : Wst :=
  let t := sNamed w n
  if t = a then w
  else if sLive w t = true then (if Int32.ofNat a ∈ aWat (wA w t) then w else wSA w t (aSWat (wA w t) (aWat (wA w t) ++ [Int32.ofNat a])))
  else sSend w a (Int32.ofNat a, 200 + Int32.ofNat t)
def sDelay (w : Wst) (a : Nat) (n : Int32) : Wst :=
  if 0 < n ∧ (wT w).length < 10 then wST w (tIns (Int32.ofNat a, wI w 6 + 1 + irm n 8, n - 1) (wT w)) else w
/-- what it does: the last of its stack -/
def sDoes (x : Act) : Int32 := (aStk x).getLastD 0
/-- a message dealt with; why it fails (0: it doesn't) -/
def sDeal (w : Wst) (a : Nat) (from_ body : Int32) : Wst × Int32 :=
  let x := wA w a
  if 200 ≤ body then (if sDoes x = 5 then (w, 2) else (wSA w a (aSI x 5 (aI x 5 + (100 + (body - 200)))), 0))
  else if sDoes x = 0 then (wSA w a (aSI x 5 (aI x 5 + body)), 0)
  else if sDoes x = 1 then (sPass a body false (wN w) 0 w, 0)
  else if sDoes x = 2 then (if 0 < body ∧ 0 ≤ from_ then sSend w (nu from_) (Int32.ofNat a, body - 1) else w, 0)
  else if sDoes x = 3 then (if irm body 2 = 0 then (sBack w a, 0) else if (aStash x).length = 6 then (w, 3) else (wSA w a (aSStash x (aStash x ++ [(from_, body)])), 0))
  else if sDoes x = 4 then (if body < 0 then (wSA w a (aSStk x (if (aStk x).length ≤ 1 then aStk x else (aStk x).dropLast)), 0) else if (aStk x).length = 5 then (w, 4) else (wSA w a (aSStk x (aStk x ++ [irm body 10])), 0))
  else if sDoes x = 5 then (if body < aI x 5 then (w, 1) else (wSA w a (aSI x 5 body), 0))
  else if sDoes x = 6 then (sDelay w a body, 0)
  else if sDoes x = 7 then (sPass a body true (wN w) 0 w, 0)
  else if sDoes x = 8 then (sWatch w a body, 0)
  else (sStop 12 w a, 0)
/-- the parent notes it: is that too often? -/
def sNote (w : Wst) (p : Nat) : Wst :=
  let x := wA w p
  wSA w p (aSNot x (((aNot x).filter fun t => !decide (t < wI w 6 - aI x 4)) ++ [wI w 6]))
def sOver (w : Wst) (p : Nat) : Bool := decide (nu (aI (wA w p) 3) < (aNot (wA (sNote w p) p)).length)
/-- up the parents: the world, the causes (the first first), the one in which it ends -/
def sClimb : Nat → Wst → List Msg → Nat → Wst × List Msg × Nat
  | 0, w, l, t => (w, l, t)
  | n + 1, w, l, t =>
    if t = 0 then (w, l, t)
    else
      let p := nu (aI (wA w t) 0)
      if sOver w p = true then sClimb n (sNote w p) (l ++ [(Int32.ofNat p, 9)]) p else (sNote w p, l, t)
/-- by its parent's strategy -/
def sWith (w : Wst) (t b : Nat) : Bool :=
  let p := nu (aI (wA w t) 0)
  sLC w b p && (decide (b = t) || decide (aI (wA w p) 2 = 1) || (decide (aI (wA w p) 2 = 2) && decide (t < b)))
/-- who is restarted, from c on; the bits -/
def sRests (t : Nat) : Nat → Nat → Wst → Int32 → Wst × Int32
  | 0, _, w, q => (w, q)
  | k + 1, c, w, q => if sWith w t c = true then sRests t k (c + 1) (sRestart w c) (q ||| (1 <<< (Int32.ofNat c &&& 31))) else sRests t k (c + 1) w q
/-- one fails: the world, the bits of the restarted ones put to q -/
def sFail (w : Wst) (a : Nat) (why q : Int32) : Wst × Int32 :=
  let r := sClimb 12 w [(Int32.ofNat a, why)] a
  let w1 := wSC r.1 r.2.1
  if r.2.2 = 0 then (sStop 12 w1 0, q) else sRests r.2.2 (wN w1) 0 w1 q
/-- the next that has messages, behind the latest: the k-th from there -/
def sNextK (w : Wst) (k : Nat) : Int32 := irm (wI w 5 + Int32.ofNat k) 12
def sNext (w : Wst) : Nat → Nat → Option Nat
  | 0, _ => none
  | m + 1, k => if sLive w (nu (sNextK w k)) = true ∧ 0 < (aMail (wA w (nu (sNextK w k)))).length then some (nu (sNextK w k)) else sNext w m (k + 1)
def sDealer (w : Wst) : Option Nat := sNext w 12 1
def sHas (w : Wst) : Bool := (sDealer w).isSome || decide (0 < (wT w).length)
/-- the dealer takes its first message -/
def sTake (w : Wst) (a : Nat) (m : Msg) : Wst :=
  let w1 := wSA w a (aSMail (wA w a) (aMail (wA w a)).tail)
  let w2 := wSI (wSI w1 5 (Int32.ofNat a)) 7 (wI w 7 + 1)
  wSL w2 ((if (wL w).length = 30 then (wL w).tail else wL w) ++ [(Int32.ofNat a, m.2)])
/-- a step: the world, whether one failed, the bits -/
def sStep (w : Wst) (q : Int32) : Wst × Bool × Int32 :=
  match sDealer w with
  | some a =>
    let m := (aMail (wA w a)).headD (0, 0)
    let r := sDeal (sTake w a m) a m.1 m.2
    if r.2 = 0 then (r.1, false, q) else ((sFail r.1 a r.2 q).1, true, (sFail r.1 a r.2 q).2)
  | none => match wT w with
    | [] => (w, false, q)
    | t :: l => (sSend (wST (wSI w 6 t.2.1) l) (nu t.1) (-1, t.2.2), false, q)
/-- how it stands -/
def sHow (w : Wst) : Int32 := if 0 < wN w ∧ sLive w 0 = false then 2 else if sHas w = true then 0 else 1
