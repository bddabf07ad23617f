/-! the text's meaning: a row of signs read from the left; the reference's orders (number, argument) and the meaning come out together -/
def isDg (c : Nat) : Bool := decide (48 ≤ c) && decide (c ≤ 57)
/-- i j k X Y Z are 0 .. 5 -/
def varO (c : Nat) : Option Nat := if 105 ≤ c ∧ c ≤ 107 then some (c - 105) else if 88 ≤ c ∧ c ≤ 90 then some (c - 85) else none
abbrev Od : Type := List (Nat × Nat)
abbrev Ev : Type := Nat → Int32
abbrev Dn : Type := Nat → Ev → Int32
abbrev DF : Type := Nat → Ev → Bool
abbrev Bd : Type := Nat → Option Nat
/-- the set of all elements -/
def hfull (n : Nat) : Int32 := nI (2 ^ n - 1)
def hnot (x : Int32) : Int32 := x ^^^ (-1)
/-- how many elements, as the reference counts them -/
def hbit (x k : Int32) : Int32 := (x >>> k) &&& 1
def hcount (x : Int32) : Int32 := hbit x 0 + hbit x 1 + hbit x 2 + hbit x 3
def b2i (b : Bool) : Int32 := if b then 1 else 0
def vrS (b : Bd) (c : Nat) : Option Nat := (varO c).bind fun v => if 3 ≤ v then b v else none
def vrN (b : Bd) (c : Nat) : Option Nat := (varO c).bind fun v => if v < 3 then b v else none
/-- the next sign must be c -/
def cx (c : Nat) {α : Type} (y : α × List Nat) : Option (α × List Nat) := match y.2 with
  | [] => none
  | t :: r => if t = c then some (y.1, r) else none
/-- sets. What: 0 a single, 1 a meet, 2 a set, 3 the rest of a meet, 4 the rest of a set -/
def pS : Nat → Nat → Od × Dn → Nat → Bd → List Nat → Option ((Od × Dn) × List Nat)
  | 0, _, _, _, _, _ => none
  | k + 1, w, acc, d, b, ts =>
    if w = 0 then
      if d ≤ 12 then
        match ts with
        | [] => none
        | c :: r =>
          if c = 40 then (pS k 2 acc (d + 1) b r).bind (cx 41)
          else if c = 45 then (pS k 0 acc (d + 1) b r).bind fun y => some ((y.1.1 ++ [(9, 0)], fun n e => hfull n &&& hnot (y.1.2 n e)), y.2)
          else if c = 48 then some (([(23, 0)], fun _ _ => 0), r)
          else if c = 49 then some (([(24, 0)], fun n _ => hfull n), r)
          else (vrS b c).bind fun q => some (([(14, q)], fun _ e => e q), r)
      else none
    else if w = 1 then (pS k 0 acc d b ts).bind fun y => pS k 3 y.1 d b y.2
    else if w = 2 then (pS k 1 acc d b ts).bind fun y => pS k 4 y.1 d b y.2
    else if w = 3 then
      match ts with
      | [] => some (acc, [])
      | c :: r => if c = 42 then (pS k 0 acc d b r).bind fun y => pS k 3 (acc.1 ++ y.1.1 ++ [(8, 0)], fun n e => acc.2 n e &&& y.1.2 n e) d b y.2 else some (acc, c :: r)
    else
      match ts with
      | [] => some (acc, [])
      | c :: r => if c = 43 then (pS k 1 acc d b r).bind fun y => pS k 4 (acc.1 ++ y.1.1 ++ [(7, 0)], fun n e => acc.2 n e ||| y.1.2 n e) d b y.2 else some (acc, c :: r)
/-- the number that the signs ds spell -/
def dgv (ds : List Nat) : Nat := ds.foldl (fun v c => 10 * v + (c - 48)) 0
/-- a number of one to three decimals, as many as stand there -/
def pN (ts : List Nat) : Option (Nat × List Nat) :=
  if 1 ≤ (ts.takeWhile isDg).length ∧ (ts.takeWhile isDg).length ≤ 3 then some (dgv (ts.takeWhile isDg), ts.dropWhile isDg) else none
def sv0 : Od × Dn := ([], fun _ _ => 0)
/-- a thing -/
def pT (k d : Nat) (b : Bd) (ts : List Nat) : Option ((Od × Dn) × List Nat) :=
  match ts with
  | [] => none
  | c :: r =>
    if c = 110 then some (([(15, 0)], fun n _ => nI n), r)
    else if c = 35 then (pS k 0 sv0 (d + 1) b r).bind fun y => some ((y.1.1 ++ [(11, 0)], fun n e => hcount (y.1.2 n e)), y.2)
    else (vrN b c).bind fun q => some (([(14, q)], fun _ e => e q), r)
/-- behind a number: a thing that it multiplies, or nothing -/
def pM (k d : Nat) (b : Bd) (v : Nat) (ts : List Nat) : Option ((Od × Dn) × List Nat) :=
  match ts with
  | [] => some (([(13, v)], fun _ _ => nI v), [])
  | c :: r => if c = 42 then (pT k d b r).bind fun y => some ((y.1.1 ++ [(16, v)], fun n e => nI v * y.1.2 n e), y.2) else some (([(13, v)], fun _ _ => nI v), c :: r)
/-- a part, without its sign -/
def pP (k d : Nat) (b : Bd) (ts : List Nat) : Option ((Od × Dn) × List Nat) :=
  match ts with
  | [] => none
  | c :: r => if isDg c then (pN (c :: r)).bind fun y => pM k d b y.1 y.2 else pT k d b (c :: r)
def hsgn (neg : Bool) (x : Od × Dn) : Od × Dn := if neg then (x.1 ++ [(17, 0)], fun n e => - x.2 n e) else x
/-- the rest of a sum -/
def pZr : Nat → Nat → Nat → Bd → Od × Dn → List Nat → Option ((Od × Dn) × List Nat)
  | 0, _, _, _, _, _ => none
  | k + 1, f, d, b, acc, ts =>
    match ts with
    | [] => some (acc, [])
    | c :: r =>
      if c = 43 ∨ c = 45 then (pP f d b r).bind fun y => pZr k f d b (acc.1 ++ (hsgn (decide (c = 45)) y.1).1 ++ [(18, 0)], fun n e => acc.2 n e + (hsgn (decide (c = 45)) y.1).2 n e) y.2
      else some (acc, c :: r)
/-- a sum; behind its first part: the rest -/
def pZ (k d : Nat) (b : Bd) (ts : List Nat) : Option ((Od × Dn) × List Nat) :=
  match ts with
  | [] => none
  | c :: r => (pP k d b (if c = 45 then r else c :: r)).bind fun y => pZr k k d b (hsgn (decide (c = 45)) y.1) y.2
def upE (e : Ev) (q : Nat) (x : Int32) : Ev := fun j => if j = q then x else e j
/-- the first value of a variable; how many more there are -/
def lo0 (isSet : Bool) : Int32 := if isSet then 0 else -8
def mor (isSet : Bool) (n : Nat) : Nat := if isSet then 2 ^ n - 1 else 16
/-- of the values from k on, j more than one: all, or one at least -/
def qfr (isAll : Bool) (p : Nat → Bool) : Nat → Nat → Bool
  | k, 0 => p k
  | k, j + 1 => if isAll then p k && qfr isAll p (k + 1) j else p k || qfr isAll p (k + 1) j
def hqnt (isAll isSet : Bool) (n : Nat) (p : Int32 → Bool) : Bool := qfr isAll (fun k => p (lo0 isSet + nI k)) 0 (mor isSet n)
/-- how many of them -/
def qcn (p : Nat → Bool) : Nat → Nat → Nat
  | k, 0 => if p k then 1 else 0
  | k, j + 1 => (if p k then 1 else 0) + qcn p (k + 1) j
def hcnt (isSet : Bool) (n : Nat) (p : Int32 → Bool) : Nat := qcn (fun k => p (lo0 isSet + nI k)) 0 (mor isSet n)
abbrev Kd : Type := Option (Bool × Bool × Nat × Nat × DF)
/-- behind the first sum of a comparison -/
def pR (k d : Nat) (b : Bd) (x : Od × Dn) (ts : List Nat) : Option ((Od × DF) × List Nat) :=
  match ts with
  | [] => none
  | c :: r =>
    if c = 60 then (pZ k d b r).bind fun y => some ((x.1 ++ y.1.1 ++ [(19, 0)], fun n e => decide (x.2 n e < y.1.2 n e)), y.2)
    else if c = 61 then (pZ k d b r).bind fun y => some ((x.1 ++ y.1.1 ++ [(20, 0)], fun n e => decide (x.2 n e = y.1.2 n e)), y.2)
    else none
/-- is a colon next -/
def coln (ts : List Nat) : Bool := match ts with
  | [] => false
  | c :: _ => decide (c = 58)
/-- a number and what it divides -/
def pD (k d : Nat) (b : Bd) (v : Nat) (ts : List Nat) : Option ((Od × DF) × List Nat) :=
  if v = 0 then none else (pZ k d b ts).bind fun y => some ((y.1.1 ++ [(21, v)], fun n e => decide (y.1.2 n e - y.1.2 n e / nI v * nI v = 0)), y.2)
/-- a comparison of sums, or a number and what it divides -/
def pC (k d : Nat) (b : Bd) (ts : List Nat) : Option ((Od × DF) × List Nat) :=
  match pN ts with
  | none => (pZ k d b ts).bind fun y => pR k d b y.1 y.2
  | some (v, r) => if coln r then pD k d b v r.tail else (pZ k d b ts).bind fun y => pR k d b y.1 y.2
/-- behind the first set of a comparison -/
def pQ (k d : Nat) (b : Bd) (x : Od × Dn) (ts : List Nat) : Option ((Od × DF) × List Nat) :=
  match ts with
  | [] => none
  | c :: r =>
    if c = 60 then (pS k 2 sv0 d b r).bind fun y => cx 93 (((x.1 ++ y.1.1 ++ [(22, 0)], fun n e => decide (x.2 n e &&& hnot (y.1.2 n e) = 0)) : Od × DF), y.2)
    else if c = 61 then (pS k 2 sv0 d b r).bind fun y => cx 93 (((x.1 ++ y.1.1 ++ [(20, 0)], fun n e => decide (x.2 n e = y.1.2 n e)) : Od × DF), y.2)
    else none
/-- a comparison of sets, behind its bracket -/
def pB (k d : Nat) (b : Bd) (ts : List Nat) : Option ((Od × DF) × List Nat) := (pS k 2 sv0 d b ts).bind fun y => pQ k d b y.1 y.2
abbrev FvT : Type := (Od × DF × Kd) × List (Bool × Bool)
def nok (y : (Od × DF) × List Nat) (lp : List (Bool × Bool)) : FvT × List Nat := (((y.1.1, y.1.2, none), lp), y.2)
/-- formulas. What: 0 a one, 1 a clause, 2 a formula, 3 the rest of a clause, 4 the rest of a formula. lp: of each A and E so far, whether it is A, whether it is over sets -/
def pF : Nat → Nat → FvT → Nat → Bd → List Nat → Option (FvT × List Nat)
  | 0, _, _, _, _, _ => none
  | k + 1, w, acc, d, b, ts =>
    if w = 0 then
      if d ≤ 12 then
        match ts with
        | [] => none
        | c :: r =>
          if c = 33 then (pF k 0 acc (d + 1) b r).bind fun y => some (((y.1.1.1 ++ [(3, 0)], fun n e => !(y.1.1.2.1 n e), none), y.1.2), y.2)
          else if c = 65 ∨ c = 69 then
            if acc.2.length < 4 then
              match r with
              | [] => none
              | v :: r2 => (varO v).bind fun i => (pF k 0 (acc.1, acc.2 ++ [(decide (c = 65), decide (3 ≤ i))]) (d + 1) (fun j => if j = i then some acc.2.length else b j) r2).bind fun y =>
                  some ((((12, acc.2.length) :: y.1.1.1 ++ [(5, acc.2.length)], fun n e => hqnt (decide (c = 65)) (decide (3 ≤ i)) n (fun z => y.1.1.2.1 n (upE e acc.2.length z)), some (decide (c = 65), decide (3 ≤ i), i, acc.2.length, y.1.1.2.1)), y.1.2), y.2)
            else none
          else if c = 40 then (pF k 2 acc (d + 1) b r).bind fun y => cx 41 (((y.1.1.1, y.1.1.2.1, none), y.1.2), y.2)
          else if c = 91 then (pB k d b r).bind fun y => some (nok y acc.2)
          else (pC k d b (c :: r)).bind fun y => some (nok y acc.2)
      else none
    else if w = 1 then (pF k 0 acc d b ts).bind fun y => pF k 3 y.1 d b y.2
    else if w = 2 then (pF k 1 acc d b ts).bind fun y => pF k 4 y.1 d b y.2
    else if w = 3 then
      match ts with
      | [] => some (acc, [])
      | c :: r => if c = 38 then (pF k 0 acc d b r).bind fun y => pF k 3 ((acc.1.1 ++ y.1.1.1 ++ [(2, 0)], fun n e => acc.1.2.1 n e && y.1.1.2.1 n e, none), y.1.2) d b y.2 else some (acc, c :: r)
    else
      match ts with
      | [] => some (acc, [])
      | c :: r => if c = 124 then (pF k 1 acc d b r).bind fun y => pF k 4 ((acc.1.1 ++ y.1.1.1 ++ [(1, 0)], fun n e => acc.1.2.1 n e || y.1.1.2.1 n e, none), y.1.2) d b y.2 else some (acc, c :: r)
def fv0 : FvT := (([], fun _ _ => false, none), [])
/-- fuel that is enough for a text -/
def fuT : Nat := 1000
/-- the sentence that a text is, or none -/
def sent (ts : List Nat) : Option FvT := (pF fuT 2 fv0 0 (fun _ => none) ts).bind fun y => if y.2 = [] then some y.1 else none
