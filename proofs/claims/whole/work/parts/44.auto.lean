/-! the reference's reader as a plain function. A state: its number, the depth, σ (2 universal, 3 figure, 4 figures, 5 times, 6 factor, 7 minus, 8 firstPart, 9 bare, 10 relation, 11 divisor), the pile with its upper end first (what, variable, what bound that before), the orders, what binds a variable, the A and E. -/
abbrev Pl : Type := List (Nat × Nat × Option Nat)
abbrev AS : Type := Nat × Nat × (Nat → Nat) × Pl × Od × Bd × List (Bool × Bool)
def su (σ : Nat → Nat) (k v : Nat) : Nat → Nat := fun j => if j = k then v else σ j
def topP : Pl → Nat
  | [] => 0
  | x :: _ => x.1
def setL (a b : Nat) : Pl → Od → Pl × Od
  | [], c => ([], c)
  | x :: p, c => if x.1 = a ∨ x.1 = b then setL a b p (c ++ [(x.1, 0)]) else (x :: p, c)
def wOneL : Pl → Nat → Od → Bd → Pl × Nat × Od × Bd
  | [], d, c, b => ([], d, c, b)
  | x :: p, d, c, b =>
    if x.1 = 3 then wOneL p (d - 1) (c ++ [(3, 0)]) b
    else if x.1 = 5 then wOneL p (d - 1) (c ++ [(5, (b x.2.1).getD 0)]) (fun j => if j = x.2.1 then x.2.2 else b j)
    else (x :: p, d, c, b)
def tDeep (w g d : Nat) (σ : Nat → Nat) (p : Pl) (c : Od) (b : Bd) (lp : List (Bool × Bool)) : AS := if 12 ≤ d then (10, d, σ, p, c, b, lp) else (g, d + 1, σ, (w, 0, none) :: p, c, b, lp)
/-- behind a one: what stands before it is done too -/
def tWOne (d : Nat) (σ : Nat → Nat) (p : Pl) (c : Od) (b : Bd) (lp : List (Bool × Bool)) : AS := (1, (wOneL p d c b).2.1, σ, (wOneL p d c b).1, (wOneL p d c b).2.2.1, (wOneL p d c b).2.2.2, lp)
def tAfterOne (ch d : Nat) (σ : Nat → Nat) (p : Pl) (c : Od) (b : Bd) (lp : List (Bool × Bool)) : AS :=
  if ch = 38 then (0, d, σ, (2, 0, none) :: (setL 2 2 p c).1, (setL 2 2 p c).2, b, lp)
  else if ch = 124 then (0, d, σ, (1, 0, none) :: (setL 2 1 p c).1, (setL 2 1 p c).2, b, lp)
  else if ch = 41 ∧ topP (setL 2 1 p c).1 = 4 then tWOne (d - 1) σ (setL 2 1 p c).1.tail (setL 2 1 p c).2 b lp
  else (10, d, σ, (setL 2 1 p c).1, (setL 2 1 p c).2, b, lp)
/-- what a part's end emits; what it leaves -/
def sgc (σ : Nat → Nat) : Od := (if σ 7 = 1 then [(17, 0)] else []) ++ (if σ 8 = 0 then [(18, 0)] else [])
def wpc (σ : Nat → Nat) : Od := (if σ 5 = 1 then [(16, σ 6)] else []) ++ sgc σ
def wps (σ : Nat → Nat) : Nat → Nat := su (su (su σ 8 0) 9 0) 5 0
def relO (σ : Nat → Nat) : Nat × Nat := if σ 10 = 1 then (19, 0) else if σ 10 = 2 then (20, 0) else (21, σ 11)
def tAfterPart (ch d : Nat) (σ : Nat → Nat) (p : Pl) (c : Od) (b : Bd) (lp : List (Bool × Bool)) : AS :=
  if ch = 43 ∨ ch = 45 then (4, d, su σ 7 (if ch = 45 then 1 else 0), p, c, b, lp)
  else if σ 10 = 0 then (if ch = 60 then (3, d, su σ 10 1, p, c, b, lp) else if ch = 61 then (3, d, su σ 10 2, p, c, b, lp) else (10, d, σ, p, c, b, lp))
  else tAfterOne ch (wOneL p d (c ++ [relO σ]) b).2.1 σ (wOneL p d (c ++ [relO σ]) b).1 (wOneL p d (c ++ [relO σ]) b).2.2.1 (wOneL p d (c ++ [relO σ]) b).2.2.2 lp
def tThing (ch d : Nat) (σ : Nat → Nat) (p : Pl) (c : Od) (b : Bd) (lp : List (Bool × Bool)) : AS :=
  if ch = 110 then (7, d, wps σ, p, c ++ [(15, 0)] ++ wpc σ, b, lp)
  else if ch = 35 then tDeep 11 8 d σ p c b lp
  else match vrN b ch with
    | none => (10, d, σ, p, c, b, lp)
    | some q => (7, d, wps σ, p, c ++ [(14, q)] ++ wpc σ, b, lp)
def tPart (ch d : Nat) (σ : Nat → Nat) (p : Pl) (c : Od) (b : Bd) (lp : List (Bool × Bool)) : AS :=
  if isDg ch then (5, d, su (su (su σ 5 0) 3 (ch - 48)) 4 1, p, c, b, lp) else tThing ch d (su σ 5 0) p c b lp
def tSumS (ch : Nat) (σ : Nat → Nat) : Nat → Nat := su (su (su σ 7 (if ch = 45 then 1 else 0)) 8 1) 9 (if σ 10 = 0 ∧ ch ≠ 45 then 1 else 0)
def tSum (ch d : Nat) (σ : Nat → Nat) (p : Pl) (c : Od) (b : Bd) (lp : List (Bool × Bool)) : AS :=
  if ch = 45 then (4, d, tSumS ch σ, p, c, b, lp) else tPart ch d (tSumS ch σ) p c b lp
def tAfterNumber (ch d : Nat) (σ : Nat → Nat) (p : Pl) (c : Od) (b : Bd) (lp : List (Bool × Bool)) : AS :=
  if isDg ch then ((if σ 4 + 1 < 4 then 5 else 10), d, su (su σ 3 (10 * σ 3 + (ch - 48))) 4 (σ 4 + 1), p, c, b, lp)
  else if ch = 42 then (6, d, su (su σ 5 1) 6 (σ 3), p, c, b, lp)
  else if ch = 58 ∧ σ 9 = 1 then ((if 0 < σ 3 then 3 else 10), d, su (su σ 10 3) 11 (σ 3), p, c, b, lp)
  else tAfterPart ch d (wps σ) p (c ++ [(13, σ 3)] ++ wpc σ) b lp
def wSinL : Pl → Nat → Od → Pl × Nat × Od
  | [], d, c => ([], d, c)
  | x :: p, d, c => if x.1 = 9 then wSinL p (d - 1) (c ++ [(9, 0)]) else (x :: p, d, c)
def tWSin (d : Nat) (σ : Nat → Nat) (p : Pl) (c : Od) (b : Bd) (lp : List (Bool × Bool)) : AS :=
  if topP (wSinL p d c).1 = 11 then (7, (wSinL p d c).2.1 - 1, wps σ, (wSinL p d c).1.tail, (wSinL p d c).2.2 ++ [(11, 0)] ++ wpc σ, b, lp) else (9, (wSinL p d c).2.1, σ, (wSinL p d c).1, (wSinL p d c).2.2, b, lp)
def tSingle (ch d : Nat) (σ : Nat → Nat) (p : Pl) (c : Od) (b : Bd) (lp : List (Bool × Bool)) : AS :=
  if ch = 45 then tDeep 9 8 d σ p c b lp
  else if ch = 40 then tDeep 10 8 d σ p c b lp
  else if ch = 48 then tWSin d σ p (c ++ [(23, 0)]) b lp
  else if ch = 49 then tWSin d σ p (c ++ [(24, 0)]) b lp
  else match vrS b ch with
    | none => (10, d, σ, p, c, b, lp)
    | some q => tWSin d σ p (c ++ [(14, q)]) b lp
def tAfterSingle (ch d : Nat) (σ : Nat → Nat) (p : Pl) (c : Od) (b : Bd) (lp : List (Bool × Bool)) : AS :=
  if ch = 42 then (8, d, σ, (8, 0, none) :: (setL 8 8 p c).1, (setL 8 8 p c).2, b, lp)
  else if ch = 43 then (8, d, σ, (7, 0, none) :: (setL 8 7 p c).1, (setL 8 7 p c).2, b, lp)
  else if ch = 41 ∧ topP (setL 8 7 p c).1 = 10 then tWSin (d - 1) σ (setL 8 7 p c).1.tail (setL 8 7 p c).2 b lp
  else if topP (setL 8 7 p c).1 = 6 then
    (if σ 10 = 0 then (if ch = 60 then (8, d, su σ 10 1, (setL 8 7 p c).1, (setL 8 7 p c).2, b, lp) else if ch = 61 then (8, d, su σ 10 2, (setL 8 7 p c).1, (setL 8 7 p c).2, b, lp) else (10, d, σ, (setL 8 7 p c).1, (setL 8 7 p c).2, b, lp))
     else if ch = 93 then tWOne d σ (setL 8 7 p c).1.tail ((setL 8 7 p c).2 ++ [((if σ 10 = 1 then 22 else 20), 0)]) b lp
     else (10, d, σ, (setL 8 7 p c).1.tail, (setL 8 7 p c).2 ++ [((if σ 10 = 1 then 22 else 20), 0)], b, lp))
  else (10, d, σ, (setL 8 7 p c).1, (setL 8 7 p c).2, b, lp)
def tOne (ch d : Nat) (σ : Nat → Nat) (p : Pl) (c : Od) (b : Bd) (lp : List (Bool × Bool)) : AS :=
  if ch = 33 then tDeep 3 0 d σ p c b lp
  else if ch = 40 then tDeep 4 0 d σ p c b lp
  else if ch = 65 ∨ ch = 69 then ((if lp.length < 4 ∧ d < 12 then 2 else 10), d, su σ 2 (if ch = 65 then 1 else 0), p, c, b, lp)
  else if ch = 91 then (8, d, su σ 10 0, (6, 0, none) :: p, c, b, lp)
  else tSum ch d (su σ 10 0) p c b lp
def tBound (ch d : Nat) (σ : Nat → Nat) (p : Pl) (c : Od) (b : Bd) (lp : List (Bool × Bool)) : AS :=
  match varO ch with
  | none => (10, d, σ, p, c, b, lp)
  | some v => (0, d + 1, σ, (5, v, b v) :: p, c ++ [(12, lp.length)], (fun j => if j = v then some lp.length else b j), lp ++ [(decide (σ 2 = 1), decide (3 ≤ v))])
def aNext (S : AS) (ch : Nat) : AS :=
  if S.1 = 0 then tOne ch S.2.1 S.2.2.1 S.2.2.2.1 S.2.2.2.2.1 S.2.2.2.2.2.1 S.2.2.2.2.2.2
  else if S.1 = 1 then tAfterOne ch S.2.1 S.2.2.1 S.2.2.2.1 S.2.2.2.2.1 S.2.2.2.2.2.1 S.2.2.2.2.2.2
  else if S.1 = 2 then tBound ch S.2.1 S.2.2.1 S.2.2.2.1 S.2.2.2.2.1 S.2.2.2.2.2.1 S.2.2.2.2.2.2
  else if S.1 = 3 then tSum ch S.2.1 S.2.2.1 S.2.2.2.1 S.2.2.2.2.1 S.2.2.2.2.2.1 S.2.2.2.2.2.2
  else if S.1 = 4 then tPart ch S.2.1 S.2.2.1 S.2.2.2.1 S.2.2.2.2.1 S.2.2.2.2.2.1 S.2.2.2.2.2.2
  else if S.1 = 5 then tAfterNumber ch S.2.1 S.2.2.1 S.2.2.2.1 S.2.2.2.2.1 S.2.2.2.2.2.1 S.2.2.2.2.2.2
  else if S.1 = 6 then tThing ch S.2.1 S.2.2.1 S.2.2.2.1 S.2.2.2.2.1 S.2.2.2.2.2.1 S.2.2.2.2.2.2
  else if S.1 = 7 then tAfterPart ch S.2.1 S.2.2.1 S.2.2.2.1 S.2.2.2.2.1 S.2.2.2.2.2.1 S.2.2.2.2.2.2
  else if S.1 = 8 then tSingle ch S.2.1 S.2.2.1 S.2.2.2.1 S.2.2.2.2.1 S.2.2.2.2.2.1 S.2.2.2.2.2.2
  else if S.1 = 9 then tAfterSingle ch S.2.1 S.2.2.1 S.2.2.2.1 S.2.2.2.2.1 S.2.2.2.2.2.1 S.2.2.2.2.2.2
  else (10, S.2)
/-- the text is over -/
def aEnd (S : AS) : AS := if S.1 = 5 ∨ S.1 = 7 then ((if 0 < S.2.2.1 10 then 1 else 10), (aNext S 32).2) else S
abbrev Rv : Type := Option (Od × List (Bool × Bool))
def acP (p : Pl) (c : Od) (lp : List (Bool × Bool)) : Rv := match p with
  | [] => some (c, lp)
  | _ :: _ => none
def aAcc (S : AS) : Rv := if (aEnd S).1 = 1 then acP (setL 2 1 (aEnd S).2.2.2.1 (aEnd S).2.2.2.2.1).1 (setL 2 1 (aEnd S).2.2.2.1 (aEnd S).2.2.2.2.1).2 (aEnd S).2.2.2.2.2.2 else none
def aFin : AS → List Nat → Rv
  | S, [] => aAcc S
  | S, c :: r => aFin (aNext S c) r
def aS0 (σ : Nat → Nat) : AS := (0, 0, σ, [], [], fun _ => none, [])
theorem aFin_10 (S : Nat × (Nat → Nat) × Pl × Od × Bd × List (Bool × Bool)) : ∀ r, aFin (10, S) r = none
  | [] => rfl
  | c :: r => aFin_10 S r
theorem aFin_e {st : Nat} (h : st ≠ 1) (h5 : st ≠ 5) (h7 : st ≠ 7) (S : Nat × (Nat → Nat) × Pl × Od × Bd × List (Bool × Bool)) : aFin (st, S) [] = none := by
  show aAcc (st, S) = none
  have he : aEnd (st, S) = (st, S) := if_neg (fun q => q.elim h5 h7)
  unfold aAcc
  rw [he]
  exact if_neg h
/-- the reader's way from v beside the grammar's outcome o: none, or on from X -/
def Lk {α : Type} (o : Option (α × List Nat)) (v : Rv) (C : (Nat → Nat) → Prop) (X : α → (Nat → Nat) → AS) : Prop := (o = none → v = none) ∧ ∀ y, o = some y → ∃ σ, C σ ∧ v = aFin (X y.1 σ) y.2
theorem Lk.bind {α β : Type} {o : Option (α × List Nat)} {v : Rv} {C C' : (Nat → Nat) → Prop} {X : α → (Nat → Nat) → AS} {X' : β → (Nat → Nat) → AS} {f : α × List Nat → Option (β × List Nat)} (h : Lk o v C X) (hf : ∀ y σ, o = some y → C σ → Lk (f y) (aFin (X y.1 σ) y.2) C' X') : Lk (o.bind f) v C' X' := by
  cases o with
  | none => exact ⟨fun _ => h.1 rfl, fun y hy => (by cases hy)⟩
  | some y =>
    obtain ⟨σ, h1, h2⟩ := h.2 y rfl
    rw [h2]
    exact hf y σ rfl h1
theorem Lk.ret {α : Type} {z : α} {r : List Nat} {v : Rv} {C : (Nat → Nat) → Prop} {X : α → (Nat → Nat) → AS} (σ : Nat → Nat) (hC : C σ) (h : v = aFin (X z σ) r) : Lk (some (z, r)) v C X := ⟨fun h => (by cases h), fun y hy => (by cases hy; exact ⟨σ, hC, h⟩)⟩
theorem Lk.non {α : Type} {v : Rv} {C : (Nat → Nat) → Prop} {X : α → (Nat → Nat) → AS} (h : v = none) : Lk none v C X := ⟨fun _ => h, fun y hy => (by cases hy)⟩
theorem setL_id {a b : Nat} {p : Pl} {c : Od} (h1 : topP p ≠ a) (h2 : topP p ≠ b) : setL a b p c = (p, c) := by
  cases p with
  | nil => rfl
  | cons x p => exact if_neg (fun q => q.elim h1 h2)
theorem wOneL_id {p : Pl} {d : Nat} {c : Od} {b : Bd} (h1 : topP p ≠ 3) (h2 : topP p ≠ 5) : wOneL p d c b = (p, d, c, b) := by
  cases p with
  | nil => rfl
  | cons x p => exact (if_neg h1).trans (if_neg h2)
theorem wSinL_id {p : Pl} {d : Nat} {c : Od} (h1 : topP p ≠ 9) : wSinL p d c = (p, d, c) := by
  cases p with
  | nil => rfl
  | cons x p => exact if_neg h1
theorem tWSin_id {d : Nat} {σ : Nat → Nat} {p : Pl} {c : Od} {b : Bd} {lp : List (Bool × Bool)} (h1 : topP p ≠ 9) (h2 : topP p ≠ 11) : tWSin d σ p c b lp = (9, d, σ, p, c, b, lp) := by
  unfold tWSin
  rw [wSinL_id h1]
  exact if_neg h2
theorem tWOne_id {d : Nat} {σ : Nat → Nat} {p : Pl} {c : Od} {b : Bd} {lp : List (Bool × Bool)} (h1 : topP p ≠ 3) (h2 : topP p ≠ 5) : tWOne d σ p c b lp = (1, d, σ, p, c, b, lp) := by
  unfold tWOne
  rw [wOneL_id h1 h2]
/-- settled now or later -/
theorem fin_s8 (d : Nat) (σ : Nat → Nat) (v : Nat × Option Nat) (p : Pl) (c : Od) (b : Bd) (lp : List (Bool × Bool)) : ∀ r, aFin (9, d, σ, (8, v) :: p, c, b, lp) r = aFin (9, d, σ, p, c ++ [(8, 0)], b, lp) r
  | [] => by rw [aFin_e (by decide) (by decide) (by decide), aFin_e (by decide) (by decide) (by decide)]
  | ch :: r => rfl
theorem fin_s7 (d : Nat) (σ : Nat → Nat) (v : Nat × Option Nat) (p : Pl) (c : Od) (b : Bd) (lp : List (Bool × Bool)) : ∀ r, r.headD 0 ≠ 42 → aFin (9, d, σ, (7, v) :: p, c, b, lp) r = aFin (9, d, σ, p, c ++ [(7, 0)], b, lp) r
  | [], _ => by rw [aFin_e (by decide) (by decide) (by decide), aFin_e (by decide) (by decide) (by decide)]
  | ch :: r, h => by
    have h : ch ≠ 42 := h
    show aFin (tAfterSingle ch d σ ((7, v) :: p) c b lp) r = aFin (tAfterSingle ch d σ p (c ++ [(7, 0)]) b lp) r
    unfold tAfterSingle
    rw [if_neg h, if_neg h]
    rfl
theorem fin_s2 (d : Nat) (σ : Nat → Nat) (v : Nat × Option Nat) (p : Pl) (c : Od) (b : Bd) (lp : List (Bool × Bool)) : ∀ r, aFin (1, d, σ, (2, v) :: p, c, b, lp) r = aFin (1, d, σ, p, c ++ [(2, 0)], b, lp) r
  | [] => rfl
  | ch :: r => rfl
theorem fin_s1 (d : Nat) (σ : Nat → Nat) (v : Nat × Option Nat) (p : Pl) (c : Od) (b : Bd) (lp : List (Bool × Bool)) : ∀ r, r.headD 0 ≠ 38 → aFin (1, d, σ, (1, v) :: p, c, b, lp) r = aFin (1, d, σ, p, c ++ [(1, 0)], b, lp) r
  | [], _ => rfl
  | ch :: r, h => by
    have h : ch ≠ 38 := h
    show aFin (tAfterOne ch d σ ((1, v) :: p) c b lp) r = aFin (tAfterOne ch d σ p (c ++ [(1, 0)]) b lp) r
    unfold tAfterOne
    rw [if_neg h, if_neg h]
    rfl
