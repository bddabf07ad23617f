/-! the reference's orders, run: they come to what the text means -/
abbrev VS : Type := Nat × List Int32 × Ev × (Nat → Nat) × Int32
def lpA (lp : List (Bool × Bool)) (q : Nat) : Bool := (lp.getD q (false, false)).1
def lpS (lp : List (Bool × Bool)) (q : Nat) : Bool := (lp.getD q (false, false)).2
def hlast (lp : List (Bool × Bool)) (n q : Nat) : Int32 := if lpS lp q then hfull n else 8
def v1 (f : Int32 → Int32) : List Int32 → List Int32
  | x :: s => f x :: s
  | s => s
def v2 (f : Int32 → Int32 → Int32) : List Int32 → List Int32
  | y :: x :: s => f x y :: s
  | s => s
def vDo (n w a : Nat) (vals : Ev) (stk : List Int32) : List Int32 :=
  if w = 18 then v2 (fun x y => x + y) stk
  else if w = 16 then v1 (fun x => nI a * x) stk
  else if w = 17 then v1 (fun x => -x) stk
  else if w = 11 then v1 hcount stk
  else if w = 21 then v1 (fun x => b2i (decide (x - x / nI a * nI a = 0))) stk
  else if w = 13 then nI a :: stk
  else if w = 15 then nI n :: stk
  else if w = 14 then vals a :: stk
  else if w = 23 then 0 :: stk
  else if w = 24 then hfull n :: stk
  else if w = 9 then v1 (fun x => hfull n &&& hnot x) stk
  else if w = 3 then v1 (fun x => 1 - x) stk
  else v2 (fun x y => if w = 7 ∨ w = 1 then x ||| y else if w = 8 ∨ w = 2 then x &&& y else if w = 20 then b2i (decide (x = y)) else if w = 19 then b2i (decide (x < y)) else b2i (decide (x &&& hnot y = 0))) stk
def vAny (lp : List (Bool × Bool)) (n : Nat) (cnt : Bool) (a pc : Nat) (t : Int32) (stk : List Int32) (vals : Ev) (sts : Nat → Nat) (good : Int32) : VS :=
  if (cnt && decide (a = 0)) = false ∧ t = (if lpA lp a then 0 else 1) then (pc + 1, t :: stk, vals, sts, good + (if (cnt && decide (a = 0)) = true then t else 0))
  else if vals a < hlast lp n a then (sts a, stk, upE vals a (vals a + 1), sts, good + (if (cnt && decide (a = 0)) = true then t else 0))
  else (pc + 1, (if lpA lp a then 1 else 0) :: stk, vals, sts, good + (if (cnt && decide (a = 0)) = true then t else 0))
def vStep (code : Od) (lp : List (Bool × Bool)) (n : Nat) (cnt : Bool) (s : VS) : VS :=
  if (code.getD s.1 (0, 0)).1 = 12 then (s.1 + 1, s.2.1, upE s.2.2.1 (code.getD s.1 (0, 0)).2 (lo0 (lpS lp (code.getD s.1 (0, 0)).2)), (fun q => if q = (code.getD s.1 (0, 0)).2 then s.1 + 1 else s.2.2.2.1 q), s.2.2.2.2)
  else if (code.getD s.1 (0, 0)).1 = 5 then vAny lp n cnt (code.getD s.1 (0, 0)).2 s.1 (s.2.1.headD 0) s.2.1.tail s.2.2.1 s.2.2.2.1 s.2.2.2.2
  else (s.1 + 1, vDo n (code.getD s.1 (0, 0)).1 (code.getD s.1 (0, 0)).2 s.2.2.1 s.2.1, s.2.2.1, s.2.2.2.1, s.2.2.2.2)
/-- how much an order takes from the pile -/
def need (w : Nat) : Nat := if w = 12 ∨ w = 13 ∨ w = 14 ∨ w = 15 ∨ w = 23 ∨ w = 24 then 0 else if w = 5 ∨ w = 16 ∨ w = 17 ∨ w = 11 ∨ w = 21 ∨ w = 9 ∨ w = 3 then 1 else 2
/-- an order that can be done -/
def Okv (lp : List (Bool × Bool)) (w a : Nat) (stk : List Int32) : Prop := need w ≤ stk.length ∧ stk.length ≤ 255 ∧ (w = 12 ∨ w = 5 → a < lp.length) ∧ (w = 14 → a < 4) ∧ w ≤ 24 ∧ (w = 21 → a ≠ 0) ∧ a < 10000
/-- t steps, none behind the end -/
def Rn (code : Od) (lp : List (Bool × Bool)) (n : Nat) (cnt : Bool) : Nat → VS → VS → Prop
  | 0, s, s' => s = s'
  | t + 1, s, s' => (s.1 < code.length ∧ Okv lp (code.getD s.1 (0, 0)).1 (code.getD s.1 (0, 0)).2 s.2.1) ∧ Rn code lp n cnt t (vStep code lp n cnt s) s'
theorem Rn.trans {code : Od} {lp : List (Bool × Bool)} {n : Nat} {cnt : Bool} : ∀ {t1 t2 : Nat} {s s' s'' : VS}, Rn code lp n cnt t1 s s' → Rn code lp n cnt t2 s' s'' → Rn code lp n cnt (t1 + t2) s s''
  | 0, t2, s, s', s'', h1, h2 => by
    have h1 : s = s' := h1
    subst h1
    rw [Nat.zero_add]
    exact h2
  | t1 + 1, t2, s, s', s'', h1, h2 => by
    rw [Nat.succ_add]
    exact ⟨h1.1, Rn.trans h1.2 h2⟩
theorem Rn.one {code : Od} {lp : List (Bool × Bool)} {n : Nat} {cnt : Bool} {s s' : VS} (h : s.1 < code.length) (ho : Okv lp (code.getD s.1 (0, 0)).1 (code.getD s.1 (0, 0)).2 s.2.1) (e : vStep code lp n cnt s = s') : Rn code lp n cnt 1 s s' := ⟨⟨h, ho⟩, e⟩
theorem at_mid {pre c post : Od} {x : Nat × Nat} : (pre ++ (c ++ [x]) ++ post).getD (pre.length + c.length) (0, 0) = x := by
  rw [List.getD_eq_getElem?_getD, List.append_assoc, List.getElem?_append_right (by omega)]
  simp
/-- without loops: the orders c put D on the pile -/
def SOK (n : Nat) (c : Od) (D : Ev → Int32) : Prop := ∀ (code pre post : Od) (lp : List (Bool × Bool)) (cnt : Bool), code = pre ++ c ++ post → ∀ (stk : List Int32) (vals : Ev) (sts : Nat → Nat) (good : Int32), stk.length + c.length ≤ 255 →
  Rn code lp n cnt c.length (pre.length, stk, vals, sts, good) (pre.length + c.length, D vals :: stk, vals, sts, good)
theorem sok_step {n : Nat} {code pre c post : Od} {w a : Nat} {lp : List (Bool × Bool)} {cnt : Bool} (hc : code = pre ++ (c ++ [(w, a)]) ++ post) (h12 : w ≠ 12) (h5 : w ≠ 5) {stk stk' : List Int32} {vals : Ev} {sts : Nat → Nat} {good : Int32} (ho : Okv lp w a stk) (hd : vDo n w a vals stk = stk') :
    Rn code lp n cnt 1 (pre.length + c.length, stk, vals, sts, good) (pre.length + (c ++ [(w, a)]).length, stk', vals, sts, good) := by
  have hat : code.getD (pre.length + c.length) (0, 0) = (w, a) := by rw [hc]; exact at_mid
  refine Rn.one (by rw [hc]; simp) (by show Okv lp (code.getD (pre.length + c.length) (0, 0)).1 (code.getD (pre.length + c.length) (0, 0)).2 stk; rw [hat]; exact ho) ?_
  simp only [vStep, hat, if_neg h12, if_neg h5, hd, List.length_append, List.length_cons, List.length_nil, Nat.zero_add, Nat.add_assoc]
theorem sok_leaf {n w a : Nat} {D : Ev → Int32} (h12 : w ≠ 12) (h5 : w ≠ 5) (hok : need w = 0 ∧ (w = 14 → a < 4) ∧ w ≤ 24 ∧ w ≠ 21 ∧ a < 10000) (hd : ∀ vals stk, vDo n w a vals stk = D vals :: stk) : SOK n [(w, a)] D := by
  intro code pre post lp cnt hc stk vals sts good hst
  simp only [List.length_cons, List.length_nil] at hst
  exact sok_step (c := []) hc h12 h5 ⟨by rw [hok.1]; exact Nat.zero_le _, by omega, fun q => absurd q (by omega), hok.2.1, hok.2.2.1, fun q => absurd q hok.2.2.2.1, hok.2.2.2.2⟩ (hd vals stk)
theorem sok_un {n w a : Nat} {c : Od} {D : Ev → Int32} {g : Int32 → Int32} (h : SOK n c D) (h12 : w ≠ 12) (h5 : w ≠ 5) (hok : need w ≤ 1 ∧ w ≠ 14 ∧ w ≤ 24 ∧ (w = 21 → a ≠ 0) ∧ a < 10000) (hd : ∀ x vals stk, vDo n w a vals (x :: stk) = g x :: stk) : SOK n (c ++ [(w, a)]) (fun v => g (D v)) := by
  intro code pre post lp cnt hc stk vals sts good hst
  simp only [List.length_append, List.length_cons, List.length_nil] at hst
  have h1 := h code pre ([(w, a)] ++ post) lp cnt (by rw [hc]; simp) stk vals sts good (by omega)
  have h2 := sok_step (n := n) (lp := lp) (cnt := cnt) (stk := D vals :: stk) (vals := vals) (sts := sts) (good := good) hc h12 h5 ⟨by have := hok.1; simp only [List.length_cons]; omega, by simp only [List.length_cons]; omega, fun q => absurd q (by omega), fun q => absurd q hok.2.1, hok.2.2.1, hok.2.2.2.1, hok.2.2.2.2⟩ (hd (D vals) vals stk)
  have h3 := h1.trans h2
  simpa using h3
theorem sok_bin {n w a : Nat} {c1 c2 : Od} {D1 D2 : Ev → Int32} {g : Int32 → Int32 → Int32} (h1 : SOK n c1 D1) (h2 : SOK n c2 D2) (hl1 : 1 ≤ c1.length) (h12 : w ≠ 12) (h5 : w ≠ 5) (hok : need w ≤ 2 ∧ w ≠ 14 ∧ w ≤ 24 ∧ w ≠ 21 ∧ a < 10000) (hd : ∀ x y vals stk, vDo n w a vals (y :: x :: stk) = g x y :: stk) : SOK n (c1 ++ c2 ++ [(w, a)]) (fun v => g (D1 v) (D2 v)) := by
  intro code pre post lp cnt hc stk vals sts good hst
  simp only [List.length_append, List.length_cons, List.length_nil] at hst
  have k1 := h1 code pre (c2 ++ [(w, a)] ++ post) lp cnt (by rw [hc]; simp) stk vals sts good (by omega)
  have k2 := h2 code (pre ++ c1) ([(w, a)] ++ post) lp cnt (by rw [hc]; simp) (D1 vals :: stk) vals sts good (by simp only [List.length_cons]; omega)
  have k3 := sok_step (n := n) (lp := lp) (cnt := cnt) (stk := D2 vals :: D1 vals :: stk) (vals := vals) (sts := sts) (good := good) hc h12 h5 ⟨by have := hok.1; simp only [List.length_cons]; omega, by simp only [List.length_cons]; omega, fun q => absurd q (by omega), fun q => absurd q hok.2.1, hok.2.2.1, fun q => absurd q hok.2.2.2.1, hok.2.2.2.2⟩ (hd (D1 vals) (D2 vals) vals stk)
  rw [List.length_append] at k2
  have k4 := (k1.trans k2).trans (by rw [List.length_append, ← Nat.add_assoc] at k3; exact k3)
  have k5 : (c1 ++ c2 ++ [(w, a)]).length = c1.length + c2.length + 1 := by simp [Nat.add_assoc]
  rw [k5] at k4 ⊢
  exact k4
def SOA (c : Od) (D : Dn) : Prop := 1 ≤ c.length ∧ ∀ n, SOK n c (D n)
def SOF (c : Od) (D : DF) : Prop := 1 ≤ c.length ∧ ∀ n, SOK n c (fun e => b2i (D n e))
theorem len1 {c : Od} {x : Nat × Nat} : 1 ≤ (c ++ [x]).length := by simp
theorem vrS_lt {b : Bd} (hb : ∀ v q, b v = some q → q < 4) {c q : Nat} (h : vrS b c = some q) : q < 4 := by
  unfold vrS at h
  obtain ⟨v, h1, h2⟩ := Option.bind_eq_some_iff.mp h
  split at h2
  · exact hb v q h2
  · cases h2
theorem vrN_lt {b : Bd} (hb : ∀ v q, b v = some q → q < 4) {c q : Nat} (h : vrN b c = some q) : q < 4 := by
  unfold vrN at h
  obtain ⟨v, h1, h2⟩ := Option.bind_eq_some_iff.mp h
  split at h2
  · exact hb v q h2
  · cases h2
theorem so_cl {b : Bd} (hb : ∀ v q, b v = some q → q < 4) : ClC b SOA SOA SOA SOF := by
  refine ⟨⟨⟨⟨by decide, fun n => sok_leaf (by decide) (by decide) ⟨by decide, by decide, by decide, by decide, by decide⟩ (fun vals stk => rfl)⟩, ⟨by decide, fun n => sok_leaf (by decide) (by decide) ⟨by decide, by decide, by decide, by decide, by decide⟩ (fun vals stk => rfl)⟩, fun q c hq => ⟨by simp, fun n => sok_leaf (by decide) (by decide) ⟨rfl, fun _ => vrS_lt hb hq, by decide, by decide, by have := vrS_lt hb hq; omega⟩ (fun vals stk => rfl)⟩, fun c D h => ⟨len1, fun n => sok_un (g := fun x => hfull n &&& hnot x) (h.2 n) (by decide) (by decide) ⟨by decide, by decide, by decide, fun q => absurd q (by decide), by decide⟩ (fun x vals stk => rfl)⟩, fun c1 D1 c2 D2 h1 h2 => ⟨len1, fun n => sok_bin (g := fun x y => x &&& y) (h1.2 n) (h2.2 n) h1.1 (by decide) (by decide) ⟨by decide, by decide, by decide, by decide, by decide⟩ (fun x y vals stk => rfl)⟩, fun c1 D1 c2 D2 h1 h2 => ⟨len1, fun n => sok_bin (g := fun x y => x ||| y) (h1.2 n) (h2.2 n) h1.1 (by decide) (by decide) ⟨by decide, by decide, by decide, by decide, by decide⟩ (fun x y vals stk => rfl)⟩⟩, ⟨by decide, fun n => sok_leaf (by decide) (by decide) ⟨by decide, by decide, by decide, by decide, by decide⟩ (fun vals stk => rfl)⟩, fun c D h => ⟨len1, fun n => sok_un (g := hcount) (h.2 n) (by decide) (by decide) ⟨by decide, by decide, by decide, fun q => absurd q (by decide), by decide⟩ (fun x vals stk => rfl)⟩, fun q c hq => ⟨by simp, fun n => sok_leaf (by decide) (by decide) ⟨rfl, fun _ => vrN_lt hb hq, by decide, by decide, by have := vrN_lt hb hq; omega⟩ (fun vals stk => rfl)⟩, fun c D h => h, fun v hv => ⟨by simp, fun n => sok_leaf (by decide) (by decide) ⟨rfl, fun q => absurd q (by decide), by decide, by decide, by omega⟩ (fun vals stk => rfl)⟩, fun v c D hv h => ⟨len1, fun n => sok_un (g := fun x => nI v * x) (h.2 n) (by decide) (by decide) ⟨by decide, by decide, by decide, fun q => absurd q (by decide), by omega⟩ (fun x vals stk => rfl)⟩, fun c D h => ⟨len1, fun n => sok_un (g := fun x => - x) (h.2 n) (by decide) (by decide) ⟨by decide, by decide, by decide, fun q => absurd q (by decide), by decide⟩ (fun x vals stk => rfl)⟩, fun c1 D1 c2 D2 h1 h2 => ⟨len1, fun n => sok_bin (g := fun x y => x + y) (h1.2 n) (h2.2 n) h1.1 (by decide) (by decide) ⟨by decide, by decide, by decide, by decide, by decide⟩ (fun x y vals stk => rfl)⟩⟩, fun c1 D1 c2 D2 h1 h2 => ⟨⟨len1, fun n => sok_bin (g := fun x y => b2i (decide (x < y))) (h1.2 n) (h2.2 n) h1.1 (by decide) (by decide) ⟨by decide, by decide, by decide, by decide, by decide⟩ (fun x y vals stk => rfl)⟩, ⟨len1, fun n => sok_bin (g := fun x y => b2i (decide (x = y))) (h1.2 n) (h2.2 n) h1.1 (by decide) (by decide) ⟨by decide, by decide, by decide, by decide, by decide⟩ (fun x y vals stk => rfl)⟩⟩, fun v c D hv0 hv h => ⟨len1, fun n => sok_un (g := fun x => b2i (decide (x - x / nI v * nI v = 0))) (h.2 n) (by decide) (by decide) ⟨by decide, by decide, by decide, fun _ => hv0, by omega⟩ (fun x vals stk => rfl)⟩, fun c1 D1 c2 D2 h1 h2 => ⟨⟨len1, fun n => sok_bin (g := fun x y => b2i (decide (x &&& hnot y = 0))) (h1.2 n) (h2.2 n) h1.1 (by decide) (by decide) ⟨by decide, by decide, by decide, by decide, by decide⟩ (fun x y vals stk => rfl)⟩, ⟨len1, fun n => sok_bin (g := fun x y => b2i (decide (x = y))) (h1.2 n) (h2.2 n) h1.1 (by decide) (by decide) ⟨by decide, by decide, by decide, by decide, by decide⟩ (fun x y vals stk => rfl)⟩⟩⟩
/-- what a meaning depends on -/
def AgB (b : Bd) (e e' : Ev) : Prop := ∀ v q, b v = some q → e q = e' q
def DpA (b : Bd) (_ : Od) (D : Dn) : Prop := ∀ n e e', AgB b e e' → D n e = D n e'
def DpF (b : Bd) (_ : Od) (D : DF) : Prop := ∀ n e e', AgB b e e' → D n e = D n e'
theorem vrS_b {b : Bd} {c q : Nat} (h : vrS b c = some q) : ∃ v, varO c = some v ∧ 3 ≤ v ∧ b v = some q := by
  unfold vrS at h
  obtain ⟨v, h1, h2⟩ := Option.bind_eq_some_iff.mp h
  split at h2
  · exact ⟨v, h1, by assumption, h2⟩
  · cases h2
theorem vrN_b {b : Bd} {c q : Nat} (h : vrN b c = some q) : ∃ v, varO c = some v ∧ v < 3 ∧ b v = some q := by
  unfold vrN at h
  obtain ⟨v, h1, h2⟩ := Option.bind_eq_some_iff.mp h
  split at h2
  · exact ⟨v, h1, by assumption, h2⟩
  · cases h2
theorem dp_cl (b : Bd) : ClC b (DpA b) (DpA b) (DpA b) (DpF b) := by
  refine ⟨⟨⟨fun n e e' h => rfl, fun n e e' h => rfl, fun q c hq n e e' h => ?_, fun c D g n e e' h => ?_, fun c1 D1 c2 D2 g1 g2 n e e' h => ?_, fun c1 D1 c2 D2 g1 g2 n e e' h => ?_⟩, fun n e e' h => rfl, fun c D g n e e' h => ?_, fun q c hq n e e' h => ?_, fun c D g => g, fun v _ n e e' h => rfl, fun v c D _ g n e e' h => ?_, fun c D g n e e' h => ?_, fun c1 D1 c2 D2 g1 g2 n e e' h => ?_⟩, fun c1 D1 c2 D2 g1 g2 => ⟨fun n e e' h => ?_, fun n e e' h => ?_⟩, fun v c D _ _ g n e e' h => ?_, fun c1 D1 c2 D2 g1 g2 => ⟨fun n e e' h => ?_, fun n e e' h => ?_⟩⟩
  · obtain ⟨v, -, -, h3⟩ := vrS_b hq
    exact h v q h3
  · simp only [g n e e' h]
  · simp only [g1 n e e' h, g2 n e e' h]
  · simp only [g1 n e e' h, g2 n e e' h]
  · simp only [g n e e' h]
  · obtain ⟨v, -, -, h3⟩ := vrN_b hq
    exact h v q h3
  · simp only [g n e e' h]
  · simp only [g n e e' h]
  · simp only [g1 n e e' h, g2 n e e' h]
  · simp only [g1 n e e' h, g2 n e e' h]
  · simp only [g1 n e e' h, g2 n e e' h]
  · simp only [g n e e' h]
  · simp only [g1 n e e' h, g2 n e e' h]
  · simp only [g1 n e e' h, g2 n e e' h]
theorem qfr_congr {isAll : Bool} {p p' : Nat → Bool} (h : ∀ k, p k = p' k) : ∀ j k, qfr isAll p k j = qfr isAll p' k j
  | 0, k => h k
  | j + 1, k => by simp only [qfr, h, qfr_congr h j]
theorem agB_up {b : Bd} {e e' : Ev} {i q : Nat} {z : Int32} (h : AgB b e e') : AgB (fun j => if j = i then some q else b j) (upE e q z) (upE e' q z) := by
  intro v q' hv
  by_cases hq : q' = q
  · simp [upE, hq]
  · simp only [upE, if_neg hq]
    simp only at hv
    split at hv
    · cases hv; exact absurd rfl hq
    · exact h v q' hv
/-- formulas: what they depend on -/
theorem pF_dep : ∀ (k w : Nat) (acc : FvT) (d : Nat) (b : Bd) (ts : List Nat) (y : FvT × List Nat), pF k w acc d b ts = some y → (3 ≤ w → DpF b [] acc.1.2.1) → DpF b [] y.1.1.2.1 := by
  intro k
  induction k with
  | zero => intro w acc d b ts y h; cases h
  | succ k ih =>
    intro w acc d b ts y h hacc
    unfold pF at h
    split at h
    · split at h
      · cases ts with
        | nil => cases h
        | cons c r =>
          simp only at h
          split at h
          · obtain ⟨z, h1, h2⟩ := Option.bind_eq_some_iff.mp h
            cases h2
            have h3 := ih _ _ _ _ _ _ h1 (by omega)
            intro n e e' he
            simp only [h3 n e e' he]
          · split at h
            · split at h
              · split at h
                · cases h
                · obtain ⟨i, g1, g2⟩ := Option.bind_eq_some_iff.mp h
                  obtain ⟨z, h1, h2⟩ := Option.bind_eq_some_iff.mp g2
                  cases h2
                  have h3 := ih _ _ _ _ _ _ h1 (by omega)
                  intro n e e' he
                  show (hqnt (decide (c = 65)) (decide (3 ≤ i)) n fun x => z.1.1.2.1 n (upE e acc.2.length x)) = hqnt (decide (c = 65)) (decide (3 ≤ i)) n fun x => z.1.1.2.1 n (upE e' acc.2.length x)
                  exact qfr_congr (fun k => h3 n _ _ (agB_up he)) _ _
              · cases h
            · split at h
              · obtain ⟨z, h1, h2⟩ := Option.bind_eq_some_iff.mp h
                obtain ⟨e1, e2⟩ := cx_some h2
                have h3 := ih 2 _ _ _ _ _ h1 (by omega)
                rw [e1]
                exact h3
              · split at h
                · obtain ⟨z, h1, h2⟩ := Option.bind_eq_some_iff.mp h
                  cases h2
                  exact pB_ind (dp_cl b) h1
                · obtain ⟨z, h1, h2⟩ := Option.bind_eq_some_iff.mp h
                  cases h2
                  exact pC_ind (dp_cl b) h1
      · cases h
    · split at h
      · obtain ⟨z, h1, h2⟩ := Option.bind_eq_some_iff.mp h
        exact ih _ _ _ _ _ _ h2 (fun _ => ih _ _ _ _ _ _ h1 (by omega))
      · split at h
        · obtain ⟨z, h1, h2⟩ := Option.bind_eq_some_iff.mp h
          exact ih _ _ _ _ _ _ h2 (fun _ => ih _ _ _ _ _ _ h1 (by omega))
        · have hw : 3 ≤ w := by omega
          split at h
          · cases ts with
            | nil => cases h; exact hacc hw
            | cons c r =>
              simp only at h
              split at h
              · obtain ⟨z, h1, h2⟩ := Option.bind_eq_some_iff.mp h
                have h3 := ih _ _ _ _ _ _ h1 (by omega)
                exact ih _ _ _ _ _ _ h2 (fun _ n e e' he => by simp only [hacc hw n e e' he, h3 n e e' he])
              · cases h; exact hacc hw
          · cases ts with
            | nil => cases h; exact hacc hw
            | cons c r =>
              simp only at h
              split at h
              · obtain ⟨z, h1, h2⟩ := Option.bind_eq_some_iff.mp h
                have h3 := ih _ _ _ _ _ _ h1 (by omega)
                exact ih _ _ _ _ _ _ h2 (fun _ n e e' he => by simp only [hacc hw n e e' he, h3 n e e' he])
              · cases h; exact hacc hw
/-- formulas: the orders c put D on the pile; their loops are lo .. hi - 1, of the kinds lpX -/
def COK (n : Nat) (c : Od) (D : Ev → Bool) (lo hi : Nat) (lpX : List (Bool × Bool)) : Prop :=
  ∀ (code pre post : Od) (lp : List (Bool × Bool)) (cnt : Bool), code = pre ++ c ++ post → lpX <+: lp → (cnt = true → 1 ≤ lo) → ∀ (stk : List Int32) (vals : Ev) (sts : Nat → Nat) (good : Int32), stk.length + c.length ≤ 255 →
    ∃ (t : Nat) (vals' : Ev) (sts' : Nat → Nat), t ≤ c.length * 18 ^ (hi - lo) ∧ Rn code lp n cnt t (pre.length, stk, vals, sts, good) (pre.length + c.length, b2i (D vals) :: stk, vals', sts', good) ∧ (∀ q, q < lo → vals' q = vals q) ∧ ∀ q, q < lo → sts' q = sts q
theorem cok_of {n : Nat} {c : Od} {D : Ev → Bool} {lo hi : Nat} {lpX : List (Bool × Bool)} (h : SOK n c (fun e => b2i (D e))) : COK n c D lo hi lpX := by
  intro code pre post lp cnt hc _ _ stk vals sts good hst
  exact ⟨c.length, vals, sts, Nat.le_mul_of_pos_right _ (Nat.pow_pos (by decide)), h code pre post lp cnt hc stk vals sts good hst, fun _ _ => rfl, fun _ _ => rfl⟩
theorem cok_not {n : Nat} {c : Od} {D : Ev → Bool} {lo hi : Nat} {lpX : List (Bool × Bool)} (h : COK n c D lo hi lpX) : COK n (c ++ [(3, 0)]) (fun e => !(D e)) lo hi lpX := by
  intro code pre post lp cnt hc hlp hcn stk vals sts good hst
  simp only [List.length_append, List.length_cons, List.length_nil] at hst
  obtain ⟨t, vals', sts', h1, h2, h3, h4⟩ := h code pre ([(3, 0)] ++ post) lp cnt (by rw [hc]; simp) hlp hcn stk vals sts good (by omega)
  have h5 : vDo n 3 0 vals' (b2i (D vals) :: stk) = b2i (!(D vals)) :: stk := by
    show ((1 : Int32) - b2i (D vals)) :: stk = _
    cases D vals <;> rfl
  refine ⟨t + 1, vals', sts', ?_, h2.trans (sok_step hc (by decide) (by decide) ⟨by simp only [List.length_cons]; exact Nat.le_add_left 1 _, by simp only [List.length_cons]; omega, fun q => absurd q (by decide), fun q => absurd q (by decide), by decide, fun q => absurd q (by decide), by decide⟩ h5), h3, h4⟩
  have h6 : 0 < 18 ^ (hi - lo) := Nat.pow_pos (by decide)
  rw [List.length_append, List.length_cons, List.length_nil, Nat.add_mul]
  omega
theorem cok_bin {n w : Nat} {c1 c2 : Od} {D1 D2 : Ev → Bool} {lo mid hi : Nat} {lp1 lp2 : List (Bool × Bool)} {g : Bool → Bool → Bool} (hm1 : lo ≤ mid) (hm2 : mid ≤ hi) (hp : lp1 <+: lp2) (h1 : COK n c1 D1 lo mid lp1) (h2 : COK n c2 D2 mid hi lp2) (hd : ∀ e e' : Ev, (∀ q, q < lo → e q = e' q) → D2 e = D2 e') (hl1 : 1 ≤ c1.length) (h12 : w ≠ 12) (h5 : w ≠ 5) (hok : need w ≤ 2 ∧ w ≠ 14 ∧ w ≤ 24 ∧ w ≠ 21) (hg : ∀ x y vals stk, vDo n w 0 vals (b2i y :: b2i x :: stk) = b2i (g x y) :: stk) :
    COK n (c1 ++ c2 ++ [(w, 0)]) (fun e => g (D1 e) (D2 e)) lo hi lp2 := by
  intro code pre post lp cnt hc hlp hcn stk vals sts good hst
  simp only [List.length_append, List.length_cons, List.length_nil] at hst
  obtain ⟨t1, v1', s1', a1, a2, a3, a4⟩ := h1 code pre (c2 ++ [(w, 0)] ++ post) lp cnt (by rw [hc]; simp) (hp.trans hlp) hcn stk vals sts good (by omega)
  obtain ⟨t2, v2', s2', b1, b2, b3, b4⟩ := h2 code (pre ++ c1) ([(w, 0)] ++ post) lp cnt (by rw [hc]; simp) hlp (fun h => Nat.le_trans (hcn h) hm1) (b2i (D1 vals) :: stk) v1' s1' good (by simp only [List.length_cons]; omega)
  have e2 : D2 v1' = D2 vals := hd _ _ a3
  rw [e2, List.length_append] at b2
  have k3 := sok_step (n := n) (lp := lp) (cnt := cnt) (stk := b2i (D2 vals) :: b2i (D1 vals) :: stk) (vals := v2') (sts := s2') (good := good) hc h12 h5 ⟨by have := hok.1; simp only [List.length_cons]; omega, by simp only [List.length_cons]; omega, fun q => absurd q (by omega), fun q => absurd q hok.2.1, hok.2.2.1, fun q => absurd q hok.2.2.2, by decide⟩ (hg (D1 vals) (D2 vals) v2' stk)
  have k4 := (a2.trans b2).trans (by rw [List.length_append, ← Nat.add_assoc] at k3; exact k3)
  refine ⟨t1 + t2 + 1, v2', s2', ?_, k4, fun q hq => (b3 q (by omega)).trans (a3 q hq), fun q hq => (b4 q (by omega)).trans (a4 q hq)⟩
  have h6 : 0 < 18 ^ (hi - lo) := Nat.pow_pos (by decide)
  have h7 : 18 ^ (mid - lo) ≤ 18 ^ (hi - lo) := Nat.pow_le_pow_right (by decide) (by omega)
  have h8 : 18 ^ (hi - mid) ≤ 18 ^ (hi - lo) := Nat.pow_le_pow_right (by decide) (by omega)
  have h9 := Nat.mul_le_mul_left c1.length h7
  have h10 := Nat.mul_le_mul_left c2.length h8
  rw [List.length_append, List.length_append, List.length_cons, List.length_nil, Nat.add_mul, Nat.add_mul]
  omega
