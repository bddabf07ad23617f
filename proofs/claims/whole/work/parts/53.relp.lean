/-! the reference's rows hold the reader's state -/
def oI : Option Nat → Int32
  | none => -1
  | some q => nI q
def Cod (X : Xr) (c : Od) : Prop := ∀ i x, c[i]? = some x → X 6 i = nI x.1 ∧ (X 7 i = nI x.2 ∨ x.1 = 19 ∨ x.1 = 20)
def Pil (X : Xr) (p : Pl) : Prop := ∀ i x, p.reverse[i]? = some x → X 10 i = nI x.1 ∧ (x.1 = 5 → X 11 i = nI x.2.1 ∧ X 12 i = oI x.2.2)
def Lps (X : Xr) (lp : List (Bool × Bool)) : Prop := ∀ i x, lp[i]? = some x → X 8 i = b2i x.1 ∧ X 9 i = b2i x.2
def RelP (X : Xr) (d : Nat) (σ : Nat → Nat) (p : Pl) (c : Od) (b : Bd) (lp : List (Bool × Bool)) : Prop :=
  X 0 24 = nI d ∧ X 0 19 = nI p.length ∧ X 0 12 = nI c.length ∧ X 0 13 = nI lp.length ∧ Cod X c ∧ Pil X p ∧ (∀ v, v < 6 → X 13 v = oI (b v)) ∧ Lps X lp ∧ ∀ j, 2 ≤ j → j ≤ 11 → X 0 (j + 23) = nI (σ j)
/-- what the reader leaves alone -/
def FrX (X X' : Xr) : Prop := (∀ r, (r = 1 ∨ r = 2 ∨ r = 3 ∨ r = 4 ∨ r = 5 ∨ r = 14 ∨ r = 15 ∨ r = 16) → X' r = X r) ∧ ∀ j, (j < 12 ∨ (13 < j ∧ j < 19) ∨ (19 < j ∧ j < 24) ∨ 34 < j) → X' 0 j = X 0 j
theorem FrX.refl (X : Xr) : FrX X X := ⟨fun _ _ => rfl, fun _ _ => rfl⟩
theorem FrX.trans {X X' X'' : Xr} (h : FrX X X') (h' : FrX X' X'') : FrX X X'' := ⟨fun r hr => (h'.1 r hr).trans (h.1 r hr), fun j hj => (h'.2 j hj).trans (h.2 j hj)⟩
theorem frX_row {X : Xr} {r j : Nat} {v : Int32} (h : r = 6 ∨ r = 7 ∨ r = 8 ∨ r = 9 ∨ r = 10 ∨ r = 11 ∨ r = 12 ∨ r = 13) : FrX X (xs X r j v) := ⟨fun r' hr => xs_row _ _ _ (by omega), fun i _ => by rw [xs_row _ _ _ (by omega)]⟩
theorem frX_fld {X : Xr} {j : Nat} {v : Int32} (h : j = 12 ∨ j = 13 ∨ j = 19 ∨ (24 ≤ j ∧ j ≤ 34)) : FrX X (xs X 0 j v) := ⟨fun r' hr => xs_row _ _ _ (by omega), fun i hi => xs_idx _ _ _ (by omega)⟩
theorem get_push {α : Type} {l : List α} {a x : α} {i : Nat} (h : (l ++ [a])[i]? = some x) : (i < l.length ∧ l[i]? = some x) ∨ (i = l.length ∧ x = a) := by
  by_cases hi : i < l.length
  · rw [List.getElem?_append_left hi] at h
    exact Or.inl ⟨hi, h⟩
  · rw [List.getElem?_append_right (by omega)] at h
    have hz : i - l.length = 0 := by
      have := (List.getElem?_eq_some_iff.mp h).1
      simp at this
      omega
    rw [hz] at h
    cases h
    exact Or.inr ⟨by omega, rfl⟩
section RP
variable {n D m d : Nat} {M : Mem} {X : Xr} {σ : Nat → Nat} {p : Pl} {c : Od} {b : Bd} {lp : List (Bool × Bool)}
theorem R_emit (hL : LayM m M) (h : RelP X d σ p c b lp) (hc : c.length < 260) (w a' : Nat) {a : Int32} (ha : a = nI a' ∨ w = 19 ∨ w = 20) {w' : Int32} (hw : w' = nI w) :
    ∃ X', mR n (D + 1) 81 [.ref m, .int w', .int a] (wR m 17 M X) = some (.inl none, wR m 17 M X') ∧ RelP X' d σ p (c ++ [(w, a')]) b lp ∧ FrX X X' := by
  subst hw
  obtain ⟨r1, r2, r3, r4, r5, r6, r7, r8, r9⟩ := h
  refine ⟨_, x_emit hL r3 hc (nI w) a, ⟨?_, ?_, ?_, ?_, ?_, ?_, ?_, ?_, ?_⟩, ((frX_row (Or.inl rfl)).trans (frX_row (Or.inr (Or.inl rfl)))).trans (frX_fld (Or.inl rfl))⟩
  · simp [xs, r1]
  · simp [xs, r2]
  · simp [xs]
  · simp [xs, r4]
  · intro i x hx
    rcases get_push hx with ⟨hi, hx⟩ | ⟨hi, rfl⟩
    · have hne : i ≠ c.length := by omega
      simpa [xs, hne] using r5 i x hx
    · subst hi
      simp [xs, ha]
  · intro i x hx
    simpa [xs] using r6 i x hx
  · intro v hv
    simpa [xs] using r7 v hv
  · intro i x hx
    simpa [xs] using r8 i x hx
  · intro j h2 h11
    have : ¬ j + 23 = 12 := by omega
    simpa [xs, this] using r9 j h2 h11
theorem R_push (hL : LayM m M) (h : RelP X d σ p c b lp) (hp : p.length < 140) (w : Nat) (h5 : w ≠ 5) {w' : Int32} (hw : w' = nI w) :
    ∃ X', mR n (D + 1) 75 [.ref m, .int w'] (wR m 17 M X) = some (.inl none, wR m 17 M X') ∧ RelP X' d σ ((w, 0, none) :: p) c b lp ∧ FrX X X' := by
  subst hw
  obtain ⟨r1, r2, r3, r4, r5, r6, r7, r8, r9⟩ := h
  refine ⟨_, x_push hL r2 hp (nI w), ⟨?_, ?_, ?_, ?_, ?_, ?_, ?_, ?_, ?_⟩, (frX_row (by omega)).trans (frX_fld (by omega))⟩
  · simp [xs, r1]
  · simp [xs]
  · simp [xs, r3]
  · simp [xs, r4]
  · intro i x hx
    simpa [xs] using r5 i x hx
  · intro i x hx
    rw [List.reverse_cons] at hx
    rcases get_push hx with ⟨hi, hx⟩ | ⟨hi, rfl⟩
    · rw [List.length_reverse] at hi
      have hne : i ≠ p.length := by omega
      simpa [xs, hne] using r6 i x hx
    · rw [List.length_reverse] at hi
      subst hi
      simp [xs, h5]
  · intro v hv
    simpa [xs] using r7 v hv
  · intro i x hx
    simpa [xs] using r8 i x hx
  · intro j h2 h11
    have : ¬ j + 23 = 19 := by omega
    simpa [xs, this] using r9 j h2 h11
theorem R_upper (hL : LayM m M) (h : RelP X d σ p c b lp) (hp : p.length ≤ 140) : mR n (D + 1) 85 [.ref m] (wR m 17 M X) = some (.inl (some (.int (nI (topP p)))), wR m 17 M X) := by
  obtain ⟨r1, r2, r3, r4, r5, r6, r7, r8, r9⟩ := h
  cases p with
  | nil => rw [x_upper0 hL r2]; rfl
  | cons x p =>
    have h1 := (r6 p.length x (by simp)).1
    rw [x_upper hL (o := p.length) r2 (by simp only [List.length_cons] at hp; omega), h1]
    rfl
/-- the upper one goes -/
theorem RelP.pop {x : Nat × Nat × Option Nat} (h : RelP X d σ (x :: p) c b lp) : RelP (xs X 0 19 (nI p.length)) d σ p c b lp := by
  obtain ⟨r1, r2, r3, r4, r5, r6, r7, r8, r9⟩ := h
  refine ⟨?_, ?_, ?_, ?_, ?_, ?_, ?_, ?_, ?_⟩
  · simp [xs, r1]
  · simp [xs]
  · simp [xs, r3]
  · simp [xs, r4]
  · intro i y hy
    simpa [xs] using r5 i y hy
  · intro i y hy
    have hi := (List.getElem?_eq_some_iff.mp hy).1
    have := r6 i y (by rw [List.reverse_cons, List.getElem?_append_left hi]; exact hy)
    simpa [xs] using this
  · intro v hv
    simpa [xs] using r7 v hv
  · intro i y hy
    simpa [xs] using r8 i y hy
  · intro j h2 h11
    have : ¬ j + 23 = 19 := by omega
    simpa [xs, this] using r9 j h2 h11
theorem RelP.dep {e : Nat} (h : RelP X d σ p c b lp) : RelP (xs X 0 24 (nI e)) e σ p c b lp := by
  obtain ⟨r1, r2, r3, r4, r5, r6, r7, r8, r9⟩ := h
  refine ⟨?_, ?_, ?_, ?_, ?_, ?_, ?_, ?_, ?_⟩
  · simp [xs]
  · simp [xs, r2]
  · simp [xs, r3]
  · simp [xs, r4]
  · intro i y hy
    simpa [xs] using r5 i y hy
  · intro i y hy
    simpa [xs] using r6 i y hy
  · intro v hv
    simpa [xs] using r7 v hv
  · intro i y hy
    simpa [xs] using r8 i y hy
  · intro j h2 h11
    have : ¬ j + 23 = 24 := by omega
    simpa [xs, this] using r9 j h2 h11
/-- one of the reader's notes -/
theorem RelP.note (h : RelP X d σ p c b lp) (k v : Nat) (hk : 2 ≤ k) (hk2 : k ≤ 11) : RelP (xs X 0 (k + 23) (nI v)) d (su σ k v) p c b lp := by
  obtain ⟨r1, r2, r3, r4, r5, r6, r7, r8, r9⟩ := h
  have n24 : ¬ 24 = k + 23 := by omega
  have n19 : ¬ 19 = k + 23 := by omega
  have n12 : ¬ 12 = k + 23 := by omega
  have n13 : ¬ 13 = k + 23 := by omega
  refine ⟨?_, ?_, ?_, ?_, ?_, ?_, ?_, ?_, ?_⟩
  · simp [xs, r1, n24]
  · simp [xs, r2, n19]
  · simp [xs, r3, n12]
  · simp [xs, r4, n13]
  · intro i y hy
    simpa [xs] using r5 i y hy
  · intro i y hy
    simpa [xs] using r6 i y hy
  · intro v hv
    simpa [xs] using r7 v hv
  · intro i y hy
    simpa [xs] using r8 i y hy
  · intro j h2 h11
    by_cases hj : j = k
    · subst hj; simp [xs, su]
    · have : ¬ j + 23 = k + 23 := by omega
      simp only [xs, this, and_false, if_false, su, if_neg hj]
      exact r9 j h2 h11
theorem R_close (hL : LayM m M) {x : Nat × Nat × Option Nat} {e : Nat} (h : RelP X (e + 1) σ (x :: p) c b lp) : ∃ X', mR n (D + 1) 86 [.ref m] (wR m 17 M X) = some (.inl none, wR m 17 M X') ∧ RelP X' e σ p c b lp ∧ FrX X X' :=
  ⟨_, x_close hL (o := p.length) h.2.1 h.1, h.pop.dep, (frX_fld (by omega)).trans (frX_fld (by omega))⟩
theorem R_deeper (hL : LayM m M) (h : RelP X d σ p c b lp) (hd : d < 12) (hp : p.length < 140) (w : Nat) (h5 : w ≠ 5) {w' : Int32} (hw : w' = nI w) :
    ∃ X', mR n (D + 2) 74 [.ref m, .int w'] (wR m 17 M X) = some (.inl (some (.int 1)), wR m 17 M X') ∧ RelP X' (d + 1) σ ((w, 0, none) :: p) c b lp ∧ FrX X X' := by
  have h1 := h.dep (e := d + 1)
  obtain ⟨X', g1, g2, g3⟩ := R_push (n := n) (D := D) hL h1 hp w h5 hw
  refine ⟨X', ?_, g2, (frX_fld (by omega)).trans g3⟩
  have hlt : nI d < 12 := nI_lt (b := 12) hd (by decide)
  rw [eM_deeper]
  simp only [fM_deeper_0, mK_wR, hL.1, if_true, wR_at0 (K := 17) (by decide), h.1, if_pos hlt, rzM_e, wR_set0 (K := 17) (by decide), nI_1, g1, rzC_l, rzV_e]
  rfl
theorem R_deeper0 (hL : LayM m M) (h : RelP X d σ p c b lp) (hd : ¬ d < 12) (hd2 : d < 1000) (w' : Int32) : mR n (D + 2) 74 [.ref m, .int w'] (wR m 17 M X) = some (.inl (some (.int 0)), wR m 17 M X) := by
  have hlt : ¬ nI d < 12 := nI_nlt (b := 12) (by omega) (by omega)
  rw [eM_deeper]
  simp only [fM_deeper_0, mK_wR, hL.1, if_true, wR_at0 (K := 17) (by decide), h.1, if_neg hlt]
  rfl
end RP
