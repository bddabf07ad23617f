/-! the reader over a whole text, in memory -/
def FrS (X X' : Xr) : Prop := (∀ r, (r = 1 ∨ r = 2 ∨ r = 3 ∨ r = 4 ∨ r = 5 ∨ r = 14 ∨ r = 15 ∨ r = 16) → X' r = X r) ∧ ∀ j, (j < 11 ∨ (13 < j ∧ j < 18) ∨ (19 < j ∧ j < 24) ∨ 34 < j) → X' 0 j = X 0 j
theorem FrS.refl (X : Xr) : FrS X X := ⟨fun _ _ => rfl, fun _ _ => rfl⟩
theorem FrS.trans {X X' X'' : Xr} (h : FrS X X') (h' : FrS X' X'') : FrS X X'' := ⟨fun r hr => (h'.1 r hr).trans (h.1 r hr), fun j hj => (h'.2 j hj).trans (h.2 j hj)⟩
theorem FrX.s {X X' : Xr} (h : FrX X X') : FrS X X' := ⟨h.1, fun j hj => h.2 j (by omega)⟩
theorem frS_fld {X : Xr} {j : Nat} {v : Int32} (h : j = 11 ∨ j = 12 ∨ j = 13 ∨ j = 18 ∨ j = 19 ∨ (24 ≤ j ∧ j ≤ 34)) : FrS X (xs X 0 j v) := ⟨fun r' hr => xs_row _ _ _ (by omega), fun i hi => xs_idx _ _ _ (by omega)⟩
theorem frS_row {X : Xr} {r j : Nat} {v : Int32} (h : r = 6 ∨ r = 7 ∨ r = 8 ∨ r = 9 ∨ r = 10 ∨ r = 11 ∨ r = 12 ∨ r = 13) : FrS X (xs X r j v) := (frX_row h).s
/-- a field that the reader's state doesn't speak of -/
theorem RelP.oth {X : Xr} {d : Nat} {σ : Nat → Nat} {p : Pl} {c : Od} {b : Bd} {lp : List (Bool × Bool)} (h : RelP X d σ p c b lp) {j : Nat} (v : Int32) (hj : j = 11 ∨ j = 18) : RelP (xs X 0 j v) d σ p c b lp := by
  obtain ⟨r1, r2, r3, r4, r5, r6, r7, r8, r9⟩ := h
  have e6 : xs X 0 j v 6 = X 6 := xs_row _ _ _ (by omega)
  have e7 : xs X 0 j v 7 = X 7 := xs_row _ _ _ (by omega)
  have e8 : xs X 0 j v 8 = X 8 := xs_row _ _ _ (by omega)
  have e9 : xs X 0 j v 9 = X 9 := xs_row _ _ _ (by omega)
  have e10 : xs X 0 j v 10 = X 10 := xs_row _ _ _ (by omega)
  have e11 : xs X 0 j v 11 = X 11 := xs_row _ _ _ (by omega)
  have e12 : xs X 0 j v 12 = X 12 := xs_row _ _ _ (by omega)
  have e13 : xs X 0 j v 13 = X 13 := xs_row _ _ _ (by omega)
  refine ⟨by rw [xs_idx _ _ _ (by omega)]; exact r1, by rw [xs_idx _ _ _ (by omega)]; exact r2, by rw [xs_idx _ _ _ (by omega)]; exact r3, by rw [xs_idx _ _ _ (by omega)]; exact r4, fun i x hx => by rw [e6, e7]; exact r5 i x hx, fun i x hx => by rw [e10, e11, e12]; exact r6 i x hx, fun v hv => by rw [e13]; exact r7 v hv, fun i x hx => by rw [e8, e9]; exact r8 i x hx, fun i h2 h11 => by rw [xs_idx _ _ _ (by omega)]; exact r9 i h2 h11⟩
/-- the notes are some notes -/
def SigX (X : Xr) : Prop := ∃ τ : Nat → Nat, Sig τ ∧ ∀ j, 2 ≤ j → j ≤ 11 → X 0 (j + 23) = nI (τ j)
/-- what a reading that took leaves behind: orders, loops, whether it opens with A or E -/
def TookX (X : Xr) (y : Od × List (Bool × Bool)) (o : Bool) : Prop := Cod X y.1 ∧ X 0 12 = nI y.1.length ∧ X 0 13 = nI y.2.length ∧ Lps X y.2 ∧ X 0 11 = b2i o
section RSs
variable {n D m d k st : Nat} {M : Mem} {X : Xr} {σ : Nat → Nat} {p : Pl} {c : Od} {b : Bd} {lp : List (Bool × Bool)} {o : Bool}
theorem b2i_eq0 (x : Bool) : b2i x = 0 ↔ x = false := by cases x <;> decide
theorem R_185 (hn : 200 ≤ n) (hL : LayM m M) (h18 : X 0 18 = nI st) (hst : st ≤ 10) (h : RelP X d σ p c b lp) (hP : PI p d k) (hs : Sig σ) (hk : k ≤ 135) (hq : c.length + wsum p ≤ 260) (h11 : X 0 11 = b2i o) :
    ∃ X', fM_isSentence_185 n (D + 2) (mR n (D + 2)) m (wR m 17 M X) = some (.inl (some (.int (b2i (if st = 1 then acP (setL 2 1 p c).1 (setL 2 1 p c).2 lp else none).isSome))), wR m 17 M X') ∧ FrS X X' ∧ SigX X' ∧ ∀ y, (if st = 1 then acP (setL 2 1 p c).1 (setL 2 1 p c).2 lp else none) = some y → TookX X' y o := by
  by_cases h1 : st = 1
  · subst h1
    obtain ⟨X1, g1, g2, g3⟩ := R_settleM (n := n) (D := D) (a := 2) (a2 := 1) hn hL (by decide) (by decide) (by have := hP.1; omega) hP.2.2.1 hq h (w := 2) (w2 := 1) rfl rfl
    have hP1 := setL_PI (a := 2) (b' := 1) (fun _ => rfl) (fun _ => rfl) p c d k hP
    have z1 : nI 1 = 1 := rfl
    have h19 := g2.2.1
    have e11 : X1 0 11 = b2i o := by rw [g3.2 11 (by omega)]; exact h11
    rw [if_pos rfl]
    refine ⟨X1, ?_, g3.s, ⟨σ, hs, g2.2.2.2.2.2.2.2.2⟩, ?_⟩
    · have hl := hP1.1
      cases hp : (setL 2 1 p c).1 with
      | nil =>
        rw [hp] at h19
        have z19 : X1 0 19 = 0 := h19
        simp only [fM_isSentence_185, fM_isSentence_213, mK_wR, hL.1, if_true, wR_at0 (K := 17) (by decide), h18, if_pos z1, g1, rzC_l, rzV_e, z19, fb1]
        rfl
      | cons x r =>
        rw [hp] at h19 hl
        simp only [List.length_cons] at hl
        have z19 : ¬ X1 0 19 = 0 := by rw [h19]; exact nI_ne0 (by simp) (by simp only [List.length_cons]; omega)
        simp only [fM_isSentence_185, fM_isSentence_213, mK_wR, hL.1, if_true, wR_at0 (K := 17) (by decide), h18, if_pos z1, g1, rzC_l, rzV_e, if_neg z19, fb0]
        rfl
    · intro y hy
      cases hp : (setL 2 1 p c).1 with
      | nil =>
        rw [hp] at hy
        cases hy
        exact ⟨g2.2.2.2.2.1, g2.2.2.1, g2.2.2.2.1, g2.2.2.2.2.2.2.2.1, e11⟩
      | cons x r => rw [hp] at hy; cases hy
  · have z1 : ¬ nI st = 1 := by rw [show (1 : Int32) = nI 1 from rfl, nI_eq (by omega) (by omega)]; exact h1
    rw [if_neg h1]
    refine ⟨X, ?_, FrS.refl X, ⟨σ, hs, h.2.2.2.2.2.2.2.2⟩, fun y hy => by cases hy⟩
    simp only [fM_isSentence_185, mK_wR, hL.1, if_true, wR_at0 (K := 17) (by decide), h18, if_neg z1, fb0]
    rfl
theorem R_134 (hn : 200 ≤ n) (hL : LayM m M) (h18 : X 0 18 = nI st) (h : RelP X d σ p c b lp) (hG : Gd k (st, d, σ, p, c, b, lp)) (hbc : BC p b) (hk : k ≤ 125) (hQ : Qs (st, d, σ, p, c, b, lp) ≤ 245) (h11 : X 0 11 = b2i o) :
    ∃ X', fM_isSentence_134 n (D + 7) (mR n (D + 7)) m (wR m 17 M X) = some (.inl (some (.int (b2i (aAcc (st, d, σ, p, c, b, lp)).isSome))), wR m 17 M X') ∧ FrS X X' ∧ SigX X' ∧ ∀ y, aAcc (st, d, σ, p, c, b, lp) = some y → TookX X' y o := by
  have g10 : st ≤ 10 := hG.2.2.2
  have hB : Bs k d σ p b lp := hG.1
  have hs10 := hB.2.2.2.2.2.2.2.2.2.1
  have h33 : X 0 33 = nI (σ 10) := h.2.2.2.2.2.2.2.2 10 (by decide) (by decide)
  have hQ' : c.length + wsum p + pnd st σ p ≤ 245 := hQ
  by_cases h57 : st = 5 ∨ st = 7
  · have hN := R_next (n := n) (D := D) (ch := 32) hn hL h18 h hG hbc (by omega) (by decide) (by omega)
    obtain ⟨X1, e1, e2, e3⟩ := hN
    have hGn := gd_Next (ch := 32) hG
    have hQn := q_Next (d := d) (ch := 32) (σ := σ) (p := p) (c := c) (b := b) (lp := lp) st (fun q => (hG.2.2.1 q).1)
    have hend : aEnd (st, d, σ, p, c, b, lp) = ((if 0 < σ 10 then 1 else 10), (aNext (st, d, σ, p, c, b, lp) 32).2) := if_pos h57
    generalize hS : aNext (st, d, σ, p, c, b, lp) 32 = S at *
    obtain ⟨st', d', σ', p', c', b', lp'⟩ := S
    have hB' : Bs (k + 1) d' σ' p' b' lp' := hGn.1
    have hq' : c'.length + wsum p' ≤ 260 := by
      have : c'.length + wsum p' + pnd st' σ' p' ≤ 247 := by
        have h9 : Qs (st', d', σ', p', c', b', lp') = c'.length + wsum p' + pnd st' σ' p' := rfl
        omega
      omega
    have e2 : RelP X1 d' σ' p' c' b' lp' := e2
    have f11 : X1 0 11 = b2i o := by rw [e3.2 11 (by omega)]; exact h11
    have hacc : aAcc (st, d, σ, p, c, b, lp) = if (if 0 < σ 10 then 1 else 10) = 1 then acP (setL 2 1 p' c').1 (setL 2 1 p' c').2 lp' else none := by
      unfold aAcc
      rw [hend]
    rw [hacc]
    have hr2 := e2.oth (nI (if 0 < σ 10 then 1 else 10)) (Or.inr rfl)
    obtain ⟨X', k1, k2, k3, k4⟩ := R_185 (n := n) (D := D + 5) (o := o) hn hL (st := if 0 < σ 10 then 1 else 10) (xs_eq X1 0 18 _) (by split <;> omega) hr2 hB'.1 hB'.2.2.2.2 (by omega) hq' (by rw [xs_idx _ _ _ (by decide)]; exact f11)
    refine ⟨X', ?_, (e3.s.trans (frS_fld (by omega))).trans k2, k3, k4⟩
    have h151 : fM_isSentence_151 n (D + 7) (mR n (D + 7)) m (wR m 17 M X) = some (.inl (some (.int (b2i (if (if 0 < σ 10 then 1 else 10) = 1 then acP (setL 2 1 p' c').1 (setL 2 1 p' c').2 lp' else none).isSome))), wR m 17 M X') := by
      by_cases h0 : 0 < σ 10
      · rw [if_pos h0] at k1 ⊢
        have k1' : fM_isSentence_185 n (D + 7) (mR n (D + 7)) m (wR m 17 M (xs X1 0 18 1)) = _ := k1
        have z33 : ¬ nI (σ 10) ≤ 0 := nI_nle h0 (by omega)
        have n1 : ¬ (1 : Int32) = 0 := by decide
        have e1' : mR n (D + 7) 72 [.ref m, .int 32] (wR m 17 M X) = _ := e1
        simp only [fM_isSentence_151, fM_isSentence_163, fM_isSentence_182, mK_wR, hL.1, if_true, wR_at0 (K := 17) (by decide), h33, if_neg z33, e1', rzC_l, rzI_e, if_neg n1, rzM_e, wR_set0 (K := 17) (by decide), k1']
      · rw [if_neg h0] at k1 ⊢
        have k1' : fM_isSentence_185 n (D + 7) (mR n (D + 7)) m (wR m 17 M (xs X1 0 18 10)) = _ := k1
        have z33 : nI (σ 10) ≤ 0 := by
          have h00 : σ 10 = 0 := by omega
          rw [h00]
          decide
        have e1' : mR n (D + 7) 72 [.ref m, .int 32] (wR m 17 M X) = _ := e1
        simp only [fM_isSentence_151, fM_isSentence_163, fM_isSentence_182, mK_wR, hL.1, if_true, wR_at0 (K := 17) (by decide), h33, if_pos z33, e1', rzC_l, rzI_e, rzM_e, wR_set0 (K := 17) (by decide), k1']
    rcases h57 with rfl | rfl
    · have z5 : nI 5 = 5 := rfl
      simp only [fM_isSentence_134, mK_wR, hL.1, if_true, wR_at0 (K := 17) (by decide), h18, if_pos z5, h151]
    · have z5 : ¬ nI 7 = 5 := by decide
      have z7 : nI 7 = 7 := rfl
      simp only [fM_isSentence_134, mK_wR, hL.1, if_true, wR_at0 (K := 17) (by decide), h18, if_neg z5, if_pos z7, h151]
  · have hend : aEnd (st, d, σ, p, c, b, lp) = (st, d, σ, p, c, b, lp) := if_neg h57
    have hacc : aAcc (st, d, σ, p, c, b, lp) = if st = 1 then acP (setL 2 1 p c).1 (setL 2 1 p c).2 lp else none := by
      unfold aAcc
      rw [hend]
    rw [hacc]
    obtain ⟨X', k1, k2, k3, k4⟩ := R_185 (n := n) (D := D + 5) (o := o) hn hL h18 g10 h hB.1 hB.2.2.2.2 (by omega) (by omega) h11
    refine ⟨X', ?_, k2, k3, k4⟩
    have z5 : ¬ nI st = 5 := by rw [show (5 : Int32) = nI 5 from rfl, nI_eq (by omega) (by omega)]; exact fun q => h57 (Or.inl q)
    have z7 : ¬ nI st = 7 := by rw [show (7 : Int32) = nI 7 from rfl, nI_eq (by omega) (by omega)]; exact fun q => h57 (Or.inr q)
    simp only [fM_isSentence_134, mK_wR, hL.1, if_true, wR_at0 (K := 17) (by decide), h18, if_neg z5, if_neg z7, k1]
end RSs
