/-! how long the orders of a text can be -/
theorem acc_bd {k st d : Nat} {σ : Nat → Nat} {p : Pl} {c : Od} {b : Bd} {lp : List (Bool × Bool)} {y : Od × List (Bool × Bool)} (hG : Gd k (st, d, σ, p, c, b, lp)) (h : aAcc (st, d, σ, p, c, b, lp) = some y) : y.1.length ≤ Qs (st, d, σ, p, c, b, lp) + 2 ∧ y.2.length ≤ 4 := by
  have key : ∀ (S : AS), Qs S ≤ Qs (st, d, σ, p, c, b, lp) + 2 → S.2.2.2.2.2.2.length ≤ 4 → acP (setL 2 1 S.2.2.2.1 S.2.2.2.2.1).1 (setL 2 1 S.2.2.2.1 S.2.2.2.2.1).2 S.2.2.2.2.2.2 = some y → y.1.length ≤ Qs (st, d, σ, p, c, b, lp) + 2 ∧ y.2.length ≤ 4 := by
    intro S hS hlp hy
    have hw := setL_w (a := 2) (b := 1) (by decide) (by decide) S.2.2.2.1 S.2.2.2.2.1
    have hQ : Qs S = S.2.2.2.2.1.length + wsum S.2.2.2.1 + pnd S.1 S.2.2.1 S.2.2.2.1 := rfl
    unfold acP at hy
    split at hy
    · cases hy
      exact ⟨by show (setL 2 1 S.2.2.2.1 S.2.2.2.2.1).2.length ≤ _; omega, hlp⟩
    · cases hy
  unfold aAcc at h
  split at h
  · by_cases h57 : st = 5 ∨ st = 7
    · have hend : aEnd (st, d, σ, p, c, b, lp) = ((if 0 < σ 10 then 1 else 10), (aNext (st, d, σ, p, c, b, lp) 32).2) := if_pos h57
      have hQn := q_Next (d := d) (ch := 32) (σ := σ) (p := p) (c := c) (b := b) (lp := lp) st (fun q => (hG.2.2.1 q).1)
      have hGn := gd_Next (ch := 32) hG
      rw [hend] at h
      exact key _ hQn hGn.1.2.2.1 h
    · have hend : aEnd (st, d, σ, p, c, b, lp) = (st, d, σ, p, c, b, lp) := if_neg h57
      rw [hend] at h
      exact key (st, d, σ, p, c, b, lp) (by omega) hG.1.2.2.1 h
  · cases h
theorem fin_bd : ∀ (r : List Nat) (k : Nat) (S : AS) (y : Od × List (Bool × Bool)), Gd k S → aFin S r = some y → y.1.length ≤ Qs S + 2 * r.length + 2 ∧ y.2.length ≤ 4
  | [], k, (st, d, σ, p, c, b, lp), y, hG, h => by
    have := acc_bd hG h
    simp only [List.length_nil]
    omega
  | x :: r, k, (st, d, σ, p, c, b, lp), y, hG, h => by
    have hQn := q_Next (d := d) (ch := x) (σ := σ) (p := p) (c := c) (b := b) (lp := lp) st (fun q => (hG.2.2.1 q).1)
    have := fin_bd r (k + 1) (aNext (st, d, σ, p, c, b, lp) x) y (gd_Next hG) h
    simp only [List.length_cons]
    omega
theorem sent_bd {ts : List Nat} (hl : ts.length ≤ 120) {y : FvT} (h : sent ts = some y) : y.1.1.length ≤ 242 ∧ y.2.length ≤ 4 := by
  have hs : Sig (fun _ => 0) := ⟨by decide, by decide, by decide, by decide, by decide, by decide, fun j => (show (0 : Nat) < 10000 by decide)⟩
  have hG0 : Gd 0 (aS0 (fun _ => 0)) := ⟨⟨⟨Nat.le_refl _, rfl, fun x hx => (by cases hx), fun x hx => (by cases hx)⟩, Nat.zero_le _, Nat.zero_le _, fun v q h => (by cases h), hs⟩, fun q => (by cases q), fun q => (by cases q), Nat.zero_le _⟩
  have h1 := sent_auto hl (fun _ => 0)
  rw [h] at h1
  have h2 := fin_bd ts 0 _ _ hG0 h1
  have h3 : Qs (aS0 (fun _ => 0)) = 0 := rfl
  rw [h3] at h2
  exact ⟨by have := h2.1; simp only at this; omega, h2.2⟩
