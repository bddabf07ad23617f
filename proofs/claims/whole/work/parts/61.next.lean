/-! the step itself in memory -/
section RS
variable {n D m d k ch st : Nat} {M : Mem} {X : Xr} {σ : Nat → Nat} {p : Pl} {c : Od} {b : Bd} {lp : List (Bool × Bool)}
theorem R_next (hn : 200 ≤ n) (hL : LayM m M) (h18 : X 0 18 = nI st) (h : RelP X d σ p c b lp) (hG : Gd k (st, d, σ, p, c, b, lp)) (hbc : BC p b) (hk : k ≤ 130) (hc : ch < 1000) (hQ : Qs (st, d, σ, p, c, b, lp) ≤ 250) : St n (D + 7) m M 72 ch X (aNext (st, d, σ, p, c, b, lp) ch) := by
  obtain ⟨hB, g2, g5, g10⟩ := hG
  have hB : Bs k d σ p b lp := hB
  have g10 : st ≤ 10 := g10
  have hQ : c.length + wsum p + pnd st σ p ≤ 250 := hQ
  have hs := hB.2.2.2.2
  have hsl := sgl_le σ
  have hwl := wpl_le σ
  have hip : ipl σ p ≤ 3 := by
    unfold ipl
    split
    · omega
    · omega
  have hq2 : c.length + 2 ≤ 260 := by omega
  have hq0 : c.length + wsum p ≤ 260 := by omega
  have hq77 : c.length + 1 + sgl σ ≤ 260 := by omega
  have hq89 : c.length + wsum p + sgl σ + 2 ≤ 260 := by omega
  have hq79 : c.length + 1 + wpl σ ≤ 260 := by omega
  have hq90 : c.length + wsum p + 1 ≤ 260 := by omega
  have hq91 : c.length + wsum p + ipl σ p + 1 ≤ 260 := by omega
  unfold St
  rw [eM_next]
  have hsel : ∀ (j : Nat) (S : AS), (∃ X', mR n (D + 6) j [.ref m, .int (nI ch)] (wR m 17 M X) = some (.inl (some (.int (nI S.1))), wR m 17 M X') ∧ RelS X' S ∧ FrX X X') → (∀ X', mR n (D + 6) j [.ref m, .int (nI ch)] (wR m 17 M X) = some (.inl (some (.int (nI S.1))), wR m 17 M X') → fM_next_0 n (D + 6) (mR n (D + 6)) m (nI ch) (wR m 17 M X) = some (.inl (some (.int (nI S.1))), wR m 17 M X')) → ∃ X', fM_next_0 n (D + 6) (mR n (D + 6)) m (nI ch) (wR m 17 M X) = some (.inl (some (.int (nI S.1))), wR m 17 M X') ∧ RelS X' S ∧ FrX X X' := by
    intro j S hS hf
    obtain ⟨X', e1, e2, e3⟩ := hS
    exact ⟨X', hf X' e1, e2, e3⟩
  have hst : st = 0 ∨ st = 1 ∨ st = 2 ∨ st = 3 ∨ st = 4 ∨ st = 5 ∨ st = 6 ∨ st = 7 ∨ st = 8 ∨ st = 9 ∨ st = 10 := by omega
  rcases hst with rfl | rfl | rfl | rfl | rfl | rfl | rfl | rfl | rfl | rfl | rfl
  · refine hsel 73 _ (R_one (n := n) (D := D) (ch := ch) hL h hB hk hc hq2) (fun X' e1 => ?_)
    have z0 : nI 0 = 0 := rfl
    simp only [fM_next_0, mK_wR, hL.1, if_true, wR_at0 (K := 17) (by decide), h18, z0, e1, rzC_l, rzI_e]
  · refine hsel 83 _ (R_afterOne (n := n) (D := D + 3) (ch := ch) hn hL h hB.1 hbc hk hc hq0) (fun X' e1 => ?_)
    have z0 : ¬ nI 1 = 0 := by decide
    have z1 : nI 1 = 1 := rfl
    simp only [fM_next_0, mK_wR, hL.1, if_true, wR_at0 (K := 17) (by decide), h18, if_neg z0, if_pos z1, e1, rzC_l, rzI_e]
  · refine hsel 88 _ (R_bound (n := n) (D := D + 2) (ch := ch) hL h hB (g2 rfl) hk hc hq2) (fun X' e1 => ?_)
    have z0 : ¬ nI 2 = 0 := by decide
    have z1 : ¬ nI 2 = 1 := by decide
    have z2 : nI 2 = 2 := rfl
    simp only [fM_next_0, mK_wR, hL.1, if_true, wR_at0 (K := 17) (by decide), h18, if_neg z0, if_neg z1, if_pos z2, e1, rzC_l, rzI_e]
  · refine hsel 76 _ (R_sum (n := n) (D := D + 1) (ch := ch) hL h hB hk hc hq2) (fun X' e1 => ?_)
    have z0 : ¬ nI 3 = 0 := by decide
    have z1 : ¬ nI 3 = 1 := by decide
    have z2 : ¬ nI 3 = 2 := by decide
    have z3 : nI 3 = 3 := rfl
    simp only [fM_next_0, mK_wR, hL.1, if_true, wR_at0 (K := 17) (by decide), h18, if_neg z0, if_neg z1, if_neg z2, if_pos z3, e1, rzC_l, rzI_e]
  · refine hsel 77 _ (R_part (n := n) (D := D + 2) (ch := ch) hL h hB hk hc hq77) (fun X' e1 => ?_)
    have z0 : ¬ nI 4 = 0 := by decide
    have z1 : ¬ nI 4 = 1 := by decide
    have z2 : ¬ nI 4 = 2 := by decide
    have z3 : ¬ nI 4 = 3 := by decide
    have z4 : nI 4 = 4 := rfl
    simp only [fM_next_0, mK_wR, hL.1, if_true, wR_at0 (K := 17) (by decide), h18, if_neg z0, if_neg z1, if_neg z2, if_neg z3, if_pos z4, e1, rzC_l, rzI_e]
  · refine hsel 89 _ (R_afterNumber (n := n) (D := D + 1) (ch := ch) hn hL h hB hbc (g5 rfl) hk hc hq89) (fun X' e1 => ?_)
    have z0 : ¬ nI 5 = 0 := by decide
    have z1 : ¬ nI 5 = 1 := by decide
    have z2 : ¬ nI 5 = 2 := by decide
    have z3 : ¬ nI 5 = 3 := by decide
    have z4 : ¬ nI 5 = 4 := by decide
    have z5 : nI 5 = 5 := rfl
    simp only [fM_next_0, mK_wR, hL.1, if_true, wR_at0 (K := 17) (by decide), h18, if_neg z0, if_neg z1, if_neg z2, if_neg z3, if_neg z4, if_pos z5, e1, rzC_l, rzI_e]
  · refine hsel 79 _ (R_thing (n := n) (D := D + 3) (ch := ch) hL h hB hk hc hq79) (fun X' e1 => ?_)
    have z0 : ¬ nI 6 = 0 := by decide
    have z1 : ¬ nI 6 = 1 := by decide
    have z2 : ¬ nI 6 = 2 := by decide
    have z3 : ¬ nI 6 = 3 := by decide
    have z4 : ¬ nI 6 = 4 := by decide
    have z5 : ¬ nI 6 = 5 := by decide
    have z6 : nI 6 = 6 := rfl
    simp only [fM_next_0, mK_wR, hL.1, if_true, wR_at0 (K := 17) (by decide), h18, if_neg z0, if_neg z1, if_neg z2, if_neg z3, if_neg z4, if_neg z5, if_pos z6, e1, rzC_l, rzI_e]
  · refine hsel 90 _ (R_afterPart (n := n) (D := D + 2) (ch := ch) hn hL h hs hB.1 hB.2.2.2.1 hbc hk hc hq90) (fun X' e1 => ?_)
    have z0 : ¬ nI 7 = 0 := by decide
    have z1 : ¬ nI 7 = 1 := by decide
    have z2 : ¬ nI 7 = 2 := by decide
    have z3 : ¬ nI 7 = 3 := by decide
    have z4 : ¬ nI 7 = 4 := by decide
    have z5 : ¬ nI 7 = 5 := by decide
    have z6 : ¬ nI 7 = 6 := by decide
    have z7 : nI 7 = 7 := rfl
    simp only [fM_next_0, mK_wR, hL.1, if_true, wR_at0 (K := 17) (by decide), h18, if_neg z0, if_neg z1, if_neg z2, if_neg z3, if_neg z4, if_neg z5, if_neg z6, if_pos z7, e1, rzC_l, rzI_e]
  · refine hsel 91 _ (R_single (n := n) (D := D + 2) (ch := ch) hn hL h hB hk hc hq91) (fun X' e1 => ?_)
    have z0 : ¬ nI 8 = 0 := by decide
    have z1 : ¬ nI 8 = 1 := by decide
    have z2 : ¬ nI 8 = 2 := by decide
    have z3 : ¬ nI 8 = 3 := by decide
    have z4 : ¬ nI 8 = 4 := by decide
    have z5 : ¬ nI 8 = 5 := by decide
    have z6 : ¬ nI 8 = 6 := by decide
    have z7 : ¬ nI 8 = 7 := by decide
    have z8 : nI 8 = 8 := rfl
    simp only [fM_next_0, mK_wR, hL.1, if_true, wR_at0 (K := 17) (by decide), h18, if_neg z0, if_neg z1, if_neg z2, if_neg z3, if_neg z4, if_neg z5, if_neg z6, if_neg z7, if_pos z8, e1, rzC_l, rzI_e]
  · refine hsel 93 _ (R_afterSingle (n := n) (D := D + 2) (ch := ch) hn hL h hB hbc hk hc hq91) (fun X' e1 => ?_)
    have z0 : ¬ nI 9 = 0 := by decide
    have z1 : ¬ nI 9 = 1 := by decide
    have z2 : ¬ nI 9 = 2 := by decide
    have z3 : ¬ nI 9 = 3 := by decide
    have z4 : ¬ nI 9 = 4 := by decide
    have z5 : ¬ nI 9 = 5 := by decide
    have z6 : ¬ nI 9 = 6 := by decide
    have z7 : ¬ nI 9 = 7 := by decide
    have z8 : ¬ nI 9 = 8 := by decide
    have z9 : nI 9 = 9 := rfl
    simp only [fM_next_0, mK_wR, hL.1, if_true, wR_at0 (K := 17) (by decide), h18, if_neg z0, if_neg z1, if_neg z2, if_neg z3, if_neg z4, if_neg z5, if_neg z6, if_neg z7, if_neg z8, if_pos z9, e1, rzC_l, rzI_e]
  · have z0 : ¬ nI 10 = 0 := by decide
    have z1 : ¬ nI 10 = 1 := by decide
    have z2 : ¬ nI 10 = 2 := by decide
    have z3 : ¬ nI 10 = 3 := by decide
    have z4 : ¬ nI 10 = 4 := by decide
    have z5 : ¬ nI 10 = 5 := by decide
    have z6 : ¬ nI 10 = 6 := by decide
    have z7 : ¬ nI 10 = 7 := by decide
    have z8 : ¬ nI 10 = 8 := by decide
    have z9 : ¬ nI 10 = 9 := by decide
    refine ⟨X, ?_, h, FrX.refl X⟩
    simp only [fM_next_0, mK_wR, hL.1, if_true, wR_at0 (K := 17) (by decide), h18, if_neg z0, if_neg z1, if_neg z2, if_neg z3, if_neg z4, if_neg z5, if_neg z6, if_neg z7, if_neg z8, if_neg z9]
    rfl
end RS
