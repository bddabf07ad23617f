/-! isSentence and read of the reference -/
section RRd
variable {n D m : Nat} {M : Mem}
/-- the text that the rows hold -/
def TxX (X : Xr) (tx : List Nat) : Prop := X 0 1 = nI tx.length ∧ tx.length ≤ 120 ∧ (∀ i x, tx[i]? = some x → X 1 i = nI x) ∧ ∀ x ∈ tx, 32 ≤ x ∧ x ≤ 126
theorem R_is27 (hL : LayM m M) (C : Cx) : ∀ (j v w : Nat) (X : Xr), v + j = 6 → j < w → (∀ u, u < v → X 13 u = -1) → ∃ X', fM_isSentence_27 n D C w m (nI v) (wR m 17 M X) = fM_isSentence_55 n D C n m 1 0 (wR m 17 M (xs X' 0 11 0)) ∧ (∀ u, u < 6 → X' 13 u = -1) ∧ (∀ r, r ≠ 13 → X' r = X r) := by
  intro j
  induction j with
  | zero =>
    intro v w X hv hw hu
    obtain ⟨w, rfl⟩ : ∃ w', w = w' + 1 := ⟨w - 1, by omega⟩
    have hv6 : v = 6 := by omega
    subst hv6
    have h6 : (6 : Int32) ≤ nI 6 := by decide
    refine ⟨X, ?_, hu, fun _ _ => rfl⟩
    rw [fM_isSentence_27]
    simp only [if_pos h6, mK_wR, hL.1, if_true, fb0, rzM_e, wR_set0 (K := 17) (by decide)]
  | succ j ih =>
    intro v w X hv hw hu
    obtain ⟨w, rfl⟩ : ∃ w', w = w' + 1 := ⟨w - 1, by omega⟩
    obtain ⟨l1, l2, l3⟩ := lm23 hL
    have h6 : ¬ (6 : Int32) ≤ nI v := nI_ge (b := 6) (by omega) (by decide)
    have hi : inA (nI v) 6 := inA_nI (by omega) (by decide)
    have hc : (nI v).toNatClampNeg = v := nI_clamp (by omega)
    obtain ⟨X', e1, e2, e3⟩ := ih (v + 1) w (xs X 13 v (-1)) (by omega) (by omega) (fun u hu1 => by
      by_cases huv : u = v
      · rw [huv, xs_eq]
      · rw [xs_idx _ _ _ huv]; exact hu u (by omega))
    refine ⟨X', ?_, e2, fun r hr => (e3 r hr).trans (xs_row _ _ _ hr)⟩
    rw [fM_isSentence_27]
    simp only [if_neg h6, mK_wR, mP_wR, mL_wR, hL.1, l1, l2, l3, if_true, rzD_s, if_pos hi, hc, rzM_e, wR_set (K := 17) (r := 13) (by decide), nI_1, e1]
theorem R_isSentence (hn : 200 ≤ n) (hL : LayM m M) {X : Xr} {tx : List Nat} (hT : TxX X tx) (hS : SigX X) :
    ∃ X', mR n (D + 8) 71 [.ref m] (wR m 17 M X) = some (.inl (some (.int (b2i (sent (nb tx)).isSome))), wR m 17 M X') ∧ FrS X X' ∧ SigX X' ∧ ∀ y, sent (nb tx) = some y → TookX X' (y.1.1, y.2) (opn (nb tx)) := by
  obtain ⟨t1, t2, t3, t4⟩ := hT
  obtain ⟨τ, hs, hτ⟩ := hS
  obtain ⟨Y, hY⟩ : ∃ Y, Y = xs (xs (xs (xs (xs X 0 18 0) 0 19 0) 0 24 0) 0 12 0) 0 13 0 := ⟨_, rfl⟩
  obtain ⟨X1, e1, e2, e3⟩ := R_is27 (n := n) (D := D + 7) hL (mR n (D + 7)) 6 0 n Y (by omega) (by omega) (fun u hu => absurd hu (Nat.not_lt_zero u))
  have h0 : X1 0 = Y 0 := e3 0 (by decide)
  have hr1 : ∀ r, r ≠ 0 → r ≠ 13 → X1 r = X r := fun r hr hr13 => by
    rw [e3 r hr13, hY, xs_row _ _ _ hr, xs_row _ _ _ hr, xs_row _ _ _ hr, xs_row _ _ _ hr, xs_row _ _ _ hr]
  have hf : ∀ j, j ≠ 18 → j ≠ 19 → j ≠ 24 → j ≠ 12 → j ≠ 13 → X1 0 j = X 0 j := fun j a b c d e => by
    rw [h0, hY, xs_idx _ _ _ e, xs_idx _ _ _ d, xs_idx _ _ _ c, xs_idx _ _ _ b, xs_idx _ _ _ a]
  have hrel : RelP (xs X1 0 11 0) 0 τ [] [] (fun _ => none) [] := by
    refine RelP.oth ⟨?_, ?_, ?_, ?_, fun i x hx => (by simp at hx), fun i x hx => (by simp at hx), fun v hv => e2 v hv, fun i x hx => (by simp at hx), fun j h2 h11 => ?_⟩ 0 (Or.inl rfl)
    · rw [h0, hY]; simp [xs]; rfl
    · rw [h0, hY]; simp [xs]; rfl
    · rw [h0, hY]; simp [xs]; rfl
    · rw [h0, hY]; simp [xs]; rfl
    · rw [hf (j + 23) (by omega) (by omega) (by omega) (by omega) (by omega)]
      exact hτ j h2 h11
  have hG0 : Gd 0 (aS0 τ) := ⟨⟨⟨Nat.le_refl _, rfl, fun x hx => (by cases hx), fun x hx => (by cases hx)⟩, Nat.zero_le _, Nat.zero_le _, fun v q h => (by cases h), hs⟩, fun q => (by cases q), fun q => (by cases q), Nat.zero_le _⟩
  have h18 : xs X1 0 11 0 0 18 = nI (aS0 τ).1 := by
    rw [xs_idx _ _ _ (by decide), h0, hY]
    simp [xs]
    rfl
  have h1 : xs X1 0 11 0 0 1 = nI tx.length := by
    rw [xs_idx _ _ _ (by decide), hf 1 (by decide) (by decide) (by decide) (by decide) (by decide)]
    exact t1
  have hrow : xs X1 0 11 0 1 = X 1 := by rw [xs_row _ _ _ (by decide)]; exact hr1 1 (by decide) (by decide)
  obtain ⟨X', k1, k2, k3, k4⟩ := R_sloop (n := n) (D := D) hn hL t2 tx 0 n (xs X1 0 11 0) (aS0 τ) true false (by omega) (by omega) h1 (fun q x hq => by rw [hrow, Nat.zero_add]; exact t3 q x hq) t4 h18 hrel hG0 trivial (Nat.le_refl _) (xs_eq _ _ _ _)
  have hl : (nb tx).length ≤ 120 := Nat.le_trans (List.length_filter_le _ _) t2
  have hsa := sent_auto hl τ
  rw [hsa] at k1 k4
  have hsome : ((sent (nb tx)).map (fun y => (y.1.1, y.2))).isSome = (sent (nb tx)).isSome := by cases sent (nb tx) <;> rfl
  rw [hsome] at k1
  have hfr : FrS X (xs X1 0 11 0) := by
    refine ⟨fun r hr => ?_, fun j hj => ?_⟩
    · rw [xs_row _ _ _ (by omega)]
      exact hr1 r (by omega) (by omega)
    · rw [xs_idx _ _ _ (by omega)]
      exact hf j (by omega) (by omega) (by omega) (by omega) (by omega)
  refine ⟨X', ?_, hfr.trans k2, k3, fun y hy => ?_⟩
  · have k1' : fM_isSentence_55 n (D + 7) (mR n (D + 7)) n m 1 0 (wR m 17 M (xs X1 0 11 0)) = _ := k1
    have e1' : fM_isSentence_27 n (D + 7) (mR n (D + 7)) n m 0 (wR m 17 M Y) = _ := e1
    rw [eM_isSentence]
    simp only [fM_isSentence_0, mK_wR, hL.1, if_true, rzM_e, wR_set0 (K := 17) (by decide)]
    rw [← hY, e1', k1']
  · have hk := k4 (y.1.1, y.2) (by rw [hy]; rfl)
    by_cases hne : nb tx = []
    · exfalso
      rw [hne] at hy
      have : sent [] = none := by decide +kernel
      rw [this] at hy
      cases hy
    · rw [if_pos ⟨rfl, hne⟩] at hk
      exact hk
end RRd
