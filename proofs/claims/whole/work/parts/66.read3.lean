/-! read of the reference -/
def SenX (X : Xr) (y : Od × List (Bool × Bool)) (o : Bool) : Prop := X 0 4 = nI y.1.length ∧ X 0 5 = nI y.2.length ∧ (∀ i x, y.1[i]? = some x → X 2 i = nI x.1 ∧ (X 3 i = nI x.2 ∨ x.1 = 19 ∨ x.1 = 20)) ∧ (∀ i x, y.2[i]? = some x → X 4 i = b2i x.1 ∧ X 5 i = b2i x.2) ∧ X 0 10 = b2i o
theorem fb_b2i (x : Bool) : fits .boolean (.int (b2i x)) = true := by cases x <;> rfl
section RRe
variable {n D m : Nat} {M : Mem}
theorem R_rd95 (hL : LayM m M) (C : Cx) {lp : List (Bool × Bool)} (hlp : lp.length ≤ 4) : ∀ (j i w : Nat) (X : Xr), i + j = lp.length → j < w → X 0 5 = nI lp.length → Lps X lp → (∀ q x, q < i → lp[q]? = some x → X 4 q = b2i x.1 ∧ X 5 q = b2i x.2) →
    ∃ X', fM_read_95 n D C w m (nI i) (wR m 17 M X) = some (.inl (some (.int (nI lp.length))), wR m 17 M (xs X' 0 1 0)) ∧ (∀ q x, lp[q]? = some x → X' 4 q = b2i x.1 ∧ X' 5 q = b2i x.2) ∧ ∀ r, r ≠ 4 → r ≠ 5 → X' r = X r := by
  intro j
  induction j with
  | zero =>
    intro i w X hi hw h5 hl hd
    obtain ⟨w, rfl⟩ : ∃ w', w = w' + 1 := ⟨w - 1, by omega⟩
    have hle : nI lp.length ≤ nI i := nI_le (by omega) (by omega)
    have e5 : xs X 0 1 0 0 5 = nI lp.length := by rw [xs_idx _ _ _ (by decide)]; exact h5
    refine ⟨X, ?_, fun q x hq => hd q x (by have := (List.getElem?_eq_some_iff.mp hq).1; omega) hq, fun _ _ _ => rfl⟩
    rw [fM_read_95]
    simp only [mK_wR, hL.1, if_true, wR_at0 (K := 17) (by decide), h5, if_pos hle, rzM_e, wR_set0 (K := 17) (by decide), e5]
  | succ j ih =>
    intro i w X hi hw h5 hl hd
    obtain ⟨w, rfl⟩ : ∃ w', w = w' + 1 := ⟨w - 1, by omega⟩
    have hgt : ¬ nI lp.length ≤ nI i := nI_ge (by omega) (by omega)
    have hlt : i < lp.length := by omega
    obtain ⟨x, hx⟩ : ∃ x, lp[i]? = some x := ⟨lp[i], List.getElem?_eq_getElem hlt⟩
    obtain ⟨g8, g9⟩ := hl i x hx
    obtain ⟨a1, a2, a3⟩ := lm16 hL
    obtain ⟨a4, a5, a6⟩ := lm8 hL
    obtain ⟨a7, a8, a9⟩ := lm17 hL
    obtain ⟨b1, b2, b3⟩ := lm9 hL
    have hin : inA (nI i) 4 := inA_nI (by omega) (by decide)
    have hcl : (nI i).toNatClampNeg = i := nI_clamp (by omega)
    have g9' : xs X 4 i (b2i x.1) 9 i = b2i x.2 := by rw [xs_row _ _ _ (by decide)]; exact g9
    obtain ⟨X', e1, e2, e3⟩ := ih (i + 1) w (xs (xs X 4 i (b2i x.1)) 5 i (b2i x.2)) (by omega) (by omega) (by rw [xs_row _ _ _ (by decide), xs_row _ _ _ (by decide)]; exact h5)
      (fun q z hq => by rw [xs_row _ _ _ (by decide), xs_row _ _ _ (by decide), xs_row _ _ _ (by decide), xs_row _ _ _ (by decide)]; exact hl q z hq)
      (fun q z hq hz => by
        by_cases hqi : q = i
        · subst hqi
          cases hx.symm.trans hz
          exact ⟨by rw [xs_row _ _ _ (by decide), xs_eq], xs_eq _ _ _ _⟩
        · have := hd q z (by omega) hz
          exact ⟨by rw [xs_row _ _ _ (by decide), xs_idx _ _ _ hqi]; exact this.1, by rw [xs_idx _ _ _ hqi, xs_row _ _ _ (by decide)]; exact this.2⟩)
    refine ⟨X', ?_, e2, fun r h4 h5 => (e3 r h4 h5).trans (by rw [xs_row _ _ _ h5, xs_row _ _ _ h4])⟩
    rw [fM_read_95]
    simp only [mK_wR, mP_wR, mL_wR, hL.1, a1, a2, a3, a4, a5, a6, a7, a8, a9, b1, b2, b3, if_true, rzD_s, wR_at0 (K := 17) (by decide), h5, if_neg hgt, if_pos hin, hcl, wR_at (K := 17) (r := 8) (by decide), g8, fb_b2i, rzM_e, wR_set (K := 17) (r := 4) (by decide), wR_at (K := 17) (r := 9) (by decide), g9', wR_set (K := 17) (r := 5) (by decide), nI_1, e1]
theorem R_rd55 (hL : LayM m M) (C : Cx) {len : Nat} (hlen : len ≤ 260) : ∀ (j i w : Nat) (X : Xr), i + j = len → j < w → X 0 4 = nI len → (∀ q, q < i → X 2 q = X 6 q ∧ X 3 q = X 7 q) →
    ∃ X', fM_read_55 n D C w m (nI i) (wR m 17 M X) = fM_read_95 n D C n m 0 (wR m 17 M X') ∧ (∀ q, q < len → X' 2 q = X 6 q ∧ X' 3 q = X 7 q) ∧ ∀ r, r ≠ 2 → r ≠ 3 → X' r = X r := by
  intro j
  induction j with
  | zero =>
    intro i w X hi hw h4 hd
    obtain ⟨w, rfl⟩ : ∃ w', w = w' + 1 := ⟨w - 1, by omega⟩
    have hle : nI len ≤ nI i := nI_le (by omega) (by omega)
    refine ⟨X, ?_, fun q hq => hd q (by omega), fun _ _ _ => rfl⟩
    rw [fM_read_55]
    simp only [mK_wR, hL.1, if_true, wR_at0 (K := 17) (by decide), h4, if_pos hle]
  | succ j ih =>
    intro i w X hi hw h4 hd
    obtain ⟨w, rfl⟩ : ∃ w', w = w' + 1 := ⟨w - 1, by omega⟩
    have hgt : ¬ nI len ≤ nI i := nI_ge (by omega) (by omega)
    obtain ⟨a1, a2, a3⟩ := lm14 hL
    obtain ⟨a4, a5, a6⟩ := lm6 hL
    obtain ⟨a7, a8, a9⟩ := lm15 hL
    obtain ⟨b1, b2, b3⟩ := lm7 hL
    have hin : inA (nI i) 260 := inA_nI (by omega) (by decide)
    have hcl : (nI i).toNatClampNeg = i := nI_clamp (by omega)
    have g7 : xs X 2 i (X 6 i) 7 i = X 7 i := by rw [xs_row _ _ _ (by decide)]
    obtain ⟨X', e1, e2, e3⟩ := ih (i + 1) w (xs (xs X 2 i (X 6 i)) 3 i (X 7 i)) (by omega) (by omega) (by rw [xs_row _ _ _ (by decide), xs_row _ _ _ (by decide)]; exact h4)
      (fun q hq => by
        have r6 : xs (xs X 2 i (X 6 i)) 3 i (X 7 i) 6 = X 6 := by rw [xs_row _ _ _ (by decide), xs_row _ _ _ (by decide)]
        have r7 : xs (xs X 2 i (X 6 i)) 3 i (X 7 i) 7 = X 7 := by rw [xs_row _ _ _ (by decide), xs_row _ _ _ (by decide)]
        rw [r6, r7]
        by_cases hqi : q = i
        · subst hqi
          exact ⟨by rw [xs_row _ _ _ (by decide), xs_eq], xs_eq _ _ _ _⟩
        · have := hd q (by omega)
          exact ⟨by rw [xs_row _ _ _ (by decide), xs_idx _ _ _ hqi]; exact this.1, by rw [xs_idx _ _ _ hqi, xs_row _ _ _ (by decide)]; exact this.2⟩)
    have r6 : xs (xs X 2 i (X 6 i)) 3 i (X 7 i) 6 = X 6 := by rw [xs_row _ _ _ (by decide), xs_row _ _ _ (by decide)]
    have r7 : xs (xs X 2 i (X 6 i)) 3 i (X 7 i) 7 = X 7 := by rw [xs_row _ _ _ (by decide), xs_row _ _ _ (by decide)]
    rw [r6, r7] at e2
    refine ⟨X', ?_, e2, fun r h2 h3 => (e3 r h2 h3).trans (by rw [xs_row _ _ _ h3, xs_row _ _ _ h2])⟩
    rw [fM_read_55]
    simp only [mK_wR, mP_wR, mL_wR, hL.1, a1, a2, a3, a4, a5, a6, a7, a8, a9, b1, b2, b3, if_true, rzD_s, wR_at0 (K := 17) (by decide), h4, if_neg hgt, if_pos hin, hcl, wR_at (K := 17) (r := 6) (by decide), rzM_e, wR_set (K := 17) (r := 2) (by decide), wR_at (K := 17) (r := 7) (by decide), g7, wR_set (K := 17) (r := 3) (by decide), nI_1, e1]
/-- read: no sentence -/
theorem R_read0 (hn : 300 ≤ n) (hL : LayM m M) {X : Xr} {tx : List Nat} (hT : TxX X tx) (hS : SigX X) (hno : sent (nb tx) = none) : ∃ X', mR n (D + 9) 70 [.ref m] (wR m 17 M X) = some (.inl (some (.int 0)), wR m 17 M X') ∧ SigX X' ∧ X' 0 0 = 1 ∧ (∀ r, (r = 1 ∨ r = 2 ∨ r = 3 ∨ r = 4 ∨ r = 5 ∨ r = 14 ∨ r = 15 ∨ r = 16) → X' r = X r) ∧ ∀ j, (0 < j ∧ j < 11) → X' 0 j = X 0 j := by
  obtain ⟨X1, e1, e2, e3, -⟩ := R_isSentence (n := n) (D := D) (by omega) hL hT hS
  rw [hno] at e1
  have e1' : mR n (D + 8) 71 [.ref m] (wR m 17 M X) = some (.inl (some (.int 0)), wR m 17 M X1) := e1
  obtain ⟨τ, s1, s2⟩ := e3
  refine ⟨xs X1 0 0 1, ?_, ⟨τ, s1, fun j h2 h11 => by rw [xs_idx _ _ _ (by omega)]; exact s2 j h2 h11⟩, xs_eq _ _ _ _, fun r hr => by rw [xs_row _ _ _ (by omega)]; exact e2.1 r hr, fun j hj => by rw [xs_idx _ _ _ (by omega)]; exact e2.2 j (by omega)⟩
  rw [eM_read]
  simp only [fM_read_0, fM_read_15, mK_wR, hL.1, if_true, e1', rzC_l, rzI_e, rzM_e, wR_set0 (K := 17) (by decide)]
/-- read: a sentence -/
theorem R_read1 (hn : 300 ≤ n) (hL : LayM m M) {X : Xr} {tx : List Nat} (hT : TxX X tx) (hS : SigX X) {y : FvT} (hy : sent (nb tx) = some y) : ∃ X', mR n (D + 9) 70 [.ref m] (wR m 17 M X) = some (.inl (some (.int (nI y.2.length))), wR m 17 M X') ∧ SigX X' ∧ X' 0 0 = 0 ∧ X' 0 1 = 0 ∧ X' 0 3 = 1 ∧ SenX X' (y.1.1, y.2) (opn (nb tx)) := by
  obtain ⟨X1, e1, e2, e3, e4⟩ := R_isSentence (n := n) (D := D) (by omega) hL hT hS
  rw [hy] at e1
  have e1' : mR n (D + 8) 71 [.ref m] (wR m 17 M X) = some (.inl (some (.int 1)), wR m 17 M X1) := e1
  obtain ⟨t1, t2, t3, t4, t5⟩ := e4 y hy
  have hl : (nb tx).length ≤ 120 := Nat.le_trans (List.length_filter_le _ _) hT.2.1
  obtain ⟨b1, b2⟩ := sent_bd hl hy
  obtain ⟨Y, hY⟩ : ∃ Y, Y = xs (xs (xs (xs (xs X1 0 0 0) 0 3 1) 0 4 (nI y.1.1.length)) 0 5 (nI y.2.length)) 0 10 (b2i (opn (nb tx))) := ⟨_, rfl⟩
  have hYr : ∀ r, r ≠ 0 → Y r = X1 r := fun r hr => by rw [hY, xs_row _ _ _ hr, xs_row _ _ _ hr, xs_row _ _ _ hr, xs_row _ _ _ hr, xs_row _ _ _ hr]
  have hYf : ∀ j, j ≠ 0 → j ≠ 3 → j ≠ 4 → j ≠ 5 → j ≠ 10 → Y 0 j = X1 0 j := fun j a b c d e => by rw [hY, xs_idx _ _ _ e, xs_idx _ _ _ d, xs_idx _ _ _ c, xs_idx _ _ _ b, xs_idx _ _ _ a]
  have y4 : Y 0 4 = nI y.1.1.length := by rw [hY]; simp [xs]
  have y5 : Y 0 5 = nI y.2.length := by rw [hY]; simp [xs]
  obtain ⟨X2, f1, f2, f3⟩ := R_rd55 (n := n) (D := D + 8) hL (mR n (D + 8)) (len := y.1.1.length) (by omega) y.1.1.length 0 n Y (by omega) (by omega) y4 (fun q hq => absurd hq (Nat.not_lt_zero q))
  have hX2L : Lps X2 y.2 := fun i x hx => by rw [f3 8 (by decide) (by decide), f3 9 (by decide) (by decide), hYr 8 (by decide), hYr 9 (by decide)]; exact t4 i x hx
  obtain ⟨X3, g1, g2, g3⟩ := R_rd95 (n := n) (D := D + 8) hL (mR n (D + 8)) (lp := y.2) b2 y.2.length 0 n X2 (by omega) (by omega) (by rw [f3 0 (by decide) (by decide)]; exact y5) hX2L (fun q x hq => absurd hq (Nat.not_lt_zero q))
  have h30 : X3 0 = Y 0 := (g3 0 (by decide) (by decide)).trans (f3 0 (by decide) (by decide))
  obtain ⟨τ, s1, s2⟩ := e3
  refine ⟨xs X3 0 1 0, ?_, ⟨τ, s1, fun j h2 h11 => ?_⟩, ?_, xs_eq _ _ _ _, ?_, ?_, ?_, fun i x hx => ?_, fun i x hx => ?_, ?_⟩
  · have f1' : fM_read_55 n (D + 8) (mR n (D + 8)) n m 0 (wR m 17 M Y) = _ := f1
    have g1' : fM_read_95 n (D + 8) (mR n (D + 8)) n m 0 (wR m 17 M X2) = _ := g1
    have n1 : ¬ (1 : Int32) = 0 := by decide
    have z12 : xs (xs X1 0 0 0) 0 3 1 0 12 = nI y.1.1.length := by rw [xs_idx _ _ _ (by decide), xs_idx _ _ _ (by decide)]; exact t2
    have z13 : xs (xs (xs X1 0 0 0) 0 3 1) 0 4 (nI y.1.1.length) 0 13 = nI y.2.length := by rw [xs_idx _ _ _ (by decide), xs_idx _ _ _ (by decide), xs_idx _ _ _ (by decide)]; exact t3
    have z11 : xs (xs (xs (xs X1 0 0 0) 0 3 1) 0 4 (nI y.1.1.length)) 0 5 (nI y.2.length) 0 11 = b2i (opn (nb tx)) := by rw [xs_idx _ _ _ (by decide), xs_idx _ _ _ (by decide), xs_idx _ _ _ (by decide), xs_idx _ _ _ (by decide)]; exact t5
    rw [eM_read]
    simp only [fM_read_0, fM_read_15, mK_wR, hL.1, if_true, e1', rzC_l, rzI_e, if_neg n1, rzM_e, wR_set0 (K := 17) (by decide), fb1, wR_at0 (K := 17) (by decide), z12, z13, z11, fb_b2i]
    rw [← hY, f1', g1']
  · rw [xs_idx _ _ _ (by omega), h30, hYf (j + 23) (by omega) (by omega) (by omega) (by omega) (by omega)]
    exact s2 j h2 h11
  · rw [xs_idx _ _ _ (by decide), h30, hY]
    simp [xs]
  · rw [xs_idx _ _ _ (by decide), h30, hY]
    simp [xs]
  · rw [xs_idx _ _ _ (by decide), h30]
    exact y4
  · rw [xs_idx _ _ _ (by decide), h30]
    exact y5
  · have hi := (List.getElem?_eq_some_iff.mp hx).1
    have hi : i < y.1.1.length := hi
    rw [xs_row _ _ _ (by decide), xs_row _ _ _ (by decide), g3 2 (by decide) (by decide), g3 3 (by decide) (by decide), (f2 i hi).1, (f2 i hi).2, hYr 6 (by decide), hYr 7 (by decide)]
    exact t1 i x hx
  · rw [xs_row _ _ _ (by decide), xs_row _ _ _ (by decide)]
    exact g2 i x hx
  · rw [xs_idx _ _ _ (by decide), h30, hY]
    simp [xs]
end RRe
