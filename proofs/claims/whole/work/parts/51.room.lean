/-! the reader's room: how many orders there can be -/
def wt (x : Nat × Nat × Option Nat) : Nat := if x.1 = 4 ∨ x.1 = 6 ∨ x.1 = 10 then 0 else 1
def wsum : Pl → Nat
  | [] => 0
  | x :: p => wt x + wsum p
/-- is it the set of a # that is read -/
def inS : Pl → Bool
  | [] => false
  | x :: p => if x.1 = 7 ∨ x.1 = 8 ∨ x.1 = 9 ∨ x.1 = 10 then inS p else decide (x.1 = 11)
def sgl (σ : Nat → Nat) : Nat := (sgc σ).length
def wpl (σ : Nat → Nat) : Nat := (wpc σ).length
def rl (σ : Nat → Nat) : Nat := if σ 10 = 0 then 0 else 1
def pnd (st : Nat) (σ : Nat → Nat) (p : Pl) : Nat := (if 3 ≤ st ∧ st ≤ 9 then rl σ else 0) + (if st = 4 then sgl σ else if st = 5 ∨ st = 6 then sgl σ + 1 else if (st = 8 ∨ st = 9) ∧ inS p = true then wpl σ else 0)
def Qs (S : AS) : Nat := S.2.2.2.2.1.length + wsum S.2.2.2.1 + pnd S.1 S.2.2.1 S.2.2.2.1
def ipl (σ : Nat → Nat) (p : Pl) : Nat := if inS p = true then wpl σ else 0
theorem sgl_le (σ : Nat → Nat) : sgl σ ≤ 2 := by
  unfold sgl sgc
  split <;> split <;> simp
theorem sgl_eq {σ τ : Nat → Nat} (h7 : τ 7 = σ 7) (h8 : τ 8 = σ 8) : sgl τ = sgl σ := by
  unfold sgl
  rw [sgc_eq h7 h8]
theorem wpl_le (σ : Nat → Nat) : wpl σ ≤ 1 + sgl σ := by
  unfold wpl wpc sgl
  split <;> simp <;> omega
theorem wpl5 {σ : Nat → Nat} (h : σ 5 = 0) : wpl σ = sgl σ := by
  unfold wpl sgl
  rw [wpc5 σ h]
theorem rl_eq {σ τ : Nat → Nat} (h : τ 10 = σ 10) : rl τ = rl σ := by unfold rl; rw [h]
theorem rl_le (σ : Nat → Nat) : rl σ ≤ 1 := by unfold rl; split <;> omega
theorem setL_w {a b : Nat} (ha : a ≠ 4 ∧ a ≠ 6 ∧ a ≠ 10) (hb : b ≠ 4 ∧ b ≠ 6 ∧ b ≠ 10) : ∀ (p : Pl) (c : Od), (setL a b p c).2.length + wsum (setL a b p c).1 = c.length + wsum p
  | [], c => rfl
  | x :: p, c => by
    by_cases h : x.1 = a ∨ x.1 = b
    · have hw : wt x = 1 := by unfold wt; rw [if_neg (by omega)]
      simp only [setL, if_pos h, wsum, hw]
      rw [setL_w ha hb p]
      simp
      omega
    · simp only [setL, if_neg h]
theorem setL_i : ∀ (p : Pl) (c : Od), inS (setL 8 7 p c).1 = inS p ∧ inS (setL 8 8 p c).1 = inS p
  | [], c => ⟨rfl, rfl⟩
  | x :: p, c => by
    constructor
    · by_cases h : x.1 = 8 ∨ x.1 = 7
      · simp only [setL, if_pos h, inS]
        rw [(setL_i p _).1, if_pos (by omega)]
      · simp only [setL, if_neg h]
    · by_cases h : x.1 = 8 ∨ x.1 = 8
      · simp only [setL, if_pos h, inS]
        rw [(setL_i p _).2, if_pos (by omega)]
      · simp only [setL, if_neg h]
theorem wOneL_w : ∀ (p : Pl) (d : Nat) (c : Od) (b : Bd), (wOneL p d c b).2.2.1.length + wsum (wOneL p d c b).1 = c.length + wsum p
  | [], d, c, b => rfl
  | x :: p, d, c, b => by
    by_cases h3 : x.1 = 3
    · have hw : wt x = 1 := by unfold wt; rw [if_neg (by omega)]
      simp only [wOneL, if_pos h3, wsum, hw]
      rw [wOneL_w p]
      simp
      omega
    · by_cases h5 : x.1 = 5
      · have hw : wt x = 1 := by unfold wt; rw [if_neg (by omega)]
        simp only [wOneL, if_neg h3, if_pos h5, wsum, hw]
        rw [wOneL_w p]
        simp
        omega
      · simp only [wOneL, if_neg h3, if_neg h5]
theorem wSinL_w : ∀ (p : Pl) (d : Nat) (c : Od), (wSinL p d c).2.2.length + wsum (wSinL p d c).1 = c.length + wsum p ∧ inS (wSinL p d c).1 = inS p
  | [], d, c => ⟨rfl, rfl⟩
  | x :: p, d, c => by
    by_cases h : x.1 = 9
    · have hw : wt x = 1 := by unfold wt; rw [if_neg (by omega)]
      simp only [wSinL, if_pos h, wsum, hw, inS]
      obtain ⟨h1, h2⟩ := wSinL_w p (d - 1) (c ++ [(9, 0)])
      rw [h1, h2, if_pos (by omega)]
      simp
      omega
    · simp only [wSinL, if_neg h]
      constructor <;> first | rfl | trivial
theorem top_split {p : Pl} {k : Nat} (h : topP p = k) (hk : k ≠ 0) : ∃ x r, p = x :: r ∧ x.1 = k := by
  cases p with
  | nil => exact absurd h.symm hk
  | cons x r => exact ⟨x, r, rfl, h⟩
section QS
variable {ch d : Nat} {σ : Nat → Nat} {p : Pl} {c : Od} {b : Bd} {lp : List (Bool × Bool)}
theorem q_10 : Qs (10, d, σ, p, c, b, lp) = c.length + wsum p := rfl
theorem q_WOne : Qs (tWOne d σ p c b lp) = c.length + wsum p := by
  show (wOneL p d c b).2.2.1.length + wsum (wOneL p d c b).1 + 0 = _
  rw [wOneL_w]
  rfl
theorem q_AfterOne : Qs (tAfterOne ch d σ p c b lp) ≤ c.length + wsum p + 1 := by
  have h22 := setL_w (a := 2) (b := 2) (by decide) (by decide) p c
  have h21 := setL_w (a := 2) (b := 1) (by decide) (by decide) p c
  unfold tAfterOne
  split
  · show (setL 2 2 p c).2.length + (1 + wsum (setL 2 2 p c).1) + 0 ≤ _
    omega
  · split
    · show (setL 2 1 p c).2.length + (1 + wsum (setL 2 1 p c).1) + 0 ≤ _
      omega
    · split
      · rename_i h
        obtain ⟨x, r, hx, hx1⟩ := top_split h.2 (by decide)
        rw [q_WOne, hx]
        have hw : wt x = 0 := by unfold wt; rw [if_pos (Or.inl hx1)]
        rw [hx] at h21
        simp only [wsum, hw, List.tail_cons] at h21 ⊢
        omega
      · rw [q_10]
        omega
theorem q_AfterPart : Qs (tAfterPart ch d σ p c b lp) ≤ c.length + wsum p + rl σ + 2 := by
  unfold tAfterPart
  split
  · have h1 := sgl_le (su σ 7 (if ch = 45 then 1 else 0))
    have h2 : rl (su σ 7 (if ch = 45 then 1 else 0)) = rl σ := rl_eq (by simp [su])
    show c.length + wsum p + (rl (su σ 7 (if ch = 45 then 1 else 0)) + sgl (su σ 7 (if ch = 45 then 1 else 0))) ≤ _
    omega
  · split
    · split
      · have h1 := rl_le (su σ 10 1)
        show c.length + wsum p + (rl (su σ 10 1) + 0) ≤ _
        omega
      · split
        · have h1 := rl_le (su σ 10 2)
          show c.length + wsum p + (rl (su σ 10 2) + 0) ≤ _
          omega
        · rw [q_10]; omega
    · rename_i h
      refine Nat.le_trans q_AfterOne ?_
      have h1 := wOneL_w p d (c ++ [relO σ]) b
      have h2 : rl σ = 1 := by unfold rl; rw [if_neg h]
      simp only [List.length_append, List.length_cons, List.length_nil] at h1
      omega
theorem q_Thing : Qs (tThing ch d σ p c b lp) ≤ c.length + wsum p + rl σ + wpl σ + 1 := by
  have hr : rl (wps σ) = rl σ := rl_eq (by simp [wps, su])
  unfold tThing
  split
  · show (c ++ [(15, 0)] ++ wpc σ).length + wsum p + (rl (wps σ) + 0) ≤ _
    simp only [List.length_append, List.length_cons, List.length_nil, hr]
    unfold wpl
    omega
  · split
    · unfold tDeep
      split
      · rw [q_10]; omega
      · show c.length + (1 + wsum p) + (rl σ + wpl σ) ≤ _
        omega
    · split
      · rw [q_10]; omega
      · show (c ++ [(14, _)] ++ wpc σ).length + wsum p + (rl (wps σ) + 0) ≤ _
        simp only [List.length_append, List.length_cons, List.length_nil, hr]
        unfold wpl
        omega
theorem q_Part : Qs (tPart ch d σ p c b lp) ≤ c.length + wsum p + rl σ + sgl σ + 1 := by
  unfold tPart
  split
  · have h1 : rl (su (su (su σ 5 0) 3 (ch - 48)) 4 1) = rl σ := rl_eq (by simp [su])
    have h2 : sgl (su (su (su σ 5 0) 3 (ch - 48)) 4 1) = sgl σ := sgl_eq (by simp [su]) (by simp [su])
    show c.length + wsum p + (rl (su (su (su σ 5 0) 3 (ch - 48)) 4 1) + (sgl (su (su (su σ 5 0) 3 (ch - 48)) 4 1) + 1)) ≤ _
    omega
  · refine Nat.le_trans q_Thing ?_
    have h1 : rl (su σ 5 0) = rl σ := rl_eq (by simp [su])
    have h2 : wpl (su σ 5 0) = sgl σ := (wpl5 (by simp [su])).trans (sgl_eq (by simp [su]) (by simp [su]))
    omega
theorem q_Sum : Qs (tSum ch d σ p c b lp) ≤ c.length + wsum p + rl σ + 2 := by
  have h1 : rl (tSumS ch σ) = rl σ := rl_eq (by simp [tSumS, su])
  have h2 : sgl (tSumS ch σ) = if ch = 45 then 1 else 0 := by
    unfold sgl sgc
    by_cases hc : ch = 45 <;> simp [tSumS, su, hc]
  unfold tSum
  split
  · rename_i hc
    rw [if_pos hc] at h2
    show c.length + wsum p + (rl (tSumS ch σ) + sgl (tSumS ch σ)) ≤ _
    omega
  · rename_i hc
    rw [if_neg hc] at h2
    refine Nat.le_trans q_Part ?_
    omega
theorem q_AfterNumber (h5 : σ 5 = 0) : Qs (tAfterNumber ch d σ p c b lp) ≤ c.length + wsum p + rl σ + sgl σ + 3 := by
  unfold tAfterNumber
  split
  · have h1 : rl (su (su σ 3 (10 * σ 3 + (ch - 48))) 4 (σ 4 + 1)) = rl σ := rl_eq (by simp [su])
    have h2 : sgl (su (su σ 3 (10 * σ 3 + (ch - 48))) 4 (σ 4 + 1)) = sgl σ := sgl_eq (by simp [su]) (by simp [su])
    by_cases h4 : σ 4 + 1 < 4
    · rw [if_pos h4]
      show c.length + wsum p + (rl (su (su σ 3 (10 * σ 3 + (ch - 48))) 4 (σ 4 + 1)) + (sgl (su (su σ 3 (10 * σ 3 + (ch - 48))) 4 (σ 4 + 1)) + 1)) ≤ _
      omega
    · rw [if_neg h4, q_10]
      omega
  · split
    · have h1 : rl (su (su σ 5 1) 6 (σ 3)) = rl σ := rl_eq (by simp [su])
      have h2 : sgl (su (su σ 5 1) 6 (σ 3)) = sgl σ := sgl_eq (by simp [su]) (by simp [su])
      show c.length + wsum p + (rl (su (su σ 5 1) 6 (σ 3)) + (sgl (su (su σ 5 1) 6 (σ 3)) + 1)) ≤ _
      omega
    · split
      · have h1 := rl_le (su (su σ 10 3) 11 (σ 3))
        by_cases h4 : 0 < σ 3
        · rw [if_pos h4]
          show c.length + wsum p + (rl (su (su σ 10 3) 11 (σ 3)) + 0) ≤ _
          omega
        · rw [if_neg h4, q_10]
          omega
      · refine Nat.le_trans q_AfterPart ?_
        have h1 : rl (wps σ) = rl σ := rl_eq (by simp [wps, su])
        have h2 : (wpc σ).length = sgl σ := wpl5 h5
        simp only [List.length_append, List.length_cons, List.length_nil]
        omega
theorem q_WSin : Qs (tWSin d σ p c b lp) ≤ c.length + wsum p + rl σ + ipl σ p := by
  obtain ⟨h1, h2⟩ := wSinL_w p d c
  have hr : rl (wps σ) = rl σ := rl_eq (by simp [wps, su])
  unfold tWSin
  split
  · rename_i h
    obtain ⟨x, r, hx, hx1⟩ := top_split h (by decide)
    rw [hx] at h1 h2 ⊢
    have hi : inS p = true := by
      rw [← h2]
      simp [inS, hx1]
    have hw : wt x = 1 := by unfold wt; rw [if_neg (by omega)]
    simp only [wsum, hw] at h1
    show ((wSinL p d c).2.2 ++ [(11, 0)] ++ wpc σ).length + wsum r + (rl (wps σ) + 0) ≤ _
    unfold ipl
    rw [if_pos hi]
    simp only [List.length_append, List.length_cons, List.length_nil, hr]
    unfold wpl
    omega
  · show (wSinL p d c).2.2.length + wsum (wSinL p d c).1 + (rl σ + (if (9 = 8 ∨ 9 = 9) ∧ inS (wSinL p d c).1 = true then wpl σ else 0)) ≤ _
    rw [h2]
    unfold ipl
    by_cases hi : inS p = true
    · rw [if_pos ⟨by decide, hi⟩, if_pos hi]; omega
    · rw [if_neg (fun q => hi q.2), if_neg hi]; omega
theorem q_8 : Qs (8, d, σ, p, c, b, lp) = c.length + wsum p + (rl σ + ipl σ p) := by
  show c.length + wsum p + (rl σ + (if (8 = 8 ∨ 8 = 9) ∧ inS p = true then wpl σ else 0)) = _
  unfold ipl
  by_cases hi : inS p = true
  · rw [if_pos ⟨by decide, hi⟩, if_pos hi]
  · rw [if_neg (fun q => hi q.2), if_neg hi]
theorem q_9 : Qs (9, d, σ, p, c, b, lp) = c.length + wsum p + (rl σ + ipl σ p) := by
  show c.length + wsum p + (rl σ + (if (9 = 8 ∨ 9 = 9) ∧ inS p = true then wpl σ else 0)) = _
  unfold ipl
  by_cases hi : inS p = true
  · rw [if_pos ⟨by decide, hi⟩, if_pos hi]
  · rw [if_neg (fun q => hi q.2), if_neg hi]
theorem ipl_eq {τ : Nat → Nat} {r : Pl} (h : inS r = inS p) (h5 : τ 5 = σ 5) (h6 : τ 6 = σ 6) (h7 : τ 7 = σ 7) (h8 : τ 8 = σ 8) : ipl τ r = ipl σ p := by
  unfold ipl wpl wpc
  rw [h, h5, h6, sgc_eq h7 h8]
theorem q_Single : Qs (tSingle ch d σ p c b lp) ≤ c.length + wsum p + rl σ + ipl σ p + 1 := by
  unfold tSingle
  split
  · unfold tDeep
    split
    · rw [q_10]; omega
    · rw [q_8, ipl_eq (σ := σ) (τ := σ) (p := p) (r := (9, 0, none) :: p) rfl rfl rfl rfl rfl]
      show c.length + (1 + wsum p) + _ ≤ _
      omega
  · split
    · unfold tDeep
      split
      · rw [q_10]; omega
      · rw [q_8, ipl_eq (σ := σ) (τ := σ) (p := p) (r := (10, 0, none) :: p) rfl rfl rfl rfl rfl]
        show c.length + (0 + wsum p) + _ ≤ _
        omega
    · split
      · refine Nat.le_trans q_WSin ?_
        simp only [List.length_append, List.length_cons, List.length_nil]
        omega
      · split
        · refine Nat.le_trans q_WSin ?_
          simp only [List.length_append, List.length_cons, List.length_nil]
          omega
        · split
          · rw [q_10]; omega
          · refine Nat.le_trans q_WSin ?_
            simp only [List.length_append, List.length_cons, List.length_nil]
            omega
theorem q_AfterSingle : Qs (tAfterSingle ch d σ p c b lp) ≤ c.length + wsum p + rl σ + ipl σ p + 1 := by
  have h88 := setL_w (a := 8) (b := 8) (by decide) (by decide) p c
  have h87 := setL_w (a := 8) (b := 7) (by decide) (by decide) p c
  obtain ⟨i87, i88⟩ := setL_i p c
  unfold tAfterSingle
  split
  · rw [q_8, ipl_eq (σ := σ) (τ := σ) (p := p) (r := (8, 0, none) :: (setL 8 8 p c).1) i88 rfl rfl rfl rfl]
    show (setL 8 8 p c).2.length + (1 + wsum (setL 8 8 p c).1) + _ ≤ _
    omega
  · split
    · rw [q_8, ipl_eq (σ := σ) (τ := σ) (p := p) (r := (7, 0, none) :: (setL 8 7 p c).1) i87 rfl rfl rfl rfl]
      show (setL 8 7 p c).2.length + (1 + wsum (setL 8 7 p c).1) + _ ≤ _
      omega
    · split
      · rename_i h
        obtain ⟨x, r, hx, hx1⟩ := top_split h.2 (by decide)
        refine Nat.le_trans q_WSin ?_
        have hw : wt x = 0 := by unfold wt; rw [if_pos (by omega)]
        rw [hx] at h87 i87 ⊢
        have hi : inS r = inS p := by
          rw [← i87]
          simp [inS, hx1]
        simp only [wsum, hw, List.tail_cons] at h87 ⊢
        rw [ipl_eq (σ := σ) (τ := σ) hi rfl rfl rfl rfl]
        omega
      · split
        · rename_i h
          obtain ⟨x, r, hx, hx1⟩ := top_split h (by decide)
          have hw : wt x = 0 := by unfold wt; rw [if_pos (by omega)]
          split
          · split
            · rw [q_8, ipl_eq (σ := σ) (τ := su σ 10 1) i87 (by simp [su]) (by simp [su]) (by simp [su]) (by simp [su])]
              have h1 := rl_le (su σ 10 1)
              omega
            · split
              · rw [q_8, ipl_eq (σ := σ) (τ := su σ 10 2) i87 (by simp [su]) (by simp [su]) (by simp [su]) (by simp [su])]
                have h1 := rl_le (su σ 10 2)
                omega
              · rw [q_10]; omega
          · split
            · rw [q_WOne, hx]
              rw [hx] at h87
              simp only [wsum, hw, List.tail_cons, List.length_append, List.length_cons, List.length_nil] at h87 ⊢
              omega
            · rw [q_10, hx]
              rw [hx] at h87
              simp only [wsum, hw, List.tail_cons, List.length_append, List.length_cons, List.length_nil] at h87 ⊢
              omega
        · rw [q_10]; omega
theorem q_One : Qs (tOne ch d σ p c b lp) ≤ c.length + wsum p + 2 := by
  unfold tOne
  split
  · unfold tDeep
    split
    · rw [q_10]; omega
    · show c.length + (1 + wsum p) + 0 ≤ _
      omega
  · split
    · unfold tDeep
      split
      · rw [q_10]; omega
      · show c.length + (0 + wsum p) + 0 ≤ _
        omega
    · split
      · by_cases h : lp.length < 4 ∧ d < 12
        · rw [if_pos h]
          show c.length + wsum p + 0 ≤ _
          omega
        · rw [if_neg h, q_10]; omega
      · have hr : rl (su σ 10 0) = 0 := by unfold rl; rw [if_pos (by simp [su])]
        split
        · rw [q_8]
          show c.length + (0 + wsum p) + (rl (su σ 10 0) + 0) ≤ _
          omega
        · refine Nat.le_trans q_Sum ?_
          omega
theorem q_Bound : Qs (tBound ch d σ p c b lp) ≤ c.length + wsum p + 2 := by
  unfold tBound
  split
  · rw [q_10]; omega
  · show (c ++ [(12, lp.length)]).length + (1 + wsum p) + 0 ≤ _
    simp only [List.length_append, List.length_cons, List.length_nil]
    omega
theorem q_Next (st : Nat) (h5 : st = 5 → σ 5 = 0) : Qs (aNext (st, d, σ, p, c, b, lp) ch) ≤ Qs (st, d, σ, p, c, b, lp) + 2 := by
  have hb : c.length + wsum p + pnd st σ p = Qs (st, d, σ, p, c, b, lp) := rfl
  unfold aNext
  split
  · refine Nat.le_trans q_One ?_; show c.length + wsum p + 2 ≤ c.length + wsum p + pnd st σ p + 2; omega
  · split
    · refine Nat.le_trans q_AfterOne ?_; show c.length + wsum p + 1 ≤ c.length + wsum p + pnd st σ p + 2; omega
    · split
      · refine Nat.le_trans q_Bound ?_; show c.length + wsum p + 2 ≤ c.length + wsum p + pnd st σ p + 2; omega
      · split
        · rename_i h
          have h : st = 3 := h
          subst h
          refine Nat.le_trans q_Sum ?_; show _ ≤ c.length + wsum p + (rl σ + 0) + 2; show c.length + wsum p + rl σ + 2 ≤ _; omega
        · split
          · rename_i h
            have h : st = 4 := h
            subst h
            refine Nat.le_trans q_Part ?_; show c.length + wsum p + rl σ + sgl σ + 1 ≤ c.length + wsum p + (rl σ + sgl σ) + 2; omega
          · split
            · rename_i h
              have h : st = 5 := h
              subst h
              refine Nat.le_trans (q_AfterNumber (h5 rfl)) ?_; show c.length + wsum p + rl σ + sgl σ + 3 ≤ c.length + wsum p + (rl σ + (sgl σ + 1)) + 2; omega
            · split
              · rename_i h
                have h : st = 6 := h
                subst h
                have hw := wpl_le σ
                refine Nat.le_trans q_Thing ?_; show c.length + wsum p + rl σ + wpl σ + 1 ≤ c.length + wsum p + (rl σ + (sgl σ + 1)) + 2; omega
              · split
                · rename_i h
                  have h : st = 7 := h
                  subst h
                  refine Nat.le_trans q_AfterPart ?_; show c.length + wsum p + rl σ + 2 ≤ c.length + wsum p + (rl σ + 0) + 2; omega
                · split
                  · rename_i h
                    have h : st = 8 := h
                    subst h
                    refine Nat.le_trans q_Single ?_; rw [q_8]; show c.length + wsum p + rl σ + ipl σ p + 1 ≤ _; omega
                  · split
                    · rename_i h
                      have h : st = 9 := h
                      subst h
                      refine Nat.le_trans q_AfterSingle ?_; rw [q_9]; show c.length + wsum p + rl σ + ipl σ p + 1 ≤ _; omega
                    · show c.length + wsum p + 0 ≤ c.length + wsum p + _ + 2; omega
end QS
