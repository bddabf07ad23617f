/-! what always holds of the reader's state -/
def dk (x : Nat × Nat × Option Nat) : Nat := if x.1 = 3 ∨ x.1 = 4 ∨ x.1 = 5 ∨ x.1 = 9 ∨ x.1 = 10 ∨ x.1 = 11 then 1 else 0
def dp : Pl → Nat
  | [] => 0
  | x :: p => dk x + dp p
def Bq (b : Bd) : Prop := ∀ v q, b v = some q → q < 4
def PI (p : Pl) (d k : Nat) : Prop := p.length ≤ k ∧ dp p = d ∧ (∀ x ∈ p, x.1 ≤ 11) ∧ ∀ x ∈ p, x.1 = 5 → x.2.1 < 6 ∧ ∀ q, x.2.2 = some q → q < 4
def Sig (σ : Nat → Nat) : Prop := σ 2 ≤ 1 ∧ σ 5 ≤ 1 ∧ σ 7 ≤ 1 ∧ σ 8 ≤ 1 ∧ σ 9 ≤ 1 ∧ σ 10 ≤ 3 ∧ ∀ j, σ j < 10000
def Bs (k d : Nat) (σ : Nat → Nat) (p : Pl) (b : Bd) (lp : List (Bool × Bool)) : Prop := PI p d k ∧ d ≤ 12 ∧ lp.length ≤ 4 ∧ Bq b ∧ Sig σ
def N5 (σ : Nat → Nat) : Prop := σ 5 = 0 ∧ 1 ≤ σ 4 ∧ σ 4 ≤ 3 ∧ σ 3 < 10 ^ σ 4
def Gd (k : Nat) (S : AS) : Prop := Bs k S.2.1 S.2.2.1 S.2.2.2.1 S.2.2.2.2.2.1 S.2.2.2.2.2.2 ∧ (S.1 = 2 → S.2.2.2.2.2.2.length < 4 ∧ S.2.1 < 12) ∧ (S.1 = 5 → N5 S.2.2.1) ∧ S.1 ≤ 10
theorem sig_su {σ : Nat → Nat} {j v : Nat} (h : Sig σ) (hv : v < 10000) (h1 : (j = 2 ∨ j = 5 ∨ j = 7 ∨ j = 8 ∨ j = 9) → v ≤ 1) (h3 : j = 10 → v ≤ 3) : Sig (su σ j v) := by
  obtain ⟨a2, a5, a7, a8, a9, a10, al⟩ := h
  refine ⟨?_, ?_, ?_, ?_, ?_, ?_, fun i => ?_⟩
  · unfold su; split
    · exact h1 (by omega)
    · exact a2
  · unfold su; split
    · exact h1 (by omega)
    · exact a5
  · unfold su; split
    · exact h1 (by omega)
    · exact a7
  · unfold su; split
    · exact h1 (by omega)
    · exact a8
  · unfold su; split
    · exact h1 (by omega)
    · exact a9
  · unfold su; split
    · exact h3 (by omega)
    · exact a10
  · unfold su; split
    · exact hv
    · exact al i
theorem sig_wps {σ : Nat → Nat} (h : Sig σ) : Sig (wps σ) := sig_su (sig_su (sig_su h (by decide) (by omega) (by omega)) (by decide) (by omega) (by omega)) (by decide) (by omega) (by omega)
theorem PI.more {p : Pl} {d k k' : Nat} (h : PI p d k) (hk : k ≤ k') : PI p d k' := ⟨Nat.le_trans h.1 hk, h.2⟩
theorem Bs.more {k k' d : Nat} {σ : Nat → Nat} {p : Pl} {b : Bd} {lp : List (Bool × Bool)} (h : Bs k d σ p b lp) (hk : k ≤ k') : Bs k' d σ p b lp := ⟨h.1.more hk, h.2⟩
theorem Bs.sig {k d : Nat} {σ τ : Nat → Nat} {p : Pl} {b : Bd} {lp : List (Bool × Bool)} (h : Bs k d σ p b lp) (ht : Sig τ) : Bs k d τ p b lp := ⟨h.1, h.2.1, h.2.2.1, h.2.2.2.1, ht⟩
theorem setL_PI {a b' : Nat} (ha : ∀ v, dk (a, v) = 0) (hb : ∀ v, dk (b', v) = 0) : ∀ (p : Pl) (c : Od) (d k : Nat), PI p d k → PI (setL a b' p c).1 d k
  | [], c, d, k, h => h
  | x :: p, c, d, k, h => by
    by_cases hx : x.1 = a ∨ x.1 = b'
    · simp only [setL, if_pos hx]
      have h0 : dk x = 0 := by
        obtain ⟨x1, x2⟩ := x
        rcases hx with rfl | rfl
        · exact ha _
        · exact hb _
      refine setL_PI ha hb p _ d k ⟨by have := h.1; simp only [List.length_cons] at this; omega, by have := h.2.1; simp only [dp, h0] at this; omega, fun y hy => h.2.2.1 y (List.mem_cons_of_mem _ hy), fun y hy => h.2.2.2 y (List.mem_cons_of_mem _ hy)⟩
    · simp only [setL, if_neg hx]
      exact h
theorem wOneL_PI : ∀ (p : Pl) (d : Nat) (c : Od) (b : Bd) (k : Nat), PI p d k → Bq b → PI (wOneL p d c b).1 (wOneL p d c b).2.1 k ∧ Bq (wOneL p d c b).2.2.2 ∧ (wOneL p d c b).2.1 ≤ d
  | [], d, c, b, k, h, hb => ⟨h, hb, Nat.le_refl _⟩
  | x :: p, d, c, b, k, h, hb => by
    have hp : dk x = 1 → PI p (d - 1) k := fun h1 => ⟨by have := h.1; simp only [List.length_cons] at this; omega, by have := h.2.1; simp only [dp, h1] at this; omega, fun y hy => h.2.2.1 y (List.mem_cons_of_mem _ hy), fun y hy => h.2.2.2 y (List.mem_cons_of_mem _ hy)⟩
    by_cases h3 : x.1 = 3
    · have h1 : dk x = 1 := by unfold dk; rw [if_pos (by omega)]
      simp only [wOneL, if_pos h3]
      obtain ⟨g1, g2, g3⟩ := wOneL_PI p (d - 1) (c ++ [(3, 0)]) b k (hp h1) hb
      exact ⟨g1, g2, by omega⟩
    · by_cases h5 : x.1 = 5
      · have h1 : dk x = 1 := by unfold dk; rw [if_pos (by omega)]
        simp only [wOneL, if_neg h3, if_pos h5]
        have hx := h.2.2.2 x List.mem_cons_self h5
        obtain ⟨g1, g2, g3⟩ := wOneL_PI p (d - 1) (c ++ [(5, (b x.2.1).getD 0)]) (fun j => if j = x.2.1 then x.2.2 else b j) k (hp h1) (fun v q hv => by
          simp only at hv
          split at hv
          · exact hx.2 q hv
          · exact hb v q hv)
        exact ⟨g1, g2, by omega⟩
      · simp only [wOneL, if_neg h3, if_neg h5]
        exact ⟨h, hb, Nat.le_refl _⟩
theorem wSinL_PI : ∀ (p : Pl) (d : Nat) (c : Od) (k : Nat), PI p d k → PI (wSinL p d c).1 (wSinL p d c).2.1 k ∧ (wSinL p d c).2.1 ≤ d
  | [], d, c, k, h => ⟨h, Nat.le_refl _⟩
  | x :: p, d, c, k, h => by
    by_cases h9 : x.1 = 9
    · have h1 : dk x = 1 := by unfold dk; rw [if_pos (by omega)]
      simp only [wSinL, if_pos h9]
      obtain ⟨g1, g3⟩ := wSinL_PI p (d - 1) (c ++ [(9, 0)]) k ⟨by have := h.1; simp only [List.length_cons] at this; omega, by have := h.2.1; simp only [dp, h1] at this; omega, fun y hy => h.2.2.1 y (List.mem_cons_of_mem _ hy), fun y hy => h.2.2.2 y (List.mem_cons_of_mem _ hy)⟩
      exact ⟨g1, by omega⟩
    · simp only [wSinL, if_neg h9]
      exact ⟨h, Nat.le_refl _⟩
theorem tail_PI {p : Pl} {d k w : Nat} (h : PI p d k) (ht : topP p = w) (hw : w ≠ 0) (hk : ∀ v, dk (w, v) = 1) : PI p.tail (d - 1) k := by
  obtain ⟨x, r, rfl, hx⟩ := top_split ht hw
  have h1 : dk x = 1 := by
    obtain ⟨x1, x2⟩ := x
    have hx : x1 = w := hx
    subst hx
    exact hk _
  exact ⟨by have := h.1; simp only [List.length_cons] at this; simp only [List.tail_cons]; omega, by have := h.2.1; simp only [dp, h1] at this; simp only [List.tail_cons]; omega, fun y hy => h.2.2.1 y (List.mem_cons_of_mem _ hy), fun y hy => h.2.2.2 y (List.mem_cons_of_mem _ hy)⟩
theorem tail_PI0 {p : Pl} {d k w : Nat} (h : PI p d k) (ht : topP p = w) (hw : w ≠ 0) (hk : ∀ v, dk (w, v) = 0) : PI p.tail d k := by
  obtain ⟨x, r, rfl, hx⟩ := top_split ht hw
  have h1 : dk x = 0 := by
    obtain ⟨x1, x2⟩ := x
    have hx : x1 = w := hx
    subst hx
    exact hk _
  exact ⟨by have := h.1; simp only [List.length_cons] at this; simp only [List.tail_cons]; omega, by have := h.2.1; simp only [dp, h1] at this; simp only [List.tail_cons]; omega, fun y hy => h.2.2.1 y (List.mem_cons_of_mem _ hy), fun y hy => h.2.2.2 y (List.mem_cons_of_mem _ hy)⟩
theorem push_PI {p : Pl} {d k w : Nat} (h : PI p d k) (h5 : w ≠ 5) (h11 : w ≤ 11) (hk : dk (w, 0, none) = 0) : PI ((w, 0, none) :: p) d (k + 1) :=
  ⟨by have := h.1; simp only [List.length_cons]; omega, by have := h.2.1; simp only [dp, hk]; omega, fun y hy => (List.mem_cons.mp hy).elim (fun e => by rw [e]; exact h11) (h.2.2.1 y), fun y hy hy5 => by
    rcases List.mem_cons.mp hy with rfl | hy
    · exact absurd hy5 h5
    · exact h.2.2.2 y hy hy5⟩
theorem deep_PI {p : Pl} {d k w : Nat} (h : PI p d k) (h5 : w ≠ 5) (h11 : w ≤ 11) (hk : dk (w, 0, none) = 1) : PI ((w, 0, none) :: p) (d + 1) (k + 1) :=
  ⟨by have := h.1; simp only [List.length_cons]; omega, by have := h.2.1; simp only [dp, hk]; omega, fun y hy => (List.mem_cons.mp hy).elim (fun e => by rw [e]; exact h11) (h.2.2.1 y), fun y hy hy5 => by
    rcases List.mem_cons.mp hy with rfl | hy
    · exact absurd hy5 h5
    · exact h.2.2.2 y hy hy5⟩
section GD
variable {k ch d : Nat} {σ : Nat → Nat} {p : Pl} {c : Od} {b : Bd} {lp : List (Bool × Bool)}
theorem gd_of {st : Nat} (h : Bs k d σ p b lp) (h2 : st ≠ 2) (h5 : st ≠ 5) (h10 : st ≤ 10) : Gd (k + 1) (st, d, σ, p, c, b, lp) := ⟨h.more (Nat.le_succ k), fun q => absurd q h2, fun q => absurd q h5, h10⟩
theorem gd_push {st w : Nat} (h : Bs k d σ p b lp) (h2 : st ≠ 2) (h5 : st ≠ 5) (h10 : st ≤ 10) (hw5 : w ≠ 5) (hw : w ≤ 11) (hk : dk (w, 0, none) = 0) : Gd (k + 1) (st, d, σ, (w, 0, none) :: p, c, b, lp) := ⟨⟨push_PI h.1 hw5 hw hk, h.2⟩, fun q => absurd q h2, fun q => absurd q h5, h10⟩
theorem gd_Deep {w g : Nat} (h : Bs k d σ p b lp) (h2 : g ≠ 2) (h5 : g ≠ 5) (h10 : g ≤ 10) (hw5 : w ≠ 5) (hw : w ≤ 11) (hk : dk (w, 0, none) = 1) : Gd (k + 1) (tDeep w g d σ p c b lp) := by
  unfold tDeep
  split
  · exact gd_of h (by decide) (by decide) (by decide)
  · exact ⟨⟨deep_PI h.1 hw5 hw hk, by show d + 1 ≤ 12; omega, h.2.2⟩, fun q => absurd q h2, fun q => absurd q h5, h10⟩
theorem bs_setL {a b' : Nat} (ha : ∀ v, dk (a, v) = 0) (hb : ∀ v, dk (b', v) = 0) (h : Bs k d σ p b lp) : Bs k d σ (setL a b' p c).1 b lp := ⟨setL_PI ha hb p c d k h.1, h.2⟩
theorem gd_WOne (h : Bs k d σ p b lp) : Gd (k + 1) (tWOne d σ p c b lp) := by
  obtain ⟨g1, g2, g3⟩ := wOneL_PI p d c b k h.1 h.2.2.2.1
  exact gd_of (c := (wOneL p d c b).2.2.1) ⟨g1, Nat.le_trans g3 h.2.1, h.2.2.1, g2, h.2.2.2.2⟩ (by decide) (by decide) (by decide)
theorem gd_AfterOne (h : Bs k d σ p b lp) : Gd (k + 1) (tAfterOne ch d σ p c b lp) := by
  unfold tAfterOne
  split
  · exact gd_push (bs_setL (fun _ => rfl) (fun _ => rfl) h) (by decide) (by decide) (by decide) (by decide) (by decide) rfl
  · split
    · exact gd_push (bs_setL (fun _ => rfl) (fun _ => rfl) h) (by decide) (by decide) (by decide) (by decide) (by decide) rfl
    · split
      · rename_i h4
        exact gd_WOne ⟨tail_PI (setL_PI (fun _ => rfl) (fun _ => rfl) p c d k h.1) h4.2 (by decide) (fun _ => rfl), by have := h.2.1; omega, h.2.2⟩
      · exact gd_of (bs_setL (fun _ => rfl) (fun _ => rfl) h) (by decide) (by decide) (by decide)
theorem gd_AfterPart (h : Bs k d σ p b lp) : Gd (k + 1) (tAfterPart ch d σ p c b lp) := by
  have hs := h.2.2.2.2
  unfold tAfterPart
  split
  · exact gd_of (h.sig (sig_su hs (by split <;> omega) (fun _ => by split <;> omega) (by omega))) (by decide) (by decide) (by decide)
  · split
    · split
      · exact gd_of (h.sig (sig_su hs (by decide) (by omega) (by omega))) (by decide) (by decide) (by decide)
      · split
        · exact gd_of (h.sig (sig_su hs (by decide) (by omega) (by omega))) (by decide) (by decide) (by decide)
        · exact gd_of h (by decide) (by decide) (by decide)
    · obtain ⟨g1, g2, g3⟩ := wOneL_PI p d (c ++ [relO σ]) b k h.1 h.2.2.2.1
      exact gd_AfterOne ⟨g1, Nat.le_trans g3 h.2.1, h.2.2.1, g2, hs⟩
theorem gd_Thing (h : Bs k d σ p b lp) : Gd (k + 1) (tThing ch d σ p c b lp) := by
  have hs := h.2.2.2.2
  unfold tThing
  split
  · exact gd_of (h.sig (sig_wps hs)) (by decide) (by decide) (by decide)
  · split
    · exact gd_Deep h (by decide) (by decide) (by decide) (by decide) (by decide) rfl
    · split
      · exact gd_of h (by decide) (by decide) (by decide)
      · exact gd_of (h.sig (sig_wps hs)) (by decide) (by decide) (by decide)
theorem gd_Part (h : Bs k d σ p b lp) : Gd (k + 1) (tPart ch d σ p c b lp) := by
  have hs := h.2.2.2.2
  unfold tPart
  split
  · rename_i hg
    have hd := dg_le hg
    refine ⟨(h.sig (sig_su (sig_su (sig_su hs (by decide) (by omega) (by omega)) (by omega) (by omega) (by omega)) (by decide) (by omega) (by omega))).more (Nat.le_succ k), fun q => (by cases q), fun _ => ⟨by simp [su], by simp [su], by simp [su], ?_⟩, by show 5 ≤ 10; decide⟩
    show su (su (su σ 5 0) 3 (ch - 48)) 4 1 3 < 10 ^ su (su (su σ 5 0) 3 (ch - 48)) 4 1 4
    simp [su]
    omega
  · exact gd_Thing (h.sig (sig_su hs (by decide) (by omega) (by omega)))
theorem gd_Sum (h : Bs k d σ p b lp) : Gd (k + 1) (tSum ch d σ p c b lp) := by
  have hs := h.2.2.2.2
  have ht : Sig (tSumS ch σ) := sig_su (sig_su (sig_su hs (by split <;> omega) (fun _ => by split <;> omega) (by omega)) (by decide) (by omega) (by omega)) (by split <;> omega) (fun _ => by split <;> omega) (by omega)
  unfold tSum
  split
  · exact gd_of (h.sig ht) (by decide) (by decide) (by decide)
  · exact gd_Part (h.sig ht)
theorem gd_AfterNumber (h : Bs k d σ p b lp) (h5 : N5 σ) : Gd (k + 1) (tAfterNumber ch d σ p c b lp) := by
  have hs := h.2.2.2.2
  have hl := hs.2.2.2.2.2.2
  obtain ⟨n1, n2, n3, n4⟩ := h5
  unfold tAfterNumber
  split
  · rename_i hg
    have hd := dg_le hg
    have hp : 10 ^ (σ 4 + 1) = 10 ^ σ 4 * 10 := Nat.pow_succ _ _
    have hle : 10 ^ σ 4 ≤ 10 ^ 3 := Nat.pow_le_pow_right (by decide) n3
    have hb : 10 * σ 3 + (ch - 48) < 10000 := by omega
    have hsg : Sig (su (su σ 3 (10 * σ 3 + (ch - 48))) 4 (σ 4 + 1)) := sig_su (sig_su hs hb (by omega) (by omega)) (by omega) (by omega) (by omega)
    by_cases h4 : σ 4 + 1 < 4
    · rw [if_pos h4]
      refine ⟨(h.sig hsg).more (Nat.le_succ k), fun q => (by cases q), fun _ => ⟨by simp [su, n1], by simp [su], by simp [su]; omega, ?_⟩, by show 5 ≤ 10; decide⟩
      show su (su σ 3 (10 * σ 3 + (ch - 48))) 4 (σ 4 + 1) 3 < 10 ^ su (su σ 3 (10 * σ 3 + (ch - 48))) 4 (σ 4 + 1) 4
      simp [su]
      omega
    · rw [if_neg h4]
      exact gd_of (h.sig hsg) (by decide) (by decide) (by decide)
  · split
    · exact gd_of (h.sig (sig_su (sig_su hs (by decide) (by omega) (by omega)) (hl 3) (by omega) (by omega))) (by decide) (by decide) (by decide)
    · split
      · have hsg : Sig (su (su σ 10 3) 11 (σ 3)) := sig_su (sig_su hs (by decide) (by omega) (by omega)) (hl 3) (by omega) (by omega)
        by_cases h4 : 0 < σ 3
        · rw [if_pos h4]
          exact gd_of (h.sig hsg) (by decide) (by decide) (by decide)
        · rw [if_neg h4]
          exact gd_of (h.sig hsg) (by decide) (by decide) (by decide)
      · exact gd_AfterPart (h.sig (sig_wps hs))
theorem gd_WSin (h : Bs k d σ p b lp) : Gd (k + 1) (tWSin d σ p c b lp) := by
  obtain ⟨g1, g3⟩ := wSinL_PI p d c k h.1
  have hd := h.2.1
  unfold tWSin
  split
  · rename_i h11
    exact gd_of ⟨tail_PI g1 h11 (by decide) (fun _ => rfl), by omega, h.2.2.1, h.2.2.2.1, sig_wps h.2.2.2.2⟩ (by decide) (by decide) (by decide)
  · exact gd_of ⟨g1, by omega, h.2.2⟩ (by decide) (by decide) (by decide)
theorem gd_Single (h : Bs k d σ p b lp) : Gd (k + 1) (tSingle ch d σ p c b lp) := by
  unfold tSingle
  split
  · exact gd_Deep h (by decide) (by decide) (by decide) (by decide) (by decide) rfl
  · split
    · exact gd_Deep h (by decide) (by decide) (by decide) (by decide) (by decide) rfl
    · split
      · exact gd_WSin h
      · split
        · exact gd_WSin h
        · split
          · exact gd_of h (by decide) (by decide) (by decide)
          · exact gd_WSin h
theorem gd_AfterSingle (h : Bs k d σ p b lp) : Gd (k + 1) (tAfterSingle ch d σ p c b lp) := by
  have hs := h.2.2.2.2
  have h87 : Bs k d σ (setL 8 7 p c).1 b lp := bs_setL (fun _ => rfl) (fun _ => rfl) h
  unfold tAfterSingle
  split
  · exact gd_push (bs_setL (fun _ => rfl) (fun _ => rfl) h) (by decide) (by decide) (by decide) (by decide) (by decide) rfl
  · split
    · exact gd_push h87 (by decide) (by decide) (by decide) (by decide) (by decide) rfl
    · split
      · rename_i h4
        exact gd_WSin ⟨tail_PI h87.1 h4.2 (by decide) (fun _ => rfl), by have := h.2.1; omega, h.2.2⟩
      · split
        · rename_i h6
          have ht : Bs k d σ (setL 8 7 p c).1.tail b lp := ⟨tail_PI0 h87.1 h6 (by decide) (fun _ => rfl), h.2⟩
          split
          · split
            · exact gd_of (h87.sig (sig_su hs (by decide) (by omega) (by omega))) (by decide) (by decide) (by decide)
            · split
              · exact gd_of (h87.sig (sig_su hs (by decide) (by omega) (by omega))) (by decide) (by decide) (by decide)
              · exact gd_of h87 (by decide) (by decide) (by decide)
          · split
            · exact gd_WOne ht
            · exact gd_of ht (by decide) (by decide) (by decide)
        · exact gd_of h87 (by decide) (by decide) (by decide)
theorem gd_One (h : Bs k d σ p b lp) : Gd (k + 1) (tOne ch d σ p c b lp) := by
  have hs := h.2.2.2.2
  unfold tOne
  split
  · exact gd_Deep h (by decide) (by decide) (by decide) (by decide) (by decide) rfl
  · split
    · exact gd_Deep h (by decide) (by decide) (by decide) (by decide) (by decide) rfl
    · split
      · have hsg : Sig (su σ 2 (if ch = 65 then 1 else 0)) := sig_su hs (by split <;> omega) (fun _ => by split <;> omega) (by omega)
        by_cases h4 : lp.length < 4 ∧ d < 12
        · rw [if_pos h4]
          exact ⟨(h.sig hsg).more (Nat.le_succ k), fun _ => h4, fun q => (by cases q), by show 2 ≤ 10; decide⟩
        · rw [if_neg h4]
          exact gd_of (h.sig hsg) (by decide) (by decide) (by decide)
      · have hsg : Sig (su σ 10 0) := sig_su hs (by decide) (by omega) (by omega)
        split
        · exact gd_push (h.sig hsg) (by decide) (by decide) (by decide) (by decide) (by decide) rfl
        · exact gd_Sum (h.sig hsg)
theorem varO_lt {v i : Nat} (h : varO v = some i) : i < 6 := by
  unfold varO at h
  split at h
  · cases h; omega
  · split at h
    · cases h; omega
    · cases h
theorem gd_Bound (h : Bs k d σ p b lp) (h2 : lp.length < 4 ∧ d < 12) : Gd (k + 1) (tBound ch d σ p c b lp) := by
  unfold tBound
  split
  · exact gd_of h (by decide) (by decide) (by decide)
  · rename_i v hv
    refine ⟨⟨⟨by have := h.1.1; simp only [List.length_cons]; omega, ?_, fun y hy => (List.mem_cons.mp hy).elim (fun e => by rw [e]; show 5 ≤ 11; decide) (h.1.2.2.1 y), fun y hy hy5 => ?_⟩, by show d + 1 ≤ 12; omega, by simp; omega, fun w q hq => ?_, h.2.2.2.2⟩, fun q => (by cases q), fun q => (by cases q), by show 0 ≤ 10; decide⟩
    · have := h.1.2.1
      show dk (5, v, b v) + dp p = d + 1
      have h1 : dk (5, v, b v) = 1 := rfl
      omega
    · rcases List.mem_cons.mp hy with rfl | hy
      · exact ⟨varO_lt hv, fun q hq => h.2.2.2.1 v q hq⟩
      · exact h.1.2.2.2 y hy hy5
    · simp only at hq
      split at hq
      · cases hq; exact h2.1
      · exact h.2.2.2.1 w q hq
theorem gd_Next {S : AS} (h : Gd k S) : Gd (k + 1) (aNext S ch) := by
  obtain ⟨hb, h2, h5, h10⟩ := h
  unfold aNext
  split
  · exact gd_One hb
  · split
    · exact gd_AfterOne hb
    · split
      · exact gd_Bound hb (h2 (by assumption))
      · split
        · exact gd_Sum hb
        · split
          · exact gd_Part hb
          · split
            · exact gd_AfterNumber hb (h5 (by assumption))
            · split
              · exact gd_Thing hb
              · split
                · exact gd_AfterPart hb
                · split
                  · exact gd_Single hb
                  · split
                    · exact gd_AfterSingle hb
                    · exact gd_of hb (by decide) (by decide) (by decide)
end GD
