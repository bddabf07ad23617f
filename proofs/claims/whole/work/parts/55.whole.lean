/-! parts and singles that are over, in memory; what a sign is -/
def RelS (X : Xr) (S : AS) : Prop := RelP X S.2.1 S.2.2.1 S.2.2.2.1 S.2.2.2.2.1 S.2.2.2.2.2.1 S.2.2.2.2.2.2
section RW
variable {n D m d : Nat} {M : Mem} {X : Xr} {σ : Nat → Nat} {p : Pl} {c : Od} {b : Bd} {lp : List (Bool × Bool)}
theorem x_isDigit {ch : Nat} (h : ch < 1000) (M : Mem) : mR n (D + 1) 78 [.int (nI ch)] M = some (.inl (some (.int (b2i (isDg ch)))), M) := by
  rw [eM_isDigit]
  have h48 : (nI ch < 48) ↔ ch < 48 := nI_ltI (b := 48) (by omega) (by decide)
  have h57 : (57 < nI ch) ↔ 57 < ch := nI_ltI (a := 57) (by decide) (by omega)
  unfold fM_isDigit_0 fM_isDigit_16 fM_isDigit_17
  by_cases h1 : ch < 48
  · rw [if_pos (h48.mpr h1)]
    have : isDg ch = false := by simp [isDg]; omega
    rw [this]; rfl
  · rw [if_neg (fun q => h1 (h48.mp q))]
    by_cases h2 : 57 < ch
    · rw [if_pos (h57.mpr h2)]
      have : isDg ch = false := by simp [isDg]; omega
      rw [this]; rfl
    · rw [if_neg (fun q => h2 (h57.mp q))]
      have : isDg ch = true := by simp [isDg]; omega
      rw [this]; rfl
theorem x_variableOf {ch : Nat} (h : ch < 1000) (M : Mem) : mR n (D + 1) 80 [.int (nI ch)] M = some (.inl (some (.int (oI (varO ch)))), M) := by
  rw [eM_variableOf]
  have h88 : (nI ch < 88) ↔ ch < 88 := nI_ltI (b := 88) (by omega) (by decide)
  have h90 : (90 < nI ch) ↔ 90 < ch := nI_ltI (a := 90) (by decide) (by omega)
  have h105 : (nI ch < 105) ↔ ch < 105 := nI_ltI (b := 105) (by omega) (by decide)
  have h107 : (107 < nI ch) ↔ 107 < ch := nI_ltI (a := 107) (by decide) (by omega)
  have h19 : fM_variableOf_19 n D (mR n D) (nI ch) M = some (.inl (some (.int (if 88 ≤ ch ∧ ch ≤ 90 then nI (ch - 85) else -1))), M) := by
    unfold fM_variableOf_19 fM_variableOf_40 fM_variableOf_41
    by_cases h1 : ch < 88
    · rw [if_pos (h88.mpr h1), if_neg (by omega)]
    · rw [if_neg (fun q => h1 (h88.mp q))]
      by_cases h2 : 90 < ch
      · rw [if_pos (h90.mpr h2), if_neg (by omega)]
      · rw [if_neg (fun q => h2 (h90.mp q)), if_pos (by omega)]
        have e1 : nI ch - 88 = nI (ch - 88) := pk_sub (a := ch) (b := 88) (by omega)
        have e2 : nI (ch - 88) + 3 = nI (ch - 88 + 3) := nI_add (ch - 88) 3
        rw [e1, e2, show ch - 88 + 3 = ch - 85 by omega]
  unfold fM_variableOf_0
  by_cases h1 : ch < 105
  · have hn : ¬ (105 ≤ ch ∧ ch ≤ 107) := by omega
    rw [if_pos (h105.mpr h1), h19]
    unfold varO
    rw [if_neg hn]
    split <;> rfl
  · rw [if_neg (fun q => h1 (h105.mp q))]
    by_cases h2 : 107 < ch
    · have hn : ¬ (105 ≤ ch ∧ ch ≤ 107) := by omega
      have hn2 : ¬ (88 ≤ ch ∧ ch ≤ 90) := by omega
      rw [if_pos (h107.mpr h2), h19]
      unfold varO
      rw [if_neg hn, if_neg hn2, if_neg hn2]
      rfl
    · rw [if_neg (fun q => h2 (h107.mp q))]
      have e1 : nI ch - 105 = nI (ch - 105) := pk_sub (a := ch) (b := 105) (by omega)
      unfold varO fM_variableOf_41
      rw [if_pos (by omega), e1]
      rfl
theorem nI_b {k : Nat} (h : k ≤ 1) : nI k = 0 ↔ k = 0 := by
  have := nI_eq (a := k) (b := 0) (by omega) (by omega)
  rw [nI_0] at this
  exact this
theorem fb0 : fits .boolean (.int 0) = true := rfl
theorem fb1 : fits .boolean (.int 1) = true := rfl
theorem R_wp45 (hL : LayM m M) (h : RelP X d σ p c b lp) (C : Cx) : ∃ X', fM_wholePart_45 n D C m (wR m 17 M X) = some (.inl none, wR m 17 M X') ∧ RelP X' d (wps σ) p c b lp ∧ FrX X X' := by
  refine ⟨_, ?_, ((h.note 8 0 (by decide) (by decide)).note 9 0 (by decide) (by decide)).note 5 0 (by decide) (by decide), ((frX_fld (by omega)).trans (frX_fld (by omega))).trans (frX_fld (by omega))⟩
  simp only [fM_wholePart_45, mK_wR, hL.1, if_true, fb0, rzM_e, wR_set0 (K := 17) (by decide), nI_0]
theorem R_wp31 (hL : LayM m M) (h : RelP X d σ p c b lp) (h8 : σ 8 ≤ 1) (hq : c.length + (if σ 8 = 0 then 1 else 0) ≤ 260) : ∃ X', fM_wholePart_31 n (D + 1) (mR n (D + 1)) m (wR m 17 M X) = some (.inl none, wR m 17 M X') ∧ RelP X' d (wps σ) p (c ++ (if σ 8 = 0 then [(18, 0)] else [])) b lp ∧ FrX X X' := by
  have h31 : X 0 31 = nI (σ 8) := h.2.2.2.2.2.2.2.2 8 (by decide) (by decide)
  by_cases h0 : σ 8 = 0
  · rw [if_pos h0] at hq ⊢
    obtain ⟨X1, g1, g2, g3⟩ := R_emit (n := n) (D := D) hL h (by omega) 18 0 (a := 0) (Or.inl nI_0.symm) (w' := 18) rfl
    obtain ⟨X', e1, e2, e3⟩ := R_wp45 (n := n) (D := D + 1) hL g2 (mR n (D + 1))
    refine ⟨X', ?_, e2, g3.trans e3⟩
    simp only [fM_wholePart_31, mK_wR, hL.1, if_true, wR_at0 (K := 17) (by decide), h31, h0, nI_0, g1, rzC_l, rzV_e, e1]
  · rw [if_neg h0, List.append_nil]
    obtain ⟨X', e1, e2, e3⟩ := R_wp45 (n := n) (D := D + 1) hL h (mR n (D + 1))
    have hz : ¬ nI (σ 8) = 0 := fun q => h0 ((nI_b h8).mp q)
    refine ⟨X', ?_, e2, e3⟩
    simp only [fM_wholePart_31, mK_wR, hL.1, if_true, wR_at0 (K := 17) (by decide), h31, if_neg hz, e1]
theorem R_wp17 (hL : LayM m M) (h : RelP X d σ p c b lp) (h7 : σ 7 ≤ 1) (h8 : σ 8 ≤ 1) (hq : c.length + (sgc σ).length ≤ 260) : ∃ X', fM_wholePart_17 n (D + 1) (mR n (D + 1)) m (wR m 17 M X) = some (.inl none, wR m 17 M X') ∧ RelP X' d (wps σ) p (c ++ sgc σ) b lp ∧ FrX X X' := by
  have h30 : X 0 30 = nI (σ 7) := h.2.2.2.2.2.2.2.2 7 (by decide) (by decide)
  unfold sgc at hq ⊢
  by_cases h0 : σ 7 = 1
  · rw [if_pos h0] at hq ⊢
    simp only [List.length_append, List.length_cons, List.length_nil] at hq
    have hl : (if σ 8 = 0 then [((18 : Nat), (0 : Nat))] else []).length = if σ 8 = 0 then 1 else 0 := by split <;> rfl
    rw [hl] at hq
    obtain ⟨X1, g1, g2, g3⟩ := R_emit (n := n) (D := D) hL h (by omega) 17 0 (a := 0) (Or.inl nI_0.symm) (w' := 17) rfl
    obtain ⟨X', e1, e2, e3⟩ := R_wp31 (n := n) (D := D) hL g2 h8 (by simp only [List.length_append, List.length_cons, List.length_nil]; omega)
    have hz : ¬ nI (σ 7) = 0 := fun q => by have := (nI_b h7).mp q; omega
    refine ⟨X', ?_, by rw [← List.append_assoc]; exact e2, g3.trans e3⟩
    simp only [fM_wholePart_17, mK_wR, hL.1, if_true, wR_at0 (K := 17) (by decide), h30, if_neg hz, g1, rzC_l, rzV_e, e1]
  · rw [if_neg h0] at hq ⊢
    simp only [List.nil_append] at hq ⊢
    have hl : (if σ 8 = 0 then [((18 : Nat), (0 : Nat))] else []).length = if σ 8 = 0 then 1 else 0 := by split <;> rfl
    rw [hl] at hq
    obtain ⟨X', e1, e2, e3⟩ := R_wp31 (n := n) (D := D) hL h h8 (by omega)
    have hz : nI (σ 7) = 0 := (nI_b h7).mpr (by omega)
    refine ⟨X', ?_, e2, e3⟩
    simp only [fM_wholePart_17, mK_wR, hL.1, if_true, wR_at0 (K := 17) (by decide), h30, hz, e1]
theorem R_wholePart (hL : LayM m M) (h : RelP X d σ p c b lp) (hs : Sig σ) (hq : c.length + wpl σ ≤ 260) : ∃ X', mR n (D + 2) 82 [.ref m] (wR m 17 M X) = some (.inl none, wR m 17 M X') ∧ RelP X' d (wps σ) p (c ++ wpc σ) b lp ∧ FrX X X' := by
  obtain ⟨s2, s5, s7, s8, s9, s10, sl⟩ := hs
  have h28 : X 0 28 = nI (σ 5) := h.2.2.2.2.2.2.2.2 5 (by decide) (by decide)
  have h29 : X 0 29 = nI (σ 6) := h.2.2.2.2.2.2.2.2 6 (by decide) (by decide)
  rw [eM_wholePart]
  unfold wpl at hq
  unfold wpc at hq ⊢
  by_cases h0 : σ 5 = 1
  · rw [if_pos h0] at hq ⊢
    simp only [List.length_append, List.length_cons, List.length_nil] at hq
    obtain ⟨X1, g1, g2, g3⟩ := R_emit (n := n) (D := D) hL h (by omega) 16 (σ 6) (a := nI (σ 6)) (Or.inl rfl) (w' := 16) rfl
    obtain ⟨X', e1, e2, e3⟩ := R_wp17 (n := n) (D := D) hL g2 s7 s8 (by simp only [List.length_append, List.length_cons, List.length_nil]; omega)
    have hz : ¬ nI (σ 5) = 0 := fun q => by have := (nI_b s5).mp q; omega
    refine ⟨X', ?_, by rw [← List.append_assoc]; exact e2, g3.trans e3⟩
    simp only [fM_wholePart_0, mK_wR, hL.1, if_true, wR_at0 (K := 17) (by decide), h28, h29, if_neg hz, g1, rzC_l, rzV_e, e1]
  · rw [if_neg h0] at hq ⊢
    simp only [List.nil_append] at hq ⊢
    obtain ⟨X', e1, e2, e3⟩ := R_wp17 (n := n) (D := D) hL h s7 s8 hq
    have hz : nI (σ 5) = 0 := (nI_b s5).mpr (by omega)
    refine ⟨X', ?_, e2, e3⟩
    simp only [fM_wholePart_0, mK_wR, hL.1, if_true, wR_at0 (K := 17) (by decide), h28, hz, e1]
theorem R_wholeSingle (hL : LayM m M) (hs : Sig σ) : ∀ (p : Pl) (d : Nat) (c : Od) (X : Xr) (w : Nat), p.length < w → p.length ≤ 140 → (∀ x ∈ p, x.1 ≤ 11) → c.length + wsum p + ipl σ p ≤ 260 → dp p = d → RelP X d σ p c b lp →
    ∃ X', fM_wholeSingle_0 n (D + 2) (mR n (D + 2)) w m (wR m 17 M X) = some (.inl (some (.int (nI (tWSin d σ p c b lp).1))), wR m 17 M X') ∧ RelS X' (tWSin d σ p c b lp) ∧ FrX X X' := by
  intro p
  induction p with
  | nil =>
    intro d c X w hw hp hk hq hd h
    obtain ⟨w, rfl⟩ : ∃ w', w = w' + 1 := ⟨w - 1, by omega⟩
    have h1 : ¬ nI (topP []) = 9 := by rw [show (9 : Int32) = nI 9 from rfl, nI_top hk (by omega)]; decide
    have h2 : ¬ nI (topP []) = 11 := by rw [show (11 : Int32) = nI 11 from rfl, nI_top hk (by omega)]; decide
    rw [tWSin_id (p := []) (by decide) (by decide)]
    refine ⟨X, ?_, h, FrX.refl X⟩
    rw [fM_wholeSingle_0]
    simp only [mK_wR, hL.1, if_true, R_upper (D := D + 1) hL h hp, rzC_l, rzI_e, if_neg h1, if_neg h2]
    rfl
  | cons x p ih =>
    intro d c X w hw hp hk hq hd h
    obtain ⟨w, rfl⟩ : ∃ w', w = w' + 1 := ⟨w - 1, by omega⟩
    have hup := R_upper (n := n) (D := D + 1) hL h (by simp only [List.length_cons] at hp ⊢; omega)
    simp only [List.length_cons] at hw hp
    have hkp : ∀ y ∈ p, y.1 ≤ 11 := fun y hy => hk y (List.mem_cons_of_mem _ hy)
    by_cases hx9 : x.1 = 9
    · have hw1 : wt x = 1 := by unfold wt; rw [if_neg (by omega)]
      have hd1 : dk x = 1 := by unfold dk; rw [if_pos (by omega)]
      have hi0 : inS (x :: p) = inS p := by simp [inS, hx9]
      have hi : ipl σ (x :: p) = ipl σ p := by unfold ipl; rw [hi0]
      rw [hi] at hq
      simp only [wsum, hw1] at hq
      simp only [dp, hd1] at hd
      obtain ⟨e, rfl⟩ : ∃ e, d = e + 1 := ⟨d - 1, by omega⟩
      obtain ⟨X1, g1, g2, g3⟩ := R_emit (n := n) (D := D + 1) hL h (by omega) 9 0 (a := 0) (Or.inl nI_0.symm) (w' := 9) rfl
      obtain ⟨X2, k1, k2, k3⟩ := R_close (n := n) (D := D + 1) hL g2
      obtain ⟨X', e1, e2, e3⟩ := ih e (c ++ [(9, 0)]) X2 w (by omega) (by omega) hkp (by simp only [List.length_append, List.length_cons, List.length_nil]; omega) (by omega) k2
      have h9 : nI (topP (x :: p)) = 9 := by rw [show (9 : Int32) = nI 9 from rfl, nI_top hk (by omega)]; exact hx9
      have ht : tWSin (e + 1) σ (x :: p) c b lp = tWSin e σ p (c ++ [(9, 0)]) b lp := by
        unfold tWSin
        simp only [wSinL, if_pos hx9, Nat.add_sub_cancel]
      rw [ht]
      refine ⟨X', ?_, e2, (g3.trans k3).trans e3⟩
      rw [fM_wholeSingle_0]
      simp only [mK_wR, hL.1, if_true, hup, rzC_l, rzI_e, if_pos h9, g1, rzV_e, k1, e1]
    · have h1 : ¬ nI (topP (x :: p)) = 9 := by rw [show (9 : Int32) = nI 9 from rfl, nI_top hk (by omega)]; exact hx9
      by_cases hx11 : x.1 = 11
      · have h2 : nI (topP (x :: p)) = 11 := by rw [show (11 : Int32) = nI 11 from rfl, nI_top hk (by omega)]; exact hx11
        have hw1 : wt x = 1 := by unfold wt; rw [if_neg (by omega)]
        have hd1 : dk x = 1 := by unfold dk; rw [if_pos (by omega)]
        have hi0 : inS (x :: p) = true := by simp [inS, hx11]
        have hi : ipl σ (x :: p) = wpl σ := by unfold ipl; rw [if_pos hi0]
        rw [hi] at hq
        simp only [wsum, hw1] at hq
        simp only [dp, hd1] at hd
        obtain ⟨e, rfl⟩ : ∃ e, d = e + 1 := ⟨d - 1, by omega⟩
        obtain ⟨X1, g1, g2, g3⟩ := R_emit (n := n) (D := D + 1) hL h (by omega) 11 0 (a := 0) (Or.inl nI_0.symm) (w' := 11) rfl
        obtain ⟨X2, k1, k2, k3⟩ := R_close (n := n) (D := D + 1) hL g2
        obtain ⟨X', e1, e2, e3⟩ := R_wholePart (n := n) (D := D) hL k2 hs (by simp only [List.length_append, List.length_cons, List.length_nil]; omega)
        have ht : tWSin (e + 1) σ (x :: p) c b lp = (7, e, wps σ, p, c ++ [(11, 0)] ++ wpc σ, b, lp) := by
          unfold tWSin
          rw [wSinL_id (p := x :: p) hx9]
          exact if_pos hx11
        rw [ht]
        refine ⟨X', ?_, e2, (g3.trans k3).trans e3⟩
        rw [fM_wholeSingle_0]
        simp only [mK_wR, hL.1, if_true, hup, rzC_l, rzI_e, if_neg h1, if_pos h2, g1, rzV_e, k1, e1]
        rfl
      · have h2 : ¬ nI (topP (x :: p)) = 11 := by rw [show (11 : Int32) = nI 11 from rfl, nI_top hk (by omega)]; exact hx11
        rw [tWSin_id (p := x :: p) hx9 hx11]
        refine ⟨X, ?_, h, FrX.refl X⟩
        rw [fM_wholeSingle_0]
        simp only [mK_wR, hL.1, if_true, hup, rzC_l, rzI_e, if_neg h1, if_neg h2]
        rfl
end RW
