/-! the reader's steps in memory: numbers, singles, ones, and the step itself -/
section RS
variable {n D m d k ch : Nat} {M : Mem} {X : Xr} {σ : Nat → Nat} {p : Pl} {c : Od} {b : Bd} {lp : List (Bool × Bool)}
theorem R_afterNumber (hn : 200 ≤ n) (hL : LayM m M) (h : RelP X d σ p c b lp) (hB : Bs k d σ p b lp) (hbc : BC p b) (h5 : N5 σ) (hk : k ≤ 130) (hc : ch < 1000) (hq : c.length + wsum p + sgl σ + 2 ≤ 260) : St n (D + 5) m M 89 ch X (tAfterNumber ch d σ p c b lp) := by
  have q42 := cq hc 42 (by decide) (x := 42) rfl
  have q58 := cq hc 58 (by decide) (x := 58) rfl
  have hs := hB.2.2.2.2
  have hl := hs.2.2.2.2.2.2
  have s9 := hs.2.2.2.2.1
  have h26 : X 0 26 = nI (σ 3) := h.2.2.2.2.2.2.2.2 3 (by decide) (by decide)
  have h27 : X 0 27 = nI (σ 4) := h.2.2.2.2.2.2.2.2 4 (by decide) (by decide)
  have h32 : X 0 32 = nI (σ 9) := h.2.2.2.2.2.2.2.2 9 (by decide) (by decide)
  obtain ⟨n1, n2, n3, n4⟩ := h5
  unfold St
  rw [eM_afterNumber]
  unfold tAfterNumber
  by_cases hg : isDg ch = true
  · rw [if_pos hg]
    have hd := dg_le hg
    have hb : ¬ b2i (isDg ch) = 0 := by rw [hg]; decide
    have e48 : 10 * nI (σ 3) + nI ch - 48 = nI (10 * σ 3 + (ch - 48)) := by
      rw [show (10 : Int32) = nI 10 from rfl, pk_mul, nI_add, show (48 : Int32) = nI 48 from rfl, pk_sub (by omega)]
      congr 1
      omega
    have e27 : xs X 0 26 (nI (10 * σ 3 + (ch - 48))) 0 27 = nI (σ 4) := by rw [xs_idx _ _ _ (by decide)]; exact h27
    have hr := (h.note 3 (10 * σ 3 + (ch - 48)) (by decide) (by decide)).note 4 (σ 4 + 1) (by decide) (by decide)
    by_cases h4 : σ 4 + 1 < 4
    · rw [if_pos h4]
      have hz : ¬ (4 : Int32) ≤ nI (σ 4 + 1) := nI_ge (b := 4) h4 (by decide)
      refine ⟨_, ?_, hr, (frX_fld (by omega)).trans (frX_fld (by omega))⟩
      simp only [fM_afterNumber_0, fM_afterNumber_47, x_isDigit (D := D + 3) hc, rzC_l, rzI_e, if_neg hb, mK_wR, hL.1, if_true, rzM_e, wR_set0 (K := 17) (by decide), wR_at0 (K := 17) (by decide), h26, e48, e27, nI_1, xs_eq, if_neg hz]
      rfl
    · rw [if_neg h4]
      have hz : (4 : Int32) ≤ nI (σ 4 + 1) := nI_le (a := 4) (by omega) (by omega)
      refine ⟨_, ?_, hr, (frX_fld (by omega)).trans (frX_fld (by omega))⟩
      simp only [fM_afterNumber_0, fM_afterNumber_47, x_isDigit (D := D + 3) hc, rzC_l, rzI_e, if_neg hb, mK_wR, hL.1, if_true, rzM_e, wR_set0 (K := 17) (by decide), wR_at0 (K := 17) (by decide), h26, e48, e27, nI_1, xs_eq, if_pos hz]
      rfl
  · rw [if_neg hg]
    have hb : b2i (isDg ch) = 0 := by
      cases hz : isDg ch with
      | false => rfl
      | true => exact absurd hz hg
    by_cases h42 : ch = 42
    · rw [if_pos h42]
      have e26 : xs X 0 28 1 0 26 = nI (σ 3) := by rw [xs_idx _ _ _ (by decide)]; exact h26
      refine ⟨_, ?_, (h.note 5 1 (by decide) (by decide)).note 6 (σ 3) (by decide) (by decide), (frX_fld (by omega)).trans (frX_fld (by omega))⟩
      simp only [fM_afterNumber_0, x_isDigit (D := D + 3) hc, rzC_l, rzI_e, hb, if_true, q42, if_pos h42, mK_wR, hL.1, fb1, rzM_e, wR_set0 (K := 17) (by decide), wR_at0 (K := 17) (by decide), e26]
      rfl
    · rw [if_neg h42]
      have hgo : ∃ X', fM_afterNumber_110 n (D + 4) (mR n (D + 4)) m (nI ch) (wR m 17 M X) = some (.inl (some (.int (nI (tAfterPart ch d (wps σ) p (c ++ [(13, σ 3)] ++ wpc σ) b lp).1))), wR m 17 M X') ∧ RelS X' (tAfterPart ch d (wps σ) p (c ++ [(13, σ 3)] ++ wpc σ) b lp) ∧ FrX X X' := by
        have hw : (wpc σ).length = sgl σ := wpl5 n1
        obtain ⟨X1, g1, g2, g3⟩ := R_emit (n := n) (D := D + 3) hL h (by omega) 13 (σ 3) (a := nI (σ 3)) (Or.inl rfl) (w' := 13) rfl
        obtain ⟨X2, k1, k2, k3⟩ := R_wholePart (n := n) (D := D + 2) hL g2 hs (by unfold wpl; simp only [List.length_append, List.length_cons, List.length_nil]; omega)
        obtain ⟨X', e1, e2, e3⟩ := R_afterPart (n := n) (D := D) (ch := ch) hn hL k2 (sig_wps hs) hB.1 hB.2.2.2.1 hbc hk hc (by simp only [List.length_append, List.length_cons, List.length_nil]; omega)
        refine ⟨X', ?_, e2, (g3.trans k3).trans e3⟩
        simp only [fM_afterNumber_110, mK_wR, hL.1, if_true, wR_at0 (K := 17) (by decide), h26, g1, rzC_l, rzV_e, k1, e1, rzI_e]
      obtain ⟨X', e1, e2, e3⟩ := hgo
      by_cases h58 : ch = 58
      · by_cases h9 : σ 9 = 1
        · rw [if_pos ⟨h58, h9⟩]
          have hz : ¬ nI (σ 9) = 0 := fun q => by have := (nI_b s9).mp q; omega
          have a26 : xs X 0 33 3 0 26 = nI (σ 3) := by rw [xs_idx _ _ _ (by decide)]; exact h26
          have b26 : xs (xs X 0 33 3) 0 34 (nI (σ 3)) 0 26 = nI (σ 3) := by rw [xs_idx _ _ _ (by decide)]; exact a26
          have hr := (h.note 10 3 (by decide) (by decide)).note 11 (σ 3) (by decide) (by decide)
          have h3l := hl 3
          by_cases h0 : 0 < σ 3
          · rw [if_pos h0]
            have hz3 : ¬ nI (σ 3) ≤ 0 := nI_nle h0 (by omega)
            refine ⟨_, ?_, hr, (frX_fld (by omega)).trans (frX_fld (by omega))⟩
            simp only [fM_afterNumber_0, fM_afterNumber_109, x_isDigit (D := D + 3) hc, rzC_l, rzI_e, hb, if_true, q42, if_neg h42, q58, if_pos h58, mK_wR, hL.1, rzM_e, wR_set0 (K := 17) (by decide), wR_at0 (K := 17) (by decide), h32, if_neg hz, a26, b26, if_neg hz3]
            rfl
          · rw [if_neg h0]
            have hz3 : nI (σ 3) ≤ 0 := by
              have h00 : σ 3 = 0 := by omega
              rw [h00]
              decide
            refine ⟨_, ?_, hr, (frX_fld (by omega)).trans (frX_fld (by omega))⟩
            simp only [fM_afterNumber_0, fM_afterNumber_109, x_isDigit (D := D + 3) hc, rzC_l, rzI_e, hb, if_true, q42, if_neg h42, q58, if_pos h58, mK_wR, hL.1, rzM_e, wR_set0 (K := 17) (by decide), wR_at0 (K := 17) (by decide), h32, if_neg hz, a26, b26, if_pos hz3]
            rfl
        · rw [if_neg (fun q => h9 q.2)]
          have hz : nI (σ 9) = 0 := (nI_b s9).mpr (by omega)
          refine ⟨X', ?_, e2, e3⟩
          simp only [fM_afterNumber_0, x_isDigit (D := D + 3) hc, rzC_l, rzI_e, hb, if_true, q42, if_neg h42, q58, if_pos h58, mK_wR, hL.1, wR_at0 (K := 17) (by decide), h32, if_pos hz, e1]
      · rw [if_neg (fun q => h58 q.1)]
        refine ⟨X', ?_, e2, e3⟩
        simp only [fM_afterNumber_0, x_isDigit (D := D + 3) hc, rzC_l, rzI_e, hb, if_true, q42, if_neg h42, q58, if_neg h58, e1]
theorem R_single (hn : 200 ≤ n) (hL : LayM m M) (h : RelP X d σ p c b lp) (hB : Bs k d σ p b lp) (hk : k ≤ 130) (hc : ch < 1000) (hq : c.length + wsum p + ipl σ p + 1 ≤ 260) : St n (D + 4) m M 91 ch X (tSingle ch d σ p c b lp) := by
  have q45 := cq hc 45 (by decide) (x := 45) rfl
  have q40 := cq hc 40 (by decide) (x := 40) rfl
  have q48 := cq hc 48 (by decide) (x := 48) rfl
  have q49 := cq hc 49 (by decide) (x := 49) rfl
  have hl := hB.1.1
  have hd := hB.2.1
  unfold St
  rw [eM_single]
  have hgo : ∀ (w a' : Nat) (w' a : Int32), w' = nI w → a = nI a' → ∃ X1 X', mR n (D + 3) 81 [.ref m, .int w', .int a] (wR m 17 M X) = some (.inl none, wR m 17 M X1) ∧ fM_single_116 n (D + 3) (mR n (D + 3)) m (wR m 17 M X1) = some (.inl (some (.int (nI (tWSin d σ p (c ++ [(w, a')]) b lp).1))), wR m 17 M X') ∧ RelS X' (tWSin d σ p (c ++ [(w, a')]) b lp) ∧ FrX X X' := by
    intro w a' w' a hw ha
    obtain ⟨X1, g1, g2, g3⟩ := R_emit (n := n) (D := D + 2) hL h (by omega) w a' (Or.inl ha) hw
    obtain ⟨X', e1, e2, e3⟩ := R_wholeSingleM (n := n) (D := D) (k := k) hn hL g2 hB.2.2.2.2 hB.1 (by omega) (by simp only [List.length_append, List.length_cons, List.length_nil]; omega)
    refine ⟨X1, X', g1, ?_, e2, g3.trans e3⟩
    simp only [fM_single_116, mK_wR, hL.1, if_true, e1, rzC_l, rzI_e]
  have hdeep : ∀ (w : Nat) (w' : Int32), w ≠ 5 → w' = nI w → ∃ X' v, mR n (D + 3) 74 [.ref m, .int w'] (wR m 17 M X) = some (.inl (some (.int v)), wR m 17 M X') ∧ (if v = 0 then (10 : Int32) else 8) = nI (tDeep w 8 d σ p c b lp).1 ∧ RelS X' (tDeep w 8 d σ p c b lp) ∧ FrX X X' := by
    intro w w' h5 hw
    unfold tDeep
    by_cases h12 : 12 ≤ d
    · rw [if_pos h12]
      exact ⟨X, 0, R_deeper0 (D := D + 1) hL h (by omega) (by omega) w', rfl, h, FrX.refl X⟩
    · rw [if_neg h12]
      obtain ⟨X', e1, e2, e3⟩ := R_deeper (n := n) (D := D + 1) hL h (by omega) (by omega) w h5 hw
      exact ⟨X', 1, e1, rfl, e2, e3⟩
  unfold tSingle
  by_cases h45 : ch = 45
  · rw [if_pos h45]
    obtain ⟨X', v, e1, ev, e2, e3⟩ := hdeep 9 9 (by decide) rfl
    refine ⟨X', ?_, e2, e3⟩
    rw [← ev]
    simp only [fM_single_0, fM_single_27, x_variableOf (D := D + 2) hc, rzC_l, rzI_e, q45, if_pos h45, mK_wR, hL.1, if_true, e1]
    split <;> rfl
  · rw [if_neg h45]
    by_cases h40 : ch = 40
    · rw [if_pos h40]
      obtain ⟨X', v, e1, ev, e2, e3⟩ := hdeep 10 10 (by decide) rfl
      refine ⟨X', ?_, e2, e3⟩
      rw [← ev]
      simp only [fM_single_0, fM_single_50, x_variableOf (D := D + 2) hc, rzC_l, rzI_e, q45, if_neg h45, q40, if_pos h40, mK_wR, hL.1, if_true, e1]
      split <;> rfl
    · rw [if_neg h40]
      by_cases h48 : ch = 48
      · rw [if_pos h48]
        obtain ⟨X1, X', g1, e1, e2, e3⟩ := hgo 23 0 23 0 rfl nI_0.symm
        refine ⟨X', ?_, e2, e3⟩
        simp only [fM_single_0, fM_single_63, fM_single_77, x_variableOf (D := D + 2) hc, rzC_l, rzI_e, q45, if_neg h45, q40, if_neg h40, q48, if_pos h48, mK_wR, hL.1, if_true, g1, rzV_e, e1]
      · rw [if_neg h48]
        by_cases h49 : ch = 49
        · rw [if_pos h49]
          obtain ⟨X1, X', g1, e1, e2, e3⟩ := hgo 24 0 24 0 rfl nI_0.symm
          refine ⟨X', ?_, e2, e3⟩
          simp only [fM_single_0, fM_single_63, fM_single_77, x_variableOf (D := D + 2) hc, rzC_l, rzI_e, q45, if_neg h45, q40, if_neg h40, q48, if_neg h48, q49, if_pos h49, mK_wR, hL.1, if_true, g1, rzV_e, e1]
        · rw [if_neg h49]
          obtain ⟨l1, l2, l3⟩ := lm23 hL
          cases hv : varO ch with
          | none =>
            have hvn : vrS b ch = none := by unfold vrS; rw [hv]; rfl
            have hle : oI none ≤ 2 := by decide
            rw [hvn]
            refine ⟨X, ?_, h, FrX.refl X⟩
            simp only [fM_single_0, fM_single_113, x_variableOf (D := D + 2) hc, rzC_l, rzI_e, q45, if_neg h45, q40, if_neg h40, q48, if_neg h48, q49, if_neg h49, hv, if_pos hle]
            rfl
          | some v =>
            have hv6 := varO_lt hv
            by_cases h3 : 3 ≤ v
            · have hv3 : ¬ oI (some v) ≤ 2 := nI_ge (a := 2) (by omega) (by omega)
              have hi : inA (oI (some v)) 6 := inA_nI hv6 (by decide)
              have hcl : (oI (some v)).toNatClampNeg = v := nI_clamp (by omega)
              have h13 := h.2.2.2.2.2.2.1 v hv6
              have hvb : vrS b ch = b v := by unfold vrS; rw [hv]; show (if 3 ≤ v then b v else none) = b v; rw [if_pos h3]
              rw [hvb]
              have hneg := oI_nn (o := b v) (fun q hq => by have := hB.2.2.2.1 v q hq; omega)
              cases hbv : b v with
              | none =>
                have hng : oI (b v) < 0 := hneg.mpr hbv
                refine ⟨X, ?_, h, FrX.refl X⟩
                simp only [fM_single_0, fM_single_113, x_variableOf (D := D + 2) hc, rzC_l, rzI_e, q45, if_neg h45, q40, if_neg h40, q48, if_neg h48, q49, if_neg h49, hv, if_neg hv3, mK_wR, mP_wR, mL_wR, hL.1, l1, l2, l3, if_true, rzD_s, if_pos hi, hcl, wR_at (K := 17) (r := 13) (by decide), h13, if_pos hng]
                rfl
              | some q =>
                have hng : ¬ oI (b v) < 0 := fun hz => by have := hneg.mp hz; rw [hbv] at this; cases this
                obtain ⟨X1, X', g1, e1, e2, e3⟩ := hgo 14 q 14 (oI (b v)) rfl (by rw [hbv]; rfl)
                refine ⟨X', ?_, e2, e3⟩
                simp only [fM_single_0, x_variableOf (D := D + 2) hc, rzC_l, rzI_e, q45, if_neg h45, q40, if_neg h40, q48, if_neg h48, q49, if_neg h49, hv, if_neg hv3, mK_wR, mP_wR, mL_wR, hL.1, l1, l2, l3, if_true, rzD_s, if_pos hi, hcl, wR_at (K := 17) (r := 13) (by decide), h13, if_neg hng, g1, rzV_e, e1]
            · have hv3 : oI (some v) ≤ 2 := nI_le (b := 2) (by omega) (by decide)
              have hvn : vrS b ch = none := by unfold vrS; rw [hv]; show (if 3 ≤ v then b v else none) = none; rw [if_neg h3]
              rw [hvn]
              refine ⟨X, ?_, h, FrX.refl X⟩
              simp only [fM_single_0, fM_single_113, x_variableOf (D := D + 2) hc, rzC_l, rzI_e, q45, if_neg h45, q40, if_neg h40, q48, if_neg h48, q49, if_neg h49, hv, if_pos hv3]
              rfl
end RS
