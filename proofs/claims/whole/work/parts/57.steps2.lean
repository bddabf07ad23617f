/-! the reader's steps in memory, the rest of them -/
theorem oI_nn {o : Option Nat} (h : ∀ q, o = some q → q < 1000) : (oI o < 0) ↔ o = none := by
  cases o with
  | none => exact ⟨fun _ => rfl, fun _ => by decide⟩
  | some q => exact ⟨fun hq => absurd hq (nI_pos (by have := h q rfl; omega)), fun hq => by cases hq⟩
section RS
variable {n D m d k ch : Nat} {M : Mem} {X : Xr} {σ : Nat → Nat} {p : Pl} {c : Od} {b : Bd} {lp : List (Bool × Bool)}
theorem R_thing (hL : LayM m M) (h : RelP X d σ p c b lp) (hB : Bs k d σ p b lp) (hk : k ≤ 130) (hc : ch < 1000) (hq : c.length + 1 + wpl σ ≤ 260) : St n (D + 3) m M 79 ch X (tThing ch d σ p c b lp) := by
  have q110 := cq hc 110 (by decide) (x := 110) rfl
  have q35 := cq hc 35 (by decide) (x := 35) rfl
  have hl := hB.1.1
  have hd := hB.2.1
  unfold St
  rw [eM_thing]
  have hgo : ∀ (w a' : Nat) (w' a : Int32), w' = nI w → a = nI a' → ∃ X1 X', mR n (D + 2) 81 [.ref m, .int w', .int a] (wR m 17 M X) = some (.inl none, wR m 17 M X1) ∧ fM_thing_80 n (D + 2) (mR n (D + 2)) m (wR m 17 M X1) = some (.inl (some (.int 7)), wR m 17 M X') ∧ RelP X' d (wps σ) p (c ++ [(w, a')] ++ wpc σ) b lp ∧ FrX X X' := by
    intro w a' w' a hw ha
    obtain ⟨X1, g1, g2, g3⟩ := R_emit (n := n) (D := D + 1) hL h (by omega) w a' (Or.inl ha) hw
    obtain ⟨X', e1, e2, e3⟩ := R_wholePart (n := n) (D := D) hL g2 hB.2.2.2.2 (by simp only [List.length_append, List.length_cons, List.length_nil]; omega)
    refine ⟨X1, X', g1, ?_, e2, g3.trans e3⟩
    simp only [fM_thing_80, mK_wR, hL.1, if_true, e1, rzC_l, rzV_e]
  unfold tThing
  by_cases h110 : ch = 110
  · rw [if_pos h110]
    obtain ⟨X1, X', g1, e1, e2, e3⟩ := hgo 15 0 15 0 rfl nI_0.symm
    refine ⟨X', ?_, e2, e3⟩
    simp only [fM_thing_0, x_variableOf (D := D + 1) hc, rzC_l, rzI_e, q110, if_pos h110, mK_wR, hL.1, if_true, g1, rzV_e, e1]
    rfl
  · rw [if_neg h110]
    by_cases h35 : ch = 35
    · rw [if_pos h35]
      unfold tDeep
      by_cases h12 : 12 ≤ d
      · rw [if_pos h12]
        refine ⟨X, ?_, h, FrX.refl X⟩
        simp only [fM_thing_0, fM_thing_43, x_variableOf (D := D + 1) hc, rzC_l, rzI_e, q110, if_neg h110, q35, if_pos h35, mK_wR, hL.1, if_true, R_deeper0 (D := D) hL h (by omega) (by omega)]
        rfl
      · rw [if_neg h12]
        obtain ⟨X', e1, e2, e3⟩ := R_deeper (n := n) (D := D) hL h (by omega) (by omega) 11 (by decide) (w' := 11) rfl
        refine ⟨X', ?_, e2, e3⟩
        simp only [fM_thing_0, fM_thing_43, x_variableOf (D := D + 1) hc, rzC_l, rzI_e, q110, if_neg h110, q35, if_pos h35, mK_wR, hL.1, if_true, e1]
        rfl
    · rw [if_neg h35]
      obtain ⟨l1, l2, l3⟩ := lm23 hL
      cases hv : varO ch with
      | none =>
        have hvn : vrN b ch = none := by unfold vrN; rw [hv]; rfl
        rw [hvn]
        refine ⟨X, ?_, h, FrX.refl X⟩
        simp only [fM_thing_0, fM_thing_77, x_variableOf (D := D + 1) hc, rzC_l, rzI_e, q110, if_neg h110, q35, if_neg h35, hv]
        rfl
      | some v =>
        have hv6 := varO_lt hv
        have hv0 : ¬ oI (some v) < 0 := nI_pos (by omega)
        by_cases h3 : v < 3
        · have hv3 : ¬ (3 : Int32) ≤ oI (some v) := by
            show ¬ nI 3 ≤ nI v
            exact nI_ge h3 (by decide)
          have hi : inA (oI (some v)) 6 := inA_nI hv6 (by decide)
          have hcl : (oI (some v)).toNatClampNeg = v := nI_clamp (by omega)
          have h13 := h.2.2.2.2.2.2.1 v hv6
          have hvb : vrN b ch = b v := by unfold vrN; rw [hv]; show (if v < 3 then b v else none) = b v; rw [if_pos h3]
          rw [hvb]
          have hneg := oI_nn (o := b v) (fun q hq => by have := hB.2.2.2.1 v q hq; omega)
          cases hbv : b v with
          | none =>
            have hng : oI (b v) < 0 := hneg.mpr hbv
            refine ⟨X, ?_, h, FrX.refl X⟩
            simp only [fM_thing_0, fM_thing_77, x_variableOf (D := D + 1) hc, rzC_l, rzI_e, q110, if_neg h110, q35, if_neg h35, hv, if_neg hv0, if_neg hv3, mK_wR, mP_wR, mL_wR, hL.1, l1, l2, l3, if_true, rzD_s, if_pos hi, hcl, wR_at (K := 17) (r := 13) (by decide), h13, if_pos hng]
            rfl
          | some q =>
            have hng : ¬ oI (b v) < 0 := fun hz => by have := hneg.mp hz; rw [hbv] at this; cases this
            obtain ⟨X1, X', g1, e1, e2, e3⟩ := hgo 14 q 14 (oI (b v)) rfl (by rw [hbv]; rfl)
            refine ⟨X', ?_, e2, e3⟩
            simp only [fM_thing_0, x_variableOf (D := D + 1) hc, rzC_l, rzI_e, q110, if_neg h110, q35, if_neg h35, hv, if_neg hv0, if_neg hv3, mK_wR, mP_wR, mL_wR, hL.1, l1, l2, l3, if_true, rzD_s, if_pos hi, hcl, wR_at (K := 17) (r := 13) (by decide), h13, if_neg hng, g1, rzV_e, e1]
            rfl
        · have hv3 : (3 : Int32) ≤ oI (some v) := by
            show nI 3 ≤ nI v
            exact nI_le (by omega) (by omega)
          have hvn : vrN b ch = none := by unfold vrN; rw [hv]; show (if v < 3 then b v else none) = none; rw [if_neg h3]
          rw [hvn]
          refine ⟨X, ?_, h, FrX.refl X⟩
          simp only [fM_thing_0, fM_thing_77, x_variableOf (D := D + 1) hc, rzC_l, rzI_e, q110, if_neg h110, q35, if_neg h35, hv, if_neg hv0, if_pos hv3]
          rfl
theorem R_part (hL : LayM m M) (h : RelP X d σ p c b lp) (hB : Bs k d σ p b lp) (hk : k ≤ 130) (hc : ch < 1000) (hq : c.length + 1 + sgl σ ≤ 260) : St n (D + 4) m M 77 ch X (tPart ch d σ p c b lp) := by
  have hs := hB.2.2.2.2
  have h1 := h.note 5 0 (by decide) (by decide)
  unfold St
  rw [eM_part]
  unfold tPart
  by_cases hg : isDg ch = true
  · rw [if_pos hg]
    have hd := dg_le hg
    have e48 : nI ch - 48 = nI (ch - 48) := pk_sub (a := ch) (b := 48) (by omega)
    refine ⟨_, ?_, (h1.note 3 (ch - 48) (by decide) (by decide)).note 4 1 (by decide) (by decide), ((frX_fld (by omega)).trans (frX_fld (by omega))).trans (frX_fld (by omega))⟩
    have hb : ¬ b2i (isDg ch) = 0 := by rw [hg]; decide
    simp only [fM_part_0, mK_wR, hL.1, if_true, fb0, rzM_e, wR_set0 (K := 17) (by decide), x_isDigit (D := D + 2) hc, rzC_l, rzI_e, if_neg hb, e48]
    rfl
  · rw [if_neg hg]
    have hb : b2i (isDg ch) = 0 := by
      cases hz : isDg ch with
      | false => rfl
      | true => exact absurd hz hg
    have hB1 : Bs k d (su σ 5 0) p b lp := hB.sig (sig_su hs (by decide) (by omega) (by omega))
    have hw : wpl (su σ 5 0) = sgl σ := (wpl5 (by simp [su])).trans (sgl_eq (by simp [su]) (by simp [su]))
    obtain ⟨X', e1, e2, e3⟩ := R_thing (n := n) (D := D) (ch := ch) hL h1 hB1 hk hc (by omega)
    refine ⟨X', ?_, e2, (frX_fld (by omega)).trans e3⟩
    simp only [nI_0] at e1
    simp only [fM_part_0, mK_wR, hL.1, if_true, fb0, rzM_e, wR_set0 (K := 17) (by decide), x_isDigit (D := D + 2) hc, rzC_l, rzI_e, hb, e1]
theorem R_sum (hL : LayM m M) (h : RelP X d σ p c b lp) (hB : Bs k d σ p b lp) (hk : k ≤ 130) (hc : ch < 1000) (hq : c.length + 2 ≤ 260) : St n (D + 5) m M 76 ch X (tSum ch d σ p c b lp) := by
  have q45 := cq hc 45 (by decide) (x := 45) rfl
  have hs := hB.2.2.2.2
  have hs10 := hs.2.2.2.2.2.1
  have h33 : X 0 33 = nI (σ 10) := h.2.2.2.2.2.2.2.2 10 (by decide) (by decide)
  have ht : Sig (tSumS ch σ) := sig_su (sig_su (sig_su hs (by split <;> omega) (fun _ => by split <;> omega) (by omega)) (by decide) (by omega) (by omega)) (by split <;> omega) (fun _ => by split <;> omega) (by omega)
  have h1 := ((h.note 7 (if ch = 45 then 1 else 0) (by decide) (by decide)).note 8 1 (by decide) (by decide)).note 9 (if σ 10 = 0 ∧ ch ≠ 45 then 1 else 0) (by decide) (by decide)
  have hfr : FrX X (xs (xs (xs X 0 30 (nI (if ch = 45 then 1 else 0))) 0 31 (nI 1)) 0 32 (nI (if σ 10 = 0 ∧ ch ≠ 45 then 1 else 0))) := ((frX_fld (by omega)).trans (frX_fld (by omega))).trans (frX_fld (by omega))
  unfold St
  rw [eM_sum]
  unfold tSum
  by_cases h45 : ch = 45
  · rw [if_pos h45]
    rw [if_pos h45, if_neg (fun q => q.2 h45)] at hfr
    have h1' : RelP (xs (xs (xs X 0 30 (nI 1)) 0 31 (nI 1)) 0 32 (nI 0)) d (tSumS ch σ) p c b lp := by
      have h9 := h1
      unfold tSumS
      rw [if_pos h45, if_neg (fun q => q.2 h45)] at h9
      rw [if_pos h45, if_neg (fun q => q.2 h45)]
      exact h9
    refine ⟨_, ?_, h1', hfr⟩
    have e33 : xs (xs X 0 30 1) 0 31 1 0 33 = nI (σ 10) := by rw [xs_idx _ _ _ (by decide), xs_idx _ _ _ (by decide)]; exact h33
    have e30 : xs (xs X 0 30 1) 0 31 1 0 30 = 1 := by rw [xs_idx _ _ _ (by decide), xs_eq]
    have e30b : xs (xs (xs X 0 30 1) 0 31 1) 0 32 0 0 30 = 1 := by rw [xs_idx _ _ _ (by decide)]; exact e30
    have n10 : ¬ (1 : Int32) = 0 := by decide
    by_cases h10 : nI (σ 10) = 0
    · simp only [fM_sum_0, fM_sum_12, fM_sum_39, fM_sum_40, fM_sum_59, q45, if_pos h45, mK_wR, hL.1, if_true, fb0, fb1, rzM_e, wR_set0 (K := 17) (by decide), wR_at0 (K := 17) (by decide), e33, if_pos h10, e30, if_neg n10, e30b]
      rfl
    · simp only [fM_sum_0, fM_sum_12, fM_sum_39, fM_sum_40, fM_sum_59, q45, if_pos h45, mK_wR, hL.1, if_true, fb0, fb1, rzM_e, wR_set0 (K := 17) (by decide), wR_at0 (K := 17) (by decide), e33, if_neg h10, e30b, if_neg n10]
      rfl
  · rw [if_neg h45]
    rw [if_neg h45] at hfr
    have hsg : sgl (tSumS ch σ) = 0 := by
      unfold sgl sgc
      simp [tSumS, su, h45]
    have e33 : xs (xs X 0 30 0) 0 31 1 0 33 = nI (σ 10) := by rw [xs_idx _ _ _ (by decide), xs_idx _ _ _ (by decide)]; exact h33
    have e30 : xs (xs X 0 30 0) 0 31 1 0 30 = 0 := by rw [xs_idx _ _ _ (by decide), xs_eq]
    by_cases h10 : σ 10 = 0
    · have hz : nI (σ 10) = 0 := by rw [h10]; rfl
      have h1' : RelP (xs (xs (xs X 0 30 0) 0 31 1) 0 32 1) d (tSumS ch σ) p c b lp := by
        have h9 := h1
        unfold tSumS
        rw [if_neg h45, if_pos ⟨h10, h45⟩] at h9
        rw [if_neg h45, if_pos ⟨h10, h45⟩]
        exact h9
      rw [if_pos ⟨h10, h45⟩] at hfr
      obtain ⟨X', e1, e2, e3⟩ := R_part (n := n) (D := D) (ch := ch) hL h1' (hB.sig ht) hk hc (by omega)
      have e30b : xs (xs (xs X 0 30 0) 0 31 1) 0 32 1 0 30 = 0 := by rw [xs_idx _ _ _ (by decide)]; exact e30
      refine ⟨X', ?_, e2, FrX.trans hfr e3⟩
      simp only [fM_sum_0, fM_sum_12, fM_sum_39, fM_sum_40, fM_sum_59, q45, if_neg h45, mK_wR, hL.1, if_true, fb0, fb1, rzM_e, wR_set0 (K := 17) (by decide), wR_at0 (K := 17) (by decide), e33, if_pos hz, e30, e30b, e1, rzC_l, rzI_e]
    · have hz : ¬ nI (σ 10) = 0 := by
        have := nI_eq (a := σ 10) (b := 0) (by omega) (by omega)
        rw [nI_0] at this
        rw [this]
        exact h10
      have h1' : RelP (xs (xs (xs X 0 30 0) 0 31 1) 0 32 0) d (tSumS ch σ) p c b lp := by
        have h9 := h1
        unfold tSumS
        rw [if_neg h45, if_neg (fun q => h10 q.1)] at h9
        rw [if_neg h45, if_neg (fun q => h10 q.1)]
        exact h9
      rw [if_neg (fun q => h10 q.1)] at hfr
      obtain ⟨X', e1, e2, e3⟩ := R_part (n := n) (D := D) (ch := ch) hL h1' (hB.sig ht) hk hc (by omega)
      have e30b : xs (xs (xs X 0 30 0) 0 31 1) 0 32 0 0 30 = 0 := by rw [xs_idx _ _ _ (by decide)]; exact e30
      refine ⟨X', ?_, e2, FrX.trans hfr e3⟩
      simp only [fM_sum_0, fM_sum_12, fM_sum_39, fM_sum_40, fM_sum_59, q45, if_neg h45, mK_wR, hL.1, if_true, fb0, fb1, rzM_e, wR_set0 (K := 17) (by decide), wR_at0 (K := 17) (by decide), e33, if_neg hz, e30b, e1, rzC_l, rzI_e]
end RS
