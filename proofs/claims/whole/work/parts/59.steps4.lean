/-! the reader's steps in memory: behind singles, ones, bound variables, and the step itself -/
section RS
variable {n D m d k ch : Nat} {M : Mem} {X : Xr} {σ : Nat → Nat} {p : Pl} {c : Od} {b : Bd} {lp : List (Bool × Bool)}
theorem R_afterSingle70 (hn : 200 ≤ n) (hL : LayM m M) (h : RelP X d σ p c b lp) (hB : Bs k d σ p b lp) (hbc : BC p b) (hk : k ≤ 130) (hc : ch < 1000) (hq : c.length + wsum p + 1 ≤ 260) (S : AS)
    (hS : S = if topP p = 6 then (if σ 10 = 0 then (if ch = 60 then (8, d, su σ 10 1, p, c, b, lp) else if ch = 61 then (8, d, su σ 10 2, p, c, b, lp) else (10, d, σ, p, c, b, lp)) else if ch = 93 then tWOne d σ p.tail (c ++ [((if σ 10 = 1 then 22 else 20), 0)]) b lp else (10, d, σ, p.tail, c ++ [((if σ 10 = 1 then 22 else 20), 0)], b, lp)) else (10, d, σ, p, c, b, lp)) :
    ∃ X', fM_afterSingle_70 n (D + 3) (mR n (D + 3)) m (nI ch) (wR m 17 M X) = some (.inl (some (.int (nI S.1))), wR m 17 M X') ∧ RelS X' S ∧ FrX X X' := by
  have q60 := cq hc 60 (by decide) (x := 60) rfl
  have q61 := cq hc 61 (by decide) (x := 61) rfl
  have q93 := cq hc 93 (by decide) (x := 93) rfl
  have hs := hB.2.2.2.2
  have hs10 := hs.2.2.2.2.2.1
  have h33 : X 0 33 = nI (σ 10) := h.2.2.2.2.2.2.2.2 10 (by decide) (by decide)
  have hl := hB.1.1
  have hup := R_upper (n := n) (D := D + 2) hL h (by omega)
  by_cases h6 : topP p = 6
  · have h6' : nI (topP p) = 6 := by rw [h6]; rfl
    rw [if_pos h6] at hS
    by_cases h10 : σ 10 = 0
    · have hz : nI (σ 10) = 0 := by rw [h10]; rfl
      rw [if_pos h10] at hS
      by_cases h60 : ch = 60
      · rw [if_pos h60] at hS
        subst hS
        refine ⟨xs X 0 33 (nI 1), ?_, h.note 10 1 (by decide) (by decide), frX_fld (by omega)⟩
        simp only [fM_afterSingle_70, fM_afterSingle_111, fM_afterSingle_128, mK_wR, hL.1, if_true, hup, rzC_l, rzI_e, if_pos h6', wR_at0 (K := 17) (by decide), h33, if_pos hz, q60, if_pos h60, rzM_e, wR_set0 (K := 17) (by decide), xs_eq]
        rfl
      · rw [if_neg h60] at hS
        by_cases h61 : ch = 61
        · rw [if_pos h61] at hS
          subst hS
          refine ⟨xs X 0 33 (nI 2), ?_, h.note 10 2 (by decide) (by decide), frX_fld (by omega)⟩
          simp only [fM_afterSingle_70, fM_afterSingle_111, fM_afterSingle_128, mK_wR, hL.1, if_true, hup, rzC_l, rzI_e, if_pos h6', wR_at0 (K := 17) (by decide), h33, if_pos hz, q60, if_neg h60, q61, if_pos h61, rzM_e, wR_set0 (K := 17) (by decide), xs_eq]
          rfl
        · rw [if_neg h61] at hS
          subst hS
          have hr := h.note 10 0 (by decide) (by decide)
          rw [su_id h10] at hr
          refine ⟨xs X 0 33 (nI 0), ?_, hr, frX_fld (by omega)⟩
          simp only [fM_afterSingle_70, fM_afterSingle_111, fM_afterSingle_128, mK_wR, hL.1, if_true, hup, rzC_l, rzI_e, if_pos h6', wR_at0 (K := 17) (by decide), h33, if_pos hz, q60, if_neg h60, q61, if_neg h61, rzM_e, wR_set0 (K := 17) (by decide), xs_eq]
          rfl
    · have hz : ¬ nI (σ 10) = 0 := by
        have := nI_eq (a := σ 10) (b := 0) (by omega) (by omega)
        rw [nI_0] at this
        rw [this]
        exact h10
      rw [if_neg h10] at hS
      have htl := tail_PI0 hB.1 h6 (by decide) (fun _ => rfl)
      have hbt := bc_tail hbc h6 (by decide) (by decide)
      obtain ⟨x, r, rfl, hx1⟩ := top_split h6 (by decide)
      have hw0 : wt x = 0 := by unfold wt; rw [if_pos (by omega)]
      simp only [wsum, hw0] at hq
      simp only [List.tail_cons] at htl hbt hS
      have h19 : X 0 19 = nI (r.length + 1) := h.2.1
      have hpop := h.pop
      have e33 : xs X 0 19 (nI r.length) 0 33 = nI (σ 10) := by rw [xs_idx _ _ _ (by decide)]; exact h33
      have hgo : ∀ (w : Nat) (w' : Int32), w' = nI w → w = (if σ 10 = 1 then 22 else 20) → ∃ X', fM_afterSingle_155 n (D + 3) (mR n (D + 3)) m (nI ch) w' m (wR m 17 M (xs X 0 19 (nI r.length))) = some (.inl (some (.int (nI S.1))), wR m 17 M X') ∧ RelS X' S ∧ FrX X X' := by
        intro w w' hw hww
        rw [← hww] at hS
        obtain ⟨X1, g1, g2, g3⟩ := R_emit (n := n) (D := D + 2) hL hpop (by omega) w 0 (a := 0) (Or.inl nI_0.symm) hw
        by_cases h93 : ch = 93
        · rw [if_pos h93] at hS
          subst hS
          obtain ⟨X', e1, e2, e3⟩ := R_wholeOneM (n := n) (D := D + 1) (k := k) hn hL g2 htl hbt (by omega) (by simp only [List.length_append, List.length_cons, List.length_nil]; omega)
          refine ⟨X', ?_, e2, ((frX_fld (by omega)).trans g3).trans e3⟩
          simp only [fM_afterSingle_155, fM_afterSingle_174, mK_wR, hL.1, if_true, g1, rzC_l, rzV_e, q93, if_pos h93, e1, rzI_e]
          rfl
        · rw [if_neg h93] at hS
          subst hS
          refine ⟨X1, ?_, g2, (frX_fld (by omega)).trans g3⟩
          simp only [fM_afterSingle_155, fM_afterSingle_174, mK_wR, hL.1, if_true, g1, rzC_l, rzV_e, q93, if_neg h93]
          rfl
      by_cases r1 : σ 10 = 1
      · have hz1 : nI (σ 10) = 1 := by rw [r1]; rfl
        obtain ⟨X', e1, e2, e3⟩ := hgo 22 22 rfl (by rw [if_pos r1])
        refine ⟨X', ?_, e2, e3⟩
        simp only [fM_afterSingle_70, mK_wR, hL.1, if_true, hup, rzC_l, rzI_e, if_pos h6', wR_at0 (K := 17) (by decide), h33, if_neg hz, h19, nI_pred, rzM_e, wR_set0 (K := 17) (by decide), e33, if_pos hz1, e1]
      · have hz1 : ¬ nI (σ 10) = 1 := by rw [show (1 : Int32) = nI 1 from rfl, nI_eq (by omega) (by omega)]; exact r1
        obtain ⟨X', e1, e2, e3⟩ := hgo 20 20 rfl (by rw [if_neg r1])
        refine ⟨X', ?_, e2, e3⟩
        simp only [fM_afterSingle_70, mK_wR, hL.1, if_true, hup, rzC_l, rzI_e, if_pos h6', wR_at0 (K := 17) (by decide), h33, if_neg hz, h19, nI_pred, rzM_e, wR_set0 (K := 17) (by decide), e33, if_neg hz1, e1]
  · rw [if_neg h6] at hS
    subst hS
    have h6' : ¬ nI (topP p) = 6 := by rw [show (6 : Int32) = nI 6 from rfl, nI_top hB.1.2.2.1 (by decide)]; exact h6
    refine ⟨X, ?_, h, FrX.refl X⟩
    simp only [fM_afterSingle_70, mK_wR, hL.1, if_true, hup, rzC_l, rzI_e, if_neg h6']
    rfl
theorem R_afterSingle (hn : 200 ≤ n) (hL : LayM m M) (h : RelP X d σ p c b lp) (hB : Bs k d σ p b lp) (hbc : BC p b) (hk : k ≤ 130) (hc : ch < 1000) (hq : c.length + wsum p + ipl σ p + 1 ≤ 260) : St n (D + 4) m M 93 ch X (tAfterSingle ch d σ p c b lp) := by
  have q42 := cq hc 42 (by decide) (x := 42) rfl
  have q43 := cq hc 43 (by decide) (x := 43) rfl
  have q41 := cq hc 41 (by decide) (x := 41) rfl
  have hl := hB.1.1
  unfold St
  rw [eM_afterSingle]
  unfold tAfterSingle
  by_cases h42 : ch = 42
  · rw [if_pos h42]
    obtain ⟨X1, g1, g2, g3⟩ := R_settleM (n := n) (D := D + 1) (a := 8) (a2 := 8) hn hL (by decide) (by decide) (by omega) hB.1.2.2.1 (by omega) h (w := 8) (w2 := 8) rfl rfl
    have hP := setL_PI (a := 8) (b' := 8) (fun _ => rfl) (fun _ => rfl) p c d k hB.1
    obtain ⟨X', e1, e2, e3⟩ := R_push (n := n) (D := D + 2) hL g2 (by have := hP.1; omega) 8 (by decide) (w' := 8) rfl
    refine ⟨X', ?_, e2, g3.trans e3⟩
    simp only [fM_afterSingle_0, q42, if_pos h42, mK_wR, hL.1, if_true, g1, rzC_l, rzV_e, e1]
    rfl
  · rw [if_neg h42]
    obtain ⟨X1, g1, g2, g3⟩ := R_settleM (n := n) (D := D + 1) (a := 8) (a2 := 7) hn hL (by decide) (by decide) (by omega) hB.1.2.2.1 (by omega) h (w := 8) (w2 := 7) rfl rfl
    have hP := setL_PI (a := 8) (b' := 7) (fun _ => rfl) (fun _ => rfl) p c d k hB.1
    have hB1 : Bs k d σ (setL 8 7 p c).1 b lp := ⟨hP, hB.2⟩
    have hQ := setL_w (a := 8) (b := 7) (by decide) (by decide) p c
    have hI := (setL_i p c).1
    have hBC := bc_setL (a := 8) (a2 := 7) (by decide) (by decide) p c hbc
    have hl2 := hP.1
    by_cases h43 : ch = 43
    · rw [if_pos h43]
      obtain ⟨X', e1, e2, e3⟩ := R_push (n := n) (D := D + 2) hL g2 (by omega) 7 (by decide) (w' := 7) rfl
      refine ⟨X', ?_, e2, g3.trans e3⟩
      simp only [fM_afterSingle_0, q42, if_neg h42, mK_wR, hL.1, if_true, g1, rzC_l, rzV_e, q43, if_pos h43, e1]
      rfl
    · rw [if_neg h43]
      have hup := R_upper (n := n) (D := D + 2) hL g2 (by omega)
      by_cases h41 : ch = 41 ∧ topP (setL 8 7 p c).1 = 10
      · rw [if_pos h41]
        have h10 := h41.2
        have h10' : nI (topP (setL 8 7 p c).1) = 10 := by rw [h10]; rfl
        have htl := tail_PI hP h10 (by decide) (fun _ => rfl)
        obtain ⟨x, r, hx, hx1⟩ := top_split h10 (by decide)
        rw [hx] at g2 htl hP hQ hI ⊢
        have hd0 : 0 < d := by
          have := hP.2.1
          have hdk : dk x = 1 := by unfold dk; rw [if_pos (by omega)]
          simp only [dp, hdk] at this
          omega
        obtain ⟨e, rfl⟩ : ∃ e, d = e + 1 := ⟨d - 1, by omega⟩
        have hw0 : wt x = 0 := by unfold wt; rw [if_pos (by omega)]
        simp only [wsum, hw0] at hQ
        simp only [List.tail_cons, Nat.add_sub_cancel] at htl ⊢
        have hir : inS r = inS p := by
          rw [← hI]
          simp [inS, hx1]
        have hip : ipl σ r = ipl σ p := ipl_eq hir rfl rfl rfl rfl
        obtain ⟨X2, k1, k2, k3⟩ := R_close (n := n) (D := D + 2) hL g2
        obtain ⟨X', e1, e2, e3⟩ := R_wholeSingleM (n := n) (D := D) (k := k) hn hL k2 hB.2.2.2.2 htl (by omega) (by omega)
        rw [hx] at hup h10'
        refine ⟨X', ?_, e2, (g3.trans k3).trans e3⟩
        simp only [fM_afterSingle_0, q42, if_neg h42, mK_wR, hL.1, if_true, g1, rzC_l, rzV_e, q43, if_neg h43, q41, if_pos h41.1, hup, rzI_e, if_pos h10', k1, e1]
      · rw [if_neg h41]
        obtain ⟨X', e1, e2, e3⟩ := R_afterSingle70 (n := n) (D := D) (ch := ch) hn hL g2 hB1 hBC hk hc (by omega) _ rfl
        refine ⟨X', ?_, e2, g3.trans e3⟩
        by_cases h41a : ch = 41
        · have h10 : ¬ topP (setL 8 7 p c).1 = 10 := fun q => h41 ⟨h41a, q⟩
          have h10' : ¬ nI (topP (setL 8 7 p c).1) = 10 := by rw [show (10 : Int32) = nI 10 from rfl, nI_top hP.2.2.1 (by decide)]; exact h10
          simp only [fM_afterSingle_0, q42, if_neg h42, mK_wR, hL.1, if_true, g1, rzC_l, rzV_e, q43, if_neg h43, q41, if_pos h41a, hup, rzI_e, if_neg h10', e1]
        · simp only [fM_afterSingle_0, q42, if_neg h42, mK_wR, hL.1, if_true, g1, rzC_l, rzV_e, q43, if_neg h43, q41, if_neg h41a, e1]
theorem R_one (hL : LayM m M) (h : RelP X d σ p c b lp) (hB : Bs k d σ p b lp) (hk : k ≤ 130) (hc : ch < 1000) (hq : c.length + 2 ≤ 260) : St n (D + 6) m M 73 ch X (tOne ch d σ p c b lp) := by
  have q33 := cq hc 33 (by decide) (x := 33) rfl
  have q40 := cq hc 40 (by decide) (x := 40) rfl
  have q65 := cq hc 65 (by decide) (x := 65) rfl
  have q69 := cq hc 69 (by decide) (x := 69) rfl
  have q91 := cq hc 91 (by decide) (x := 91) rfl
  have hl := hB.1.1
  have hd := hB.2.1
  have hlp := hB.2.2.1
  have hs := hB.2.2.2.2
  unfold St
  rw [eM_one]
  have hdeep : ∀ (w : Nat) (w' : Int32), w ≠ 5 → w' = nI w → ∃ X' v, mR n (D + 5) 74 [.ref m, .int w'] (wR m 17 M X) = some (.inl (some (.int v)), wR m 17 M X') ∧ (if v = 0 then (10 : Int32) else 0) = nI (tDeep w 0 d σ p c b lp).1 ∧ RelS X' (tDeep w 0 d σ p c b lp) ∧ FrX X X' := by
    intro w w' h5 hw
    unfold tDeep
    by_cases h12 : 12 ≤ d
    · rw [if_pos h12]
      exact ⟨X, 0, R_deeper0 (D := D + 3) hL h (by omega) (by omega) w', rfl, h, FrX.refl X⟩
    · rw [if_neg h12]
      obtain ⟨X', e1, e2, e3⟩ := R_deeper (n := n) (D := D + 3) hL h (by omega) (by omega) w h5 hw
      exact ⟨X', 1, e1, rfl, e2, e3⟩
  unfold tOne
  by_cases h33 : ch = 33
  · rw [if_pos h33]
    obtain ⟨X', v, e1, ev, e2, e3⟩ := hdeep 3 3 (by decide) rfl
    refine ⟨X', ?_, e2, e3⟩
    rw [← ev]
    simp only [fM_one_0, fM_one_20, q33, if_pos h33, mK_wR, hL.1, if_true, e1, rzC_l, rzI_e]
    split <;> rfl
  · rw [if_neg h33]
    by_cases h40 : ch = 40
    · rw [if_pos h40]
      obtain ⟨X', v, e1, ev, e2, e3⟩ := hdeep 4 4 (by decide) rfl
      refine ⟨X', ?_, e2, e3⟩
      rw [← ev]
      simp only [fM_one_0, fM_one_41, q33, if_neg h33, q40, if_pos h40, mK_wR, hL.1, if_true, e1, rzC_l, rzI_e]
      split <;> rfl
    · rw [if_neg h40]
      by_cases hAE : ch = 65 ∨ ch = 69
      · rw [if_pos hAE]
        have hr := h.note 2 (if ch = 65 then 1 else 0) (by decide) (by decide)
        have hx66 : fM_one_66 n (D + 5) (mR n (D + 5)) m (nI (if ch = 65 then 1 else 0)) m (wR m 17 M X) = some (.inl (some (.int (nI (if lp.length < 4 ∧ d < 12 then 2 else 10)))), wR m 17 M (xs X 0 25 (nI (if ch = 65 then 1 else 0)))) := by
          have hfb : fits .boolean (.int (nI (if ch = 65 then 1 else 0))) = true := by split <;> rfl
          have h13 : xs X 0 25 (nI (if ch = 65 then 1 else 0)) 0 13 = nI lp.length := by rw [xs_idx _ _ _ (by decide)]; exact h.2.2.2.1
          have h24 : xs X 0 25 (nI (if ch = 65 then 1 else 0)) 0 24 = nI d := by rw [xs_idx _ _ _ (by decide)]; exact h.1
          by_cases h4 : lp.length < 4
          · have z4 : ¬ (4 : Int32) ≤ nI lp.length := nI_ge (b := 4) h4 (by decide)
            by_cases h12 : d < 12
            · have z12 : ¬ (12 : Int32) ≤ nI d := nI_ge (b := 12) h12 (by decide)
              have hc4 : lp.length < 4 ∧ d < 12 := ⟨h4, h12⟩
              rw [if_pos hc4]
              simp only [fM_one_66, fM_one_90, fM_one_92, mK_wR, hL.1, if_true, hfb, rzM_e, wR_set0 (K := 17) (by decide), wR_at0 (K := 17) (by decide), h13, h24, if_neg z4, if_neg z12]
              rfl
            · have z12 : (12 : Int32) ≤ nI d := nI_le (a := 12) (by omega) (by omega)
              have hc4 : ¬ (lp.length < 4 ∧ d < 12) := fun q => h12 q.2
              rw [if_neg hc4]
              simp only [fM_one_66, fM_one_90, fM_one_92, mK_wR, hL.1, if_true, hfb, rzM_e, wR_set0 (K := 17) (by decide), wR_at0 (K := 17) (by decide), h13, h24, if_neg z4, if_pos z12]
              rfl
          · have z4 : (4 : Int32) ≤ nI lp.length := nI_le (a := 4) (by omega) (by omega)
            have hc4 : ¬ (lp.length < 4 ∧ d < 12) := fun q => h4 q.1
            rw [if_neg hc4]
            simp only [fM_one_66, fM_one_90, fM_one_92, mK_wR, hL.1, if_true, hfb, rzM_e, wR_set0 (K := 17) (by decide), wR_at0 (K := 17) (by decide), h13, h24, if_pos z4]
            rfl
        refine ⟨_, ?_, hr, frX_fld (by omega)⟩
        by_cases h65 : ch = 65
        · rw [if_pos h65] at hx66 ⊢
          have hx : fM_one_66 n (D + 5) (mR n (D + 5)) m 1 m (wR m 17 M X) = _ := hx66
          simp only [fM_one_0, fM_one_54, q33, if_neg h33, q40, if_neg h40, q65, if_pos h65, hx]
        · have h69 : ch = 69 := by omega
          rw [if_neg h65] at hx66 ⊢
          have hx : fM_one_66 n (D + 5) (mR n (D + 5)) m 0 m (wR m 17 M X) = _ := hx66
          simp only [fM_one_0, fM_one_54, q33, if_neg h33, q40, if_neg h40, q65, if_neg h65, q69, if_pos h69, hx]
      · rw [if_neg hAE]
        have h65 : ¬ ch = 65 := fun q => hAE (Or.inl q)
        have h69 : ¬ ch = 69 := fun q => hAE (Or.inr q)
        have hr := h.note 10 0 (by decide) (by decide)
        by_cases h91 : ch = 91
        · rw [if_pos h91]
          obtain ⟨X', e1, e2, e3⟩ := R_push (n := n) (D := D + 4) hL hr (by omega) 6 (by decide) (w' := 6) rfl
          simp only [nI_0] at e1
          refine ⟨X', ?_, e2, (frX_fld (by omega)).trans e3⟩
          simp only [fM_one_0, q33, if_neg h33, q40, if_neg h40, q65, if_neg h65, q69, if_neg h69, mK_wR, hL.1, if_true, rzM_e, wR_set0 (K := 17) (by decide), q91, if_pos h91, e1, rzC_l, rzV_e]
          rfl
        · rw [if_neg h91]
          obtain ⟨X', e1, e2, e3⟩ := R_sum (n := n) (D := D) (ch := ch) hL hr (hB.sig (sig_su hs (by decide) (by omega) (by omega))) hk hc hq
          simp only [nI_0] at e1
          refine ⟨X', ?_, e2, (frX_fld (by omega)).trans e3⟩
          simp only [fM_one_0, q33, if_neg h33, q40, if_neg h40, q65, if_neg h65, q69, if_neg h69, mK_wR, hL.1, if_true, rzM_e, wR_set0 (K := 17) (by decide), q91, if_neg h91, e1, rzC_l, rzI_e]
end RS
