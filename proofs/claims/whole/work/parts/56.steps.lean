/-! the reader's steps in memory -/
theorem cq {ch : Nat} (hc : ch < 1000) (k : Nat) (hk : k < 1000) {x : Int32} (hx : x = nI k) : nI ch = x ↔ ch = k := by rw [hx]; exact nI_eq (by omega) (by omega)
theorem su_id {σ : Nat → Nat} {k v : Nat} (h : σ k = v) : su σ k v = σ := by
  funext j
  unfold su
  split
  · rename_i hj; rw [hj, h]
  · rfl
/-- method j at the sign ch takes the rows X to the state S -/
def St (n D m : Nat) (M : Mem) (j ch : Nat) (X : Xr) (S : AS) : Prop := ∃ X', mR n D j [.ref m, .int (nI ch)] (wR m 17 M X) = some (.inl (some (.int (nI S.1))), wR m 17 M X') ∧ RelS X' S ∧ FrX X X'
section RS
variable {n D m d k ch : Nat} {M : Mem} {X : Xr} {σ : Nat → Nat} {p : Pl} {c : Od} {b : Bd} {lp : List (Bool × Bool)}
theorem R_wholeOneM (hn : 200 ≤ n) (hL : LayM m M) (h : RelP X d σ p c b lp) (hB : PI p d k) (hbc : BC p b) (hk : k ≤ 135) (hq : c.length + wsum p ≤ 260) :
    ∃ X', mR n (D + 2) 87 [.ref m] (wR m 17 M X) = some (.inl (some (.int 1)), wR m 17 M X') ∧ RelS X' (tWOne d σ p c b lp) ∧ FrX X X' := by
  rw [eM_wholeOne]
  have h1 := hB.1
  exact R_wholeOne hL p d c b X n (by omega) (by omega) hB.2.2.1 hq hB.2.1 (fun x hx h5 => (hB.2.2.2 x hx h5).1) hbc h
theorem R_wholeSingleM (hn : 200 ≤ n) (hL : LayM m M) (h : RelP X d σ p c b lp) (hs : Sig σ) (hB : PI p d k) (hk : k ≤ 135) (hq : c.length + wsum p + ipl σ p ≤ 260) :
    ∃ X', mR n (D + 3) 92 [.ref m] (wR m 17 M X) = some (.inl (some (.int (nI (tWSin d σ p c b lp).1))), wR m 17 M X') ∧ RelS X' (tWSin d σ p c b lp) ∧ FrX X X' := by
  rw [eM_wholeSingle]
  have h1 := hB.1
  exact R_wholeSingle hL hs p d c X n (by omega) (by omega) hB.2.2.1 hq hB.2.1 h
theorem R_afterOne (hn : 200 ≤ n) (hL : LayM m M) (h : RelP X d σ p c b lp) (hB : PI p d k) (hbc : BC p b) (hk : k ≤ 130) (hc : ch < 1000) (hq : c.length + wsum p ≤ 260) : St n (D + 3) m M 83 ch X (tAfterOne ch d σ p c b lp) := by
  unfold St
  have q38 := cq hc 38 (by decide) (x := 38) rfl
  have q124 := cq hc 124 (by decide) (x := 124) rfl
  have q41 := cq hc 41 (by decide) (x := 41) rfl
  have hl := hB.1
  rw [eM_afterOne]
  unfold tAfterOne
  by_cases h38 : ch = 38
  · rw [if_pos h38]
    obtain ⟨X1, g1, g2, g3⟩ := R_settleM (n := n) (D := D) (a := 2) (a2 := 2) hn hL (by decide) (by decide) (by omega) hB.2.2.1 hq h (w := 2) (w2 := 2) rfl rfl
    have hP := setL_PI (a := 2) (b' := 2) (fun _ => rfl) (fun _ => rfl) p c d k hB
    obtain ⟨X', e1, e2, e3⟩ := R_push (n := n) (D := D + 1) hL g2 (by have := hP.1; omega) 2 (by decide) (w' := 2) rfl
    refine ⟨X', ?_, e2, g3.trans e3⟩
    simp only [fM_afterOne_0, q38, if_pos h38, mK_wR, hL.1, if_true, g1, rzC_l, rzV_e, e1]
    rfl
  · rw [if_neg h38]
    obtain ⟨X1, g1, g2, g3⟩ := R_settleM (n := n) (D := D) (a := 2) (a2 := 1) hn hL (by decide) (by decide) (by omega) hB.2.2.1 hq h (w := 2) (w2 := 1) rfl rfl
    have hP := setL_PI (a := 2) (b' := 1) (fun _ => rfl) (fun _ => rfl) p c d k hB
    have hQ := setL_w (a := 2) (b := 1) (by decide) (by decide) p c
    have hBC := bc_setL (a := 2) (a2 := 1) (by decide) (by decide) p c hbc
    have hl2 := hP.1
    by_cases h124 : ch = 124
    · rw [if_pos h124]
      obtain ⟨X', e1, e2, e3⟩ := R_push (n := n) (D := D + 1) hL g2 (by omega) 1 (by decide) (w' := 1) rfl
      refine ⟨X', ?_, e2, g3.trans e3⟩
      simp only [fM_afterOne_0, q38, if_neg h38, mK_wR, hL.1, if_true, g1, rzC_l, rzV_e, q124, if_pos h124, e1]
      rfl
    · rw [if_neg h124]
      by_cases h41 : ch = 41
      · have hup := R_upper (n := n) (D := D + 1) hL g2 (by omega)
        by_cases h4 : topP (setL 2 1 p c).1 = 4
        · rw [if_pos ⟨h41, h4⟩]
          have h4' : nI (topP (setL 2 1 p c).1) = 4 := by rw [h4]; rfl
          have htl := tail_PI hP h4 (by decide) (fun _ => rfl)
          have hbt := bc_tail hBC h4 (by decide) (by decide)
          obtain ⟨x, r, hx, hx1⟩ := top_split h4 (by decide)
          rw [hx] at g2 htl hbt hP hQ ⊢
          have hd0 : 0 < d := by
            have := hP.2.1
            have hdk : dk x = 1 := by unfold dk; rw [if_pos (by omega)]
            simp only [dp, hdk] at this
            omega
          obtain ⟨e, rfl⟩ : ∃ e, d = e + 1 := ⟨d - 1, by omega⟩
          have hw0 : wt x = 0 := by unfold wt; rw [if_pos (by omega)]
          simp only [wsum, hw0] at hQ
          simp only [List.tail_cons, Nat.add_sub_cancel] at htl hbt ⊢
          obtain ⟨X2, k1, k2, k3⟩ := R_close (n := n) (D := D + 1) hL g2
          obtain ⟨X', e1, e2, e3⟩ := R_wholeOneM (n := n) (D := D) (k := k) hn hL k2 htl hbt (by omega) (by omega)
          rw [hx] at hup h4'
          refine ⟨X', ?_, e2, (g3.trans k3).trans e3⟩
          simp only [fM_afterOne_0, q38, if_neg h38, mK_wR, hL.1, if_true, g1, rzC_l, rzV_e, q124, if_neg h124, q41, if_pos h41, hup, rzI_e, if_pos h4', k1, e1]
          rfl
        · rw [if_neg (fun q => h4 q.2)]
          have h4' : ¬ nI (topP (setL 2 1 p c).1) = 4 := by rw [show (4 : Int32) = nI 4 from rfl, nI_top hP.2.2.1 (by decide)]; exact h4
          refine ⟨X1, ?_, g2, g3⟩
          simp only [fM_afterOne_0, fM_afterOne_52, q38, if_neg h38, mK_wR, hL.1, if_true, g1, rzC_l, rzV_e, q124, if_neg h124, q41, if_pos h41, hup, rzI_e, if_neg h4']
          rfl
      · rw [if_neg (fun q => h41 q.1)]
        refine ⟨X1, ?_, g2, g3⟩
        simp only [fM_afterOne_0, fM_afterOne_52, q38, if_neg h38, mK_wR, hL.1, if_true, g1, rzC_l, rzV_e, q124, if_neg h124, q41, if_neg h41]
        rfl
theorem R_afterPart (hn : 200 ≤ n) (hL : LayM m M) (h : RelP X d σ p c b lp) (hs : Sig σ) (hB : PI p d k) (hB2 : Bq b) (hbc : BC p b) (hk : k ≤ 130) (hc : ch < 1000) (hq : c.length + wsum p + 1 ≤ 260) : St n (D + 4) m M 90 ch X (tAfterPart ch d σ p c b lp) := by
  have q43 := cq hc 43 (by decide) (x := 43) rfl
  have q45 := cq hc 45 (by decide) (x := 45) rfl
  have q60 := cq hc 60 (by decide) (x := 60) rfl
  have q61 := cq hc 61 (by decide) (x := 61) rfl
  have h33 : X 0 33 = nI (σ 10) := h.2.2.2.2.2.2.2.2 10 (by decide) (by decide)
  have h34 : X 0 34 = nI (σ 11) := h.2.2.2.2.2.2.2.2 11 (by decide) (by decide)
  have hs10 := hs.2.2.2.2.2.1
  unfold St
  rw [eM_afterPart]
  unfold tAfterPart
  by_cases hpm : ch = 43 ∨ ch = 45
  · rw [if_pos hpm]
    refine ⟨xs X 0 30 (nI (if ch = 45 then 1 else 0)), ?_, h.note 7 _ (by decide) (by decide), frX_fld (by omega)⟩
    have h12 : fM_afterPart_12 n (D + 3) (mR n (D + 3)) m (nI ch) (wR m 17 M X) = some (.inl (some (.int 4)), wR m 17 M (xs X 0 30 (nI (if ch = 45 then 1 else 0)))) := by
      by_cases h45 : ch = 45
      · simp only [fM_afterPart_12, fM_afterPart_24, q45, if_pos h45, mK_wR, hL.1, if_true, fb1, rzM_e, wR_set0 (K := 17) (by decide)]
        rfl
      · simp only [fM_afterPart_12, fM_afterPart_24, q45, if_neg h45, mK_wR, hL.1, if_true, fb0, rzM_e, wR_set0 (K := 17) (by decide)]
        rfl
    by_cases h43 : ch = 43
    · simp only [fM_afterPart_0, q43, if_pos h43, h12]
      rfl
    · have h45 : ch = 45 := by omega
      simp only [fM_afterPart_0, q43, if_neg h43, q45, if_pos h45, h12]
      rfl
  · have h43 : ¬ ch = 43 := fun q => hpm (Or.inl q)
    have h45 : ¬ ch = 45 := fun q => hpm (Or.inr q)
    rw [if_neg hpm]
    by_cases h10 : σ 10 = 0
    · have hz : nI (σ 10) = 0 := by rw [h10]; rfl
      rw [if_pos h10]
      by_cases h60 : ch = 60
      · rw [if_pos h60]
        refine ⟨xs X 0 33 (nI 1), ?_, h.note 10 1 (by decide) (by decide), frX_fld (by omega)⟩
        simp only [fM_afterPart_0, fM_afterPart_58, fM_afterPart_74, q43, if_neg h43, q45, if_neg h45, mK_wR, hL.1, if_true, wR_at0 (K := 17) (by decide), h33, if_pos hz, q60, if_pos h60, rzM_e, wR_set0 (K := 17) (by decide), xs_eq]
        rfl
      · rw [if_neg h60]
        by_cases h61 : ch = 61
        · rw [if_pos h61]
          refine ⟨xs X 0 33 (nI 2), ?_, h.note 10 2 (by decide) (by decide), frX_fld (by omega)⟩
          simp only [fM_afterPart_0, fM_afterPart_58, fM_afterPart_74, q43, if_neg h43, q45, if_neg h45, mK_wR, hL.1, if_true, wR_at0 (K := 17) (by decide), h33, if_pos hz, q60, if_neg h60, q61, if_pos h61, rzM_e, wR_set0 (K := 17) (by decide), xs_eq]
          rfl
        · rw [if_neg h61]
          have hr := h.note 10 0 (by decide) (by decide)
          rw [su_id h10] at hr
          refine ⟨xs X 0 33 (nI 0), ?_, hr, frX_fld (by omega)⟩
          simp only [fM_afterPart_0, fM_afterPart_58, fM_afterPart_74, q43, if_neg h43, q45, if_neg h45, mK_wR, hL.1, if_true, wR_at0 (K := 17) (by decide), h33, if_pos hz, q60, if_neg h60, q61, if_neg h61, rzM_e, wR_set0 (K := 17) (by decide), xs_eq]
          rfl
    · have hz : ¬ nI (σ 10) = 0 := by
        have := nI_eq (a := σ 10) (b := 0) (by omega) (by omega)
        rw [nI_0] at this
        rw [this]
        exact h10
      rw [if_neg h10]
      have hgo : ∀ (w' : Int32), w' = nI (relO σ).1 → (nI (σ 11) = nI (relO σ).2 ∨ (relO σ).1 = 19 ∨ (relO σ).1 = 20) → ∃ X', fM_afterPart_104 n (D + 3) (mR n (D + 3)) m (nI ch) w' m (wR m 17 M X) = some (.inl (some (.int (nI (tAfterOne ch (wOneL p d (c ++ [relO σ]) b).2.1 σ (wOneL p d (c ++ [relO σ]) b).1 (wOneL p d (c ++ [relO σ]) b).2.2.1 (wOneL p d (c ++ [relO σ]) b).2.2.2 lp).1))), wR m 17 M X') ∧ RelS X' (tAfterOne ch (wOneL p d (c ++ [relO σ]) b).2.1 σ (wOneL p d (c ++ [relO σ]) b).1 (wOneL p d (c ++ [relO σ]) b).2.2.1 (wOneL p d (c ++ [relO σ]) b).2.2.2 lp) ∧ FrX X X' := by
        intro w' hw' ha
        obtain ⟨X1, g1, g2, g3⟩ := R_emit (n := n) (D := D + 2) hL h (by omega) (relO σ).1 (relO σ).2 ha hw'
        have hrel : ((relO σ).1, (relO σ).2) = relO σ := rfl
        rw [hrel] at g2
        obtain ⟨X2, k1, k2, k3⟩ := R_wholeOneM (n := n) (D := D + 1) (k := k) hn hL g2 hB hbc (by omega) (by simp only [List.length_append, List.length_cons, List.length_nil]; omega)
        obtain ⟨w1, w2, w3⟩ := wOneL_PI p d (c ++ [relO σ]) b k hB hB2
        have w4 := bc_wOne p d (c ++ [relO σ]) b hbc
        have w5 := wOneL_w p d (c ++ [relO σ]) b
        simp only [List.length_append, List.length_cons, List.length_nil] at w5
        obtain ⟨X', e1, e2, e3⟩ := R_afterOne (n := n) (D := D) hn hL k2 w1 w4 hk hc (by simp only [tWOne]; omega)
        refine ⟨X', ?_, e2, (g3.trans k3).trans e3⟩
        simp only [fM_afterPart_104, mK_wR, hL.1, if_true, wR_at0 (K := 17) (by decide), h34, g1, rzC_l, rzV_e, k1, rzI_e, e1]
        rfl
      by_cases r1 : σ 10 = 1
      · have hz1 : nI (σ 10) = 1 := by rw [r1]; rfl
        obtain ⟨X', e1, e2, e3⟩ := hgo 19 (by rw [relO_1 r1]; rfl) (Or.inr (Or.inl (by rw [relO_1 r1])))
        refine ⟨X', ?_, e2, e3⟩
        simp only [fM_afterPart_0, q43, if_neg h43, q45, if_neg h45, mK_wR, hL.1, if_true, wR_at0 (K := 17) (by decide), h33, if_neg hz, if_pos hz1, e1]
      · have hz1 : ¬ nI (σ 10) = 1 := by rw [show (1 : Int32) = nI 1 from rfl, nI_eq (by omega) (by omega)]; exact r1
        by_cases r2 : σ 10 = 2
        · have hz2 : nI (σ 10) = 2 := by rw [r2]; rfl
          obtain ⟨X', e1, e2, e3⟩ := hgo 20 (by rw [relO_2 r2]; rfl) (Or.inr (Or.inr (by rw [relO_2 r2])))
          refine ⟨X', ?_, e2, e3⟩
          simp only [fM_afterPart_0, q43, if_neg h43, q45, if_neg h45, mK_wR, hL.1, if_true, wR_at0 (K := 17) (by decide), h33, if_neg hz, if_neg hz1, if_pos hz2, e1]
        · have hz2 : ¬ nI (σ 10) = 2 := by rw [show (2 : Int32) = nI 2 from rfl, nI_eq (by omega) (by omega)]; exact r2
          have r3 : σ 10 = 3 := by omega
          obtain ⟨X', e1, e2, e3⟩ := hgo 21 (by rw [relO_3 r3]; rfl) (Or.inl (by rw [relO_3 r3]))
          refine ⟨X', ?_, e2, e3⟩
          simp only [fM_afterPart_0, q43, if_neg h43, q45, if_neg h45, mK_wR, hL.1, if_true, wR_at0 (K := 17) (by decide), h33, if_neg hz, if_neg hz1, if_neg hz2, e1]
end RS
