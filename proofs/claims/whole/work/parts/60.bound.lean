/-! a bound variable in memory, and the step itself -/
section RS
variable {n D m d k ch : Nat} {M : Mem} {X : Xr} {σ : Nat → Nat} {p : Pl} {c : Od} {b : Bd} {lp : List (Bool × Bool)}
def emX (X : Xr) (o : Nat) (w a : Int32) : Xr := xs (xs (xs X 6 o w) 7 o a) 0 12 (nI (o + 1))
theorem RelP.em (h : RelP X d σ p c b lp) (w a' : Nat) {a : Int32} (ha : a = nI a' ∨ w = 19 ∨ w = 20) : RelP (emX X c.length (nI w) a) d σ p (c ++ [(w, a')]) b lp := by
  obtain ⟨r1, r2, r3, r4, r5, r6, r7, r8, r9⟩ := h
  unfold emX
  refine ⟨?_, ?_, ?_, ?_, ?_, ?_, ?_, ?_, ?_⟩
  · simp [xs, r1]
  · simp [xs, r2]
  · simp [xs]
  · simp [xs, r4]
  · intro i x hx
    rcases get_push hx with ⟨hi, hx⟩ | ⟨hi, rfl⟩
    · have hne : i ≠ c.length := by omega
      simpa [xs, hne] using r5 i x hx
    · subst hi
      simp [xs, ha]
  · intro i x hx
    simpa [xs] using r6 i x hx
  · intro v hv
    simpa [xs] using r7 v hv
  · intro i x hx
    simpa [xs] using r8 i x hx
  · intro j h2 h11
    have : ¬ j + 23 = 12 := by omega
    simpa [xs, this] using r9 j h2 h11
theorem RelP.flg (h : RelP X d σ p c b lp) (r : Nat) (hr : r = 8 ∨ r = 9) (v : Int32) : RelP (xs X r lp.length v) d σ p c b lp := by
  obtain ⟨r1, r2, r3, r4, r5, r6, r7, r8, r9⟩ := h
  have e0 : xs X r lp.length v 0 = X 0 := xs_row _ _ _ (by omega)
  have e6 : xs X r lp.length v 6 = X 6 := xs_row _ _ _ (by omega)
  have e7 : xs X r lp.length v 7 = X 7 := xs_row _ _ _ (by omega)
  have e10 : xs X r lp.length v 10 = X 10 := xs_row _ _ _ (by omega)
  have e11 : xs X r lp.length v 11 = X 11 := xs_row _ _ _ (by omega)
  have e12 : xs X r lp.length v 12 = X 12 := xs_row _ _ _ (by omega)
  have e13 : xs X r lp.length v 13 = X 13 := xs_row _ _ _ (by omega)
  refine ⟨by rw [e0]; exact r1, by rw [e0]; exact r2, by rw [e0]; exact r3, by rw [e0]; exact r4, fun i x hx => by rw [e6, e7]; exact r5 i x hx, fun i x hx => by rw [e10, e11, e12]; exact r6 i x hx, fun v hv => by rw [e13]; exact r7 v hv, fun i x hx => ?_, fun j h2 h11 => by rw [e0]; exact r9 j h2 h11⟩
  have hi := (List.getElem?_eq_some_iff.mp hx).1
  have h8 : xs X r lp.length v 8 i = X 8 i := by simp [xs]; omega
  have h9 : xs X r lp.length v 9 i = X 9 i := by simp [xs]; omega
  rw [h8, h9]
  exact r8 i x hx
theorem x_deeper (hL : LayM m M) {o : Nat} (h24 : X 0 24 = nI d) (h19 : X 0 19 = nI o) (hd : d < 12) (ho : o < 140) (w : Int32) : mR n (D + 2) 74 [.ref m, .int w] (wR m 17 M X) = some (.inl (some (.int 1)), wR m 17 M (xs (xs (xs X 0 24 (nI (d + 1))) 10 o w) 0 19 (nI (o + 1)))) := by
  have hlt : nI d < 12 := nI_lt (b := 12) hd (by decide)
  have h19' : xs X 0 24 (nI (d + 1)) 0 19 = nI o := by rw [xs_idx _ _ _ (by decide)]; exact h19
  rw [eM_deeper]
  simp only [fM_deeper_0, mK_wR, hL.1, if_true, wR_at0 (K := 17) (by decide), h24, if_pos hlt, rzM_e, wR_set0 (K := 17) (by decide), nI_1, x_push hL h19' ho w, rzC_l, rzV_e]
  rfl
/-- all that a bound variable changes behind its order -/
def bdX (X : Xr) (d o v q : Nat) : Xr := xs (xs (xs (xs (xs (xs (xs X 0 24 (nI (d + 1))) 10 o 5) 0 19 (nI (o + 1))) 11 o (nI v)) 12 o (X 13 v)) 13 v (nI q)) 0 13 (nI (q + 1))
theorem RelP.bd (h : RelP X d σ p c b lp) {v : Nat} (hv : v < 6) {u s : Bool} (hu : X 8 lp.length = b2i u) (hs : X 9 lp.length = b2i s) : RelP (bdX X d p.length v lp.length) (d + 1) σ ((5, v, b v) :: p) c (fun j => if j = v then some lp.length else b j) (lp ++ [(u, s)]) := by
  obtain ⟨r1, r2, r3, r4, r5, r6, r7, r8, r9⟩ := h
  unfold bdX
  refine ⟨?_, ?_, ?_, ?_, ?_, ?_, ?_, ?_, ?_⟩
  · simp [xs]
  · simp [xs]
  · simp [xs, r3]
  · simp [xs]
  · intro i x hx
    simpa [xs] using r5 i x hx
  · intro i x hx
    rw [List.reverse_cons] at hx
    rcases get_push hx with ⟨hi, hx⟩ | ⟨hi, rfl⟩
    · rw [List.length_reverse] at hi
      have hne : i ≠ p.length := by omega
      simpa [xs, hne] using r6 i x hx
    · rw [List.length_reverse] at hi
      subst hi
      simp [xs, r7 v hv]
      rfl
  · intro w hw
    by_cases hj : w = v
    · subst hj; simp [xs, oI]
    · simpa [xs, hj] using r7 w hw
  · intro i x hx
    rcases get_push hx with ⟨hi, hx⟩ | ⟨hi, rfl⟩
    · simpa [xs] using r8 i x hx
    · subst hi
      simp [xs, hu, hs]
  · intro j h2 h11
    have n24 : ¬ j + 23 = 24 := by omega
    have n19 : ¬ j + 23 = 19 := by omega
    have n13 : ¬ j + 23 = 13 := by omega
    simpa [xs, n24, n19, n13] using r9 j h2 h11
theorem R_bound (hL : LayM m M) (h : RelP X d σ p c b lp) (hB : Bs k d σ p b lp) (h2 : lp.length < 4 ∧ d < 12) (hk : k ≤ 130) (hc : ch < 1000) (hq : c.length + 2 ≤ 260) : St n (D + 4) m M 88 ch X (tBound ch d σ p c b lp) := by
  have hl := hB.1.1
  have s2 := hB.2.2.2.2.1
  have h25 : X 0 25 = nI (σ 2) := h.2.2.2.2.2.2.2.2 2 (by decide) (by decide)
  unfold St
  rw [eM_bound]
  unfold tBound
  cases hv : varO ch with
  | none =>
    have hng : ¬ (0 : Int32) ≤ oI none := by decide
    refine ⟨X, ?_, h, FrX.refl X⟩
    simp only [fM_bound_0, x_variableOf (D := D + 2) hc, hv, rzC_l, rzI_e, if_neg hng]
    rfl
  | some v =>
    have hv6 := varO_lt hv
    have hnn : (0 : Int32) ≤ oI (some v) := nI_pos' (by omega)
    obtain ⟨a1, a2, a3⟩ := lm16 hL
    obtain ⟨a4, a5, a6⟩ := lm17 hL
    obtain ⟨a7, a8, a9⟩ := lm21 hL
    obtain ⟨b1, b2, b3⟩ := lm22 hL
    obtain ⟨b4, b5, b6⟩ := lm23 hL
    have hiq : inA (nI lp.length) 4 := inA_nI h2.1 (by decide)
    have hcq : (nI lp.length).toNatClampNeg = lp.length := nI_clamp (by omega)
    have hfb : fits .boolean (.int (nI (σ 2))) = true := by
      have h01 : σ 2 = 0 ∨ σ 2 = 1 := by omega
      rcases h01 with e | e <;> rw [e] <;> rfl
    have h13 : X 0 13 = nI lp.length := h.2.2.2.1
    have hu : nI (σ 2) = b2i (decide (σ 2 = 1)) := by
      have h01 : σ 2 = 0 ∨ σ 2 = 1 := by omega
      rcases h01 with e | e <;> rw [e] <;> rfl
    have hr1 := h.flg 8 (Or.inl rfl) (nI (σ 2))
    have e13 : xs X 8 lp.length (nI (σ 2)) 0 13 = nI lp.length := by rw [xs_row _ _ _ (by decide)]; exact h13
    have hgo : ∀ (s : Bool) (x : Int32), x = b2i s → ∃ X', fM_bound_43 n (D + 3) (mR n (D + 3)) m (oI (some v)) x (nI lp.length) (some (m + 9)) (wR m 17 M (xs X 8 lp.length (nI (σ 2)))) = some (.inl (some (.int 0)), wR m 17 M X') ∧ RelP X' (d + 1) σ ((5, v, b v) :: p) (c ++ [(12, lp.length)]) (fun j => if j = v then some lp.length else b j) (lp ++ [(decide (σ 2 = 1), s)]) ∧ FrX X X' := by
      intro s x hx
      have hr2 := hr1.flg 9 (Or.inr rfl) x
      have hr3 := hr2.em 12 lp.length (a := nI lp.length) (Or.inl rfl)
      have hfx : fits .boolean (.int x) = true := by rw [hx]; cases s <;> rfl
      have f13 : xs (xs X 8 lp.length (nI (σ 2))) 9 lp.length x 0 13 = nI lp.length := by rw [xs_row _ _ _ (by decide)]; exact e13
      have hem := x_emit (n := n) (d := D + 2) hL hr2.2.2.1 (by omega) (nI 12) (nI lp.length)
      have hdp := x_deeper (n := n) (D := D + 1) hL hr3.1 hr3.2.1 h2.2 (by omega) 5
      have g8 : emX (xs (xs X 8 lp.length (nI (σ 2))) 9 lp.length x) c.length (nI 12) (nI lp.length) 8 lp.length = b2i (decide (σ 2 = 1)) := by
        rw [← hu]
        simp [emX, xs]
      have g9 : emX (xs (xs X 8 lp.length (nI (σ 2))) 9 lp.length x) c.length (nI 12) (nI lp.length) 9 lp.length = b2i s := by
        rw [← hx]
        simp [emX, xs]
      have hfin := hr3.bd hv6 g8 g9
      have q13 : emX (xs (xs X 8 lp.length (nI (σ 2))) 9 lp.length x) c.length (nI 12) (nI lp.length) 0 13 = nI lp.length := hr3.2.2.2.1
      generalize hY : emX (xs (xs X 8 lp.length (nI (σ 2))) 9 lp.length x) c.length (nI 12) (nI lp.length) = Y at hdp hfin q13
      have hem' : mR n (D + 3) 81 [.ref m, .int 12, .int (nI lp.length)] (wR m 17 M (xs (xs X 8 lp.length (nI (σ 2))) 9 lp.length x)) = some (.inl none, wR m 17 M Y) := by rw [← hY]; exact hem
      have hio : inA (nI p.length) 140 := inA_nI (by omega) (by decide)
      have hco : (nI p.length).toNatClampNeg = p.length := nI_clamp (by omega)
      have hiv : inA (oI (some v)) 6 := inA_nI hv6 (by decide)
      have hcv : (oI (some v)).toNatClampNeg = v := nI_clamp (by omega)
      have y19 : xs (xs (xs Y 0 24 (nI (d + 1))) 10 p.length 5) 0 19 (nI (p.length + 1)) 0 19 = nI (p.length + 1) := xs_eq _ _ _ _
      have y19b : xs (xs (xs (xs Y 0 24 (nI (d + 1))) 10 p.length 5) 0 19 (nI (p.length + 1))) 11 p.length (oI (some v)) 0 19 = nI (p.length + 1) := by rw [xs_row _ _ _ (by decide)]; exact y19
      have y13 : xs (xs (xs (xs Y 0 24 (nI (d + 1))) 10 p.length 5) 0 19 (nI (p.length + 1))) 11 p.length (oI (some v)) 13 v = Y 13 v := by simp [xs]
      have y0 : xs (xs (xs (xs (xs Y 0 24 (nI (d + 1))) 10 p.length 5) 0 19 (nI (p.length + 1))) 11 p.length (oI (some v))) 12 p.length (Y 13 v) 0 13 = nI lp.length := by
        simp [xs, q13]
      have y1 : xs (xs (xs (xs (xs (xs Y 0 24 (nI (d + 1))) 10 p.length 5) 0 19 (nI (p.length + 1))) 11 p.length (oI (some v))) 12 p.length (Y 13 v)) 13 v (nI lp.length) 0 13 = nI lp.length := by
        rw [xs_row _ _ _ (by decide)]
        exact y0
      refine ⟨bdX Y d p.length v lp.length, ?_, hfin, ?_⟩
      · simp only [fM_bound_43, rzD_s, mK_wR, mP_wR, mL_wR, hL.1, a5, a6, a7, a8, a9, b1, b2, b3, b4, b5, b6, if_true, if_pos hiq, hfx, hcq, rzM_e, wR_set (K := 17) (r := 9) (by decide), wR_at0 (K := 17) (by decide), f13, hem', rzC_l, rzV_e, hdp, rzI_e, y19, nI_pred, if_pos hio, hco, wR_set (K := 17) (r := 11) (by decide), if_pos hiv, hcv, y19b, wR_at (K := 17) (r := 13) (by decide), y13, wR_set (K := 17) (r := 12) (by decide), y0, wR_set (K := 17) (r := 13) (by decide), y1, nI_1, wR_set0 (K := 17) (by decide)]
        rfl
      · have f1 : FrX X (xs (xs X 8 lp.length (nI (σ 2))) 9 lp.length x) := (frX_row (by omega)).trans (frX_row (by omega))
        have f2 : FrX (xs (xs X 8 lp.length (nI (σ 2))) 9 lp.length x) Y := by
          rw [← hY]
          exact ((frX_row (by omega)).trans (frX_row (by omega))).trans (frX_fld (by omega))
        have f3 : FrX Y (bdX Y d p.length v lp.length) := ((((((frX_fld (by omega)).trans (frX_row (by omega))).trans (frX_fld (by omega))).trans (frX_row (by omega))).trans (frX_row (by omega))).trans (frX_row (by omega))).trans (frX_fld (by omega))
        exact (f1.trans f2).trans f3
    by_cases h3 : 3 ≤ v
    · have z3 : ¬ oI (some v) ≤ 2 := nI_ge (a := 2) (by omega) (by omega)
      obtain ⟨X', e1, e2, e3⟩ := hgo true 1 rfl
      refine ⟨X', ?_, by show RelP X' (d + 1) σ ((5, v, b v) :: p) (c ++ [(12, lp.length)]) (fun j => if j = v then some lp.length else b j) (lp ++ [(decide (σ 2 = 1), decide (3 ≤ v))]); rw [decide_eq_true h3]; exact e2, e3⟩
      simp only [fM_bound_0, x_variableOf (D := D + 2) hc, hv, rzC_l, rzI_e, if_pos hnn, mK_wR, mP_wR, mL_wR, hL.1, a1, a2, a3, a4, if_true, rzD_s, wR_at0 (K := 17) (by decide), h13, h25, if_pos hiq, hfb, hcq, rzM_e, wR_set (K := 17) (r := 8) (by decide), if_neg z3, e13, e1]
      rfl
    · have z3 : oI (some v) ≤ 2 := nI_le (b := 2) (by omega) (by decide)
      obtain ⟨X', e1, e2, e3⟩ := hgo false 0 rfl
      refine ⟨X', ?_, by show RelP X' (d + 1) σ ((5, v, b v) :: p) (c ++ [(12, lp.length)]) (fun j => if j = v then some lp.length else b j) (lp ++ [(decide (σ 2 = 1), decide (3 ≤ v))]); rw [decide_eq_false h3]; exact e2, e3⟩
      simp only [fM_bound_0, x_variableOf (D := D + 2) hc, hv, rzC_l, rzI_e, if_pos hnn, mK_wR, mP_wR, mL_wR, hL.1, a1, a2, a3, a4, if_true, rzD_s, wR_at0 (K := 17) (by decide), h13, h25, if_pos hiq, hfb, hcq, rzM_e, wR_set (K := 17) (r := 8) (by decide), if_pos z3, e13, e1]
      rfl
end RS
