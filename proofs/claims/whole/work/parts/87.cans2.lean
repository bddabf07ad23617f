/-! the class: holds, fails, ways -/
section CAn
variable {n z : Nat} {M : Mem} {txt : List Nat} {s : Option (List Nat)}
theorem hci_new (h : HcI n z M txt s) : HcI n z (newC M 0 0 6) txt s :=
  hci_fr h (fun c hc => ⟨va_up_ne _ _ (by omega), va_up_ne _ _ (by omega)⟩) (by show mS M ≤ mS M + 1; omega) (fun c hc _ => ⟨by rw [mP_newC, fz_row _ _ (by omega)], fun _ _ => by rw [mI_newC, fz_row _ _ (by omega)]⟩)
theorem FrO.mono {k k' : Nat} {M' : Mem} (h : FrO z k M M') (hk : k ≤ k') : FrO z k' M M' := by
  obtain ⟨a1, a2, a3, a4, a5, a6⟩ := h
  exact ⟨a1, a2, a3, a4, by omega, by omega⟩
theorem x_need (h : HcI n z M txt none) {d : Nat} (hd : 8 ≤ d) (hro : Room M 1) : mR n (d + 1) 44 [.ref z] M = some (.inr 2, newC M 0 0 6) := by
  obtain ⟨hH, -, -, r1, r2, -, hsn⟩ := h
  have hsn : mP M z 4 = none := hsn
  have r1 := hro.1
  have r2 : mU M + 6 ≤ SLm := hro.2
  rw [eH_needSentence]
  simp only [fH_needSentence_0, hH.1.1, if_true, hsn, rzN_n, if_pos hd, if_pos r1, if_pos r2]
theorem x_need1 {ts : List Nat} (h : HcI n z M txt (some ts)) {d : Nat} : mR n (d + 1) 44 [.ref z] M = some (.inl none, M) := by
  obtain ⟨hH, -, -, r1, r2, -, y, a, F, e1, e2, e3, e4⟩ := h
  rw [eH_needSentence]
  simp only [fH_needSentence_0, hH.1.1, if_true, e3, rzN_s]
theorem x_needW0 {d : Nat} (hd : 8 ≤ d) (hro : Room M 1) {x : Int32} (hx : ¬ (0 ≤ x ∧ x ≤ 4)) : mR n (d + 1) 45 [.int x] M = some (.inr 1, newC M 0 0 6) := by
  have r1 := hro.1
  have r2 : mU M + 6 ≤ SLm := hro.2
  rw [eH_needWorld, fH_needWorld_0]
  by_cases h0 : x < 0
  · rw [if_pos h0, if_pos hd, if_pos r1, if_pos r2]
  · rw [if_neg h0, if_neg (fun q => hx ⟨Int32.not_lt.mp h0, q⟩), if_pos hd, if_pos r1, if_pos r2]
theorem x_needW1 {d : Nat} {x : Int32} (hx : 0 ≤ x ∧ x ≤ 4) : mR n (d + 1) 45 [.int x] M = some (.inl none, M) := by
  rw [eH_needWorld, fH_needWorld_0, if_neg (Int32.not_lt.mpr hx.1), if_pos hx.2]
/-- a counted number is kept -/
theorem hci_cnt {ts : List Nat} {y : FvT} (h : HcI n z M txt (some ts)) (hy : sent ts = some y) (k : Nat) : HcI n z (setI M (z + 9) k (nI (waysN y k))) txt (some ts) := by
  obtain ⟨hH, hT, hz, r1, r2, hR, y', a, F, e1, e2, e3, e4, e5, e6, e7⟩ := h
  cases hy.symm.trans e1
  have hI : ∀ c, c ≠ z + 9 → mI (setI M (z + 9) k (nI (waysN y k))) c = mI M c := fun c hc => by rw [mI_setI, fu_row _ _ hc]
  refine ⟨hH, ⟨by rw [hI z (by omega)]; exact hT.1, hT.2.1, fun i x hx => by rw [hI (z + 1) (by omega)]; exact hT.2.2.1 i x hx, hT.2.2.2⟩, hz, r1, r2, hR, y, a, F, e1, e2, e3, e4, e5, rf_fr (r2 := r2) e6 e5 (fun c hc => ?_), fun j hj => ?_⟩
  · obtain ⟨j, j1, j2⟩ := e4 c hc
    have k4 := (hR.2.2.2.2.1.1 j c j1 j2).1
    exact ⟨rfl, hI c (fun q => by rw [q, hH.2.2.2.2.2.2.2.2.1] at k4; exact absurd k4 (by decide)), rfl⟩
  · by_cases hjk : j = k
    · right; rw [hjk, mI_setI, fu_eq]
    · rw [mI_setI, fu_ne _ _ (fun q => hjk q.2)]; exact e7 j hj
theorem x_waysIn (hn : 200 ≤ n) {D : Nat} (hD : 231 ≤ D) {ts : List Nat} {y : FvT} (h : HcI n z M txt (some ts)) (hy : sent ts = some y) {k : Nat} (hk : k ≤ 4) : ∃ M', mR n (D + 1) 47 [.ref z, .int (nI k)] M = some (.inl (some (.int (nI (waysN y k)))), M') ∧ HcI n z M' txt (some ts) ∧ FrO z 0 M M' := by
  have h0 := h
  obtain ⟨hH, hT, hz, r1, r2, hR, y', a, F, e1, e2, e3, e4, e5, e6, e7⟩ := h
  cases hy.symm.trans e1
  have hH0 := hH
  obtain ⟨⟨a1, a2, a3, a4, a5⟩, -, -, -, -, -, -, hW, ⟨i1, i2⟩⟩ := hH
  have hin : inA (nI k) 5 := inA_nI (by omega) (by decide)
  have hcl : (nI k).toNatClampNeg = k := nI_clamp (by omega)
  rw [eH_waysIn]
  by_cases hc : mI M (z + 9) k = -1
  · obtain ⟨D, rfl⟩ : ∃ D', D = D' + 1 := ⟨D - 1, by omega⟩
    obtain ⟨M1, f1, f2, f3⟩ := x_cnt (n := n) (D := D) hn (by omega) hy e6 hW hk
    have hP1 : mP M1 = mP M := congrArg (fun x => x.1) f2
    have hK1 : mK M1 = mK M := congrArg (fun x => x.2.2.1) f2
    have hL1 : mL M1 = mL M := congrArg (fun x => x.2.2.2.1) f2
    have hS1 : mS M1 = mS M := congrArg (fun x => x.2.2.2.2.1) f2
    have h1 : HcI n z M1 txt (some ts) := hci_fr h0 (fun c _ => ⟨by rw [hK1], by rw [hL1]⟩) (by omega) (fun c _ _ => ⟨by rw [hP1], fun h7 h8 => f3 c h7 h8⟩)
    have h2 := hci_cnt h1 hy k
    have j1 : mK M1 (z + 9) = 21 := by rw [hK1]; exact i1
    have j2 : mL M1 (z + 9) = 5 := by rw [hL1]; exact i2
    have q1 : mK (setI M1 (z + 9) k (nI (waysN y k))) z = 1 := h2.1.1.1
    have q2 : mP (setI M1 (z + 9) k (nI (waysN y k))) z 5 = some (z + 9) := h2.1.1.2.2.2.2
    have q3 : mK (setI M1 (z + 9) k (nI (waysN y k))) (z + 9) = 21 := j1
    have q4 : mL (setI M1 (z + 9) k (nI (waysN y k))) (z + 9) = 5 := j2
    have q5 : mI (setI M1 (z + 9) k (nI (waysN y k))) (z + 9) k = nI (waysN y k) := by rw [mI_setI, fu_eq]
    refine ⟨_, ?_, h2, fro_int f2 (fun c hc => by rw [mI_setI, fu_row _ _ (by omega)]; exact f3 c (by omega) (by omega))⟩
    simp only [fH_waysIn_0, a1, if_true, a5, rzD_s, i1, i2, if_pos hin, hcl, hc, a4, hW.1, e3, f1, rzC_l, rzI_e, j1, j2, rzM_e, fH_waysIn_28, q1, q2, q3, q4, q5]
  · have hv : mI M (z + 9) k = nI (waysN y k) := (e7 k (by omega)).resolve_left hc
    refine ⟨M, ?_, h0, fro_int rfl (fun _ _ => rfl)⟩
    simp only [fH_waysIn_0, a1, if_true, a5, rzD_s, i1, i2, if_pos hin, hcl, if_neg hc, fH_waysIn_28]
    rw [hv]
theorem x_isTrueIn (hn : 200 ≤ n) {D : Nat} (hD : 232 ≤ D) {ts : List Nat} {y : FvT} (h : HcI n z M txt (some ts)) (hy : sent ts = some y) {k : Nat} (hk : k ≤ 4) : ∃ M', mR n (D + 1) 46 [.ref z, .int (nI k)] M = some (.inl (some (.int (b2i (mean y k)))), M') ∧ HcI n z M' txt (some ts) ∧ FrO z 0 M M' := by
  obtain ⟨D, rfl⟩ : ∃ D', D = D' + 1 := ⟨D - 1, by omega⟩
  obtain ⟨M1, f1, f2, f3⟩ := x_waysIn (n := n) (D := D) hn (by omega) h hy hk
  refine ⟨M1, ?_, f2, f3⟩
  have hkz := h.1.1.1
  obtain ⟨hH, hT, hz, r1, r2, hR, y', a, F, e1, e2, e3, e4, e5, e6, e7⟩ := f2
  cases hy.symm.trans e1
  have hka : mK M1 a = 4 := e6.1.2.1 a e5
  have hm := mean_w hy hk
  have hw := waysN_le hy hk
  rw [eH_isTrueIn]
  simp only [fH_isTrueIn_0, hkz, if_true, f1, rzC_l, rzI_e, hH.1.1, e3, rzD_s, hka]
  have hpos : ∀ b : Bool, b = decide (0 < waysN y k) → (if nI (waysN y k) ≤ 0 then fH_isTrueIn_50 n (D + 1) (mR n (D + 1)) 0 M1 else fH_isTrueIn_50 n (D + 1) (mR n (D + 1)) 1 M1) = some (.inl (some (.int (b2i b))), M1) := by
    intro b hb
    rw [hb]
    by_cases h0 : 0 < waysN y k
    · rw [if_neg (nI_nle h0 (by omega)), decide_eq_true h0]; rfl
    · have : waysN y k = 0 := by omega
      rw [this, if_pos (by decide)]; rfl
  cases hkd : y.1.2.2 with
  | none =>
    obtain ⟨ch, c1, c2, c3, c4⟩ := e6.2.1 hkd
    have q65 : ¬ nI ch = 65 := fun q => c3 ((cq (by omega) 65 (by decide) rfl).mp q)
    rw [c1, if_neg q65]
    exact hpos _ (hm.1 hkd)
  | some x =>
    obtain ⟨isA, isSet, i, q, B⟩ := x
    obtain ⟨k1, k2, k3, k4, -⟩ := e6.2.2 _ _ _ _ _ hkd
    have hmm := hm.2 _ _ _ _ _ hkd
    cases isA with
    | false =>
      have k1 : mI M1 a 0 = 69 := k1
      rw [k1, if_neg (by decide)]
      exact hpos _ hmm
    | true =>
      have k1 : mI M1 a 0 = 65 := k1
      have hmm : mean y k = decide (waysN y k = mor isSet k + 1) := hmm
      rw [k1, if_pos rfl, k2, x_choices k3 hk, rzC_l, rzI_e, hmm, ← k4]
      have hml := mor_le (isSet := isSet) hk
      have hq : nI (waysN y k) = nI (mor isSet k + 1) ↔ waysN y k = mor isSet k + 1 := nI_eq (by omega) (by omega)
      by_cases hc : waysN y k = mor isSet k + 1
      · rw [if_pos (hq.mpr hc), decide_eq_true hc]; rfl
      · rw [if_neg (fun q => hc (hq.mp q)), decide_eq_false hc]; rfl
theorem C_holds (hn : 200 ≤ n) {D : Nat} (hD : 240 ≤ D) (h : HcI n z M txt s) (hro : Room M 1) (x : Int32) : ∃ M', HcI n z M' txt s ∧ FrO z 1 M M' ∧ ((aHold s x).1 = 1 → mR n (D + 1) 43 [.ref z, .int x] M = some (.inr 2, M')) ∧ ((aHold s x).1 = 2 → mR n (D + 1) 43 [.ref z, .int x] M = some (.inr 1, M')) ∧ ((aHold s x).1 = 0 → mR n (D + 1) 43 [.ref z, .int x] M = some (.inl (some (.int (aHold s x).2)), M')) ∧ ((aHold s x).1 = 0 ∨ (aHold s x).1 = 1 ∨ (aHold s x).1 = 2) := by
  obtain ⟨D, rfl⟩ : ∃ D', D = D' + 1 := ⟨D - 1, by omega⟩
  have hkz := h.1.1.1
  rw [eH_holds]
  cases s with
  | none =>
    refine ⟨newC M 0 0 6, hci_new h, fro_new, fun _ => ?_, fun q => absurd (show (1 : Int32) = 2 from q) (by decide), fun q => absurd (show (1 : Int32) = 0 from q) (by decide), Or.inr (Or.inl rfl)⟩
    simp only [fH_holds_0, hkz, if_true, x_need h (show 8 ≤ D by omega) hro, rzC_r]
  | some ts =>
    by_cases hx : 0 ≤ x ∧ x ≤ 4
    · obtain ⟨y, hy⟩ : ∃ y, sent ts = some y := by obtain ⟨-, -, -, -, -, -, y, -, -, hy, -⟩ := h; exact ⟨y, hy⟩
      obtain ⟨k, hk, rfl⟩ := in4 hx
      obtain ⟨M1, f1, f2, f3⟩ := x_isTrueIn (n := n) (D := D) hn (by omega) h hy hk
      have ha : aHold (some ts) (nI k) = (0, b2i (mean y k)) := by simp only [aHold, if_pos hx, hy, nI_clamp (show k < 2 ^ 31 by omega)]
      rw [ha]
      refine ⟨M1, f2, f3.mono (by omega), fun q => absurd (show (0 : Int32) = 1 from q) (by decide), fun q => absurd (show (0 : Int32) = 2 from q) (by decide), fun _ => ?_, Or.inl rfl⟩
      simp only [fH_holds_0, hkz, if_true, x_need1 h, rzC_l, rzV_e, x_needW1 hx, f1, rzI_e, fb_b]
    · have ha : aHold (some ts) x = (2, 0) := if_neg hx
      rw [ha]
      refine ⟨newC M 0 0 6, hci_new h, fro_new, fun q => absurd (show (2 : Int32) = 1 from q) (by decide), fun _ => ?_, fun q => absurd (show (2 : Int32) = 0 from q) (by decide), Or.inr (Or.inr rfl)⟩
      simp only [fH_holds_0, hkz, if_true, x_need1 h, rzC_l, rzV_e, x_needW0 (show 8 ≤ D by omega) hro hx, rzC_r]
theorem C_ways (hn : 200 ≤ n) {D : Nat} (hD : 240 ≤ D) (h : HcI n z M txt s) (hro : Room M 1) (x : Int32) : ∃ M', HcI n z M' txt s ∧ FrO z 1 M M' ∧ ((aWays s x).1 = 1 → mR n (D + 1) 64 [.ref z, .int x] M = some (.inr 2, M')) ∧ ((aWays s x).1 = 2 → mR n (D + 1) 64 [.ref z, .int x] M = some (.inr 1, M')) ∧ ((aWays s x).1 = 0 → mR n (D + 1) 64 [.ref z, .int x] M = some (.inl (some (.int (aWays s x).2)), M')) ∧ ((aWays s x).1 = 0 ∨ (aWays s x).1 = 1 ∨ (aWays s x).1 = 2) := by
  obtain ⟨D, rfl⟩ : ∃ D', D = D' + 1 := ⟨D - 1, by omega⟩
  have hkz := h.1.1.1
  rw [eH_ways]
  cases s with
  | none =>
    refine ⟨newC M 0 0 6, hci_new h, fro_new, fun _ => ?_, fun q => absurd (show (1 : Int32) = 2 from q) (by decide), fun q => absurd (show (1 : Int32) = 0 from q) (by decide), Or.inr (Or.inl rfl)⟩
    simp only [fH_ways_0, hkz, if_true, x_need h (show 8 ≤ D by omega) hro, rzC_r]
  | some ts =>
    by_cases hx : 0 ≤ x ∧ x ≤ 4
    · obtain ⟨y, hy⟩ : ∃ y, sent ts = some y := by obtain ⟨-, -, -, -, -, -, y, -, -, hy, -⟩ := h; exact ⟨y, hy⟩
      obtain ⟨k, hk, rfl⟩ := in4 hx
      obtain ⟨M1, f1, f2, f3⟩ := x_waysIn (n := n) (D := D) hn (by omega) h hy hk
      have ha : aWays (some ts) (nI k) = (0, nI (waysN y k)) := by simp only [aWays, if_pos hx, hy, nI_clamp (show k < 2 ^ 31 by omega)]
      rw [ha]
      refine ⟨M1, f2, f3.mono (by omega), fun q => absurd (show (0 : Int32) = 1 from q) (by decide), fun q => absurd (show (0 : Int32) = 2 from q) (by decide), fun _ => ?_, Or.inl rfl⟩
      simp only [fH_ways_0, hkz, if_true, x_need1 h, rzC_l, rzV_e, x_needW1 hx, f1, rzI_e]
    · have ha : aWays (some ts) x = (2, 0) := if_neg hx
      rw [ha]
      refine ⟨newC M 0 0 6, hci_new h, fro_new, fun q => absurd (show (2 : Int32) = 1 from q) (by decide), fun _ => ?_, fun q => absurd (show (2 : Int32) = 0 from q) (by decide), Or.inr (Or.inr rfl)⟩
      simp only [fH_ways_0, hkz, if_true, x_need1 h, rzC_l, rzV_e, x_needW0 (show 8 ≤ D by omega) hro hx, rzC_r]
/-- the least world from k on -/
def fup (p : Nat → Bool) : Nat → Nat → Int32
  | _, 0 => -1
  | k, j + 1 => if p k then fup p (k + 1) j else nI k
theorem fup_flo (p : Nat → Bool) : fup p 0 5 = flo p 5 (-1) := by
  simp only [fup, flo]
theorem f_loop (hn : 200 ≤ n) {D : Nat} (hD : 233 ≤ D) (X : Nat) {ts : List Nat} {y : FvT} (hy : sent ts = some y) : ∀ (j k w : Nat) (M : Mem), k + j = 5 → j < w → HcI n z M txt (some ts) → ∃ M', fH_fails_6 n X (mR n D) w z (nI k) M = some (.inl (some (.int (fup (mean y) k j))), M') ∧ HcI n z M' txt (some ts) ∧ FrO z 0 M M' := by
  obtain ⟨D, rfl⟩ : ∃ D', D = D' + 1 := ⟨D - 1, by omega⟩
  intro j
  induction j with
  | zero =>
    intro k w M hk hw h
    obtain ⟨w, rfl⟩ : ∃ w', w = w' + 1 := ⟨w - 1, by omega⟩
    have h4 : (4 : Int32) < nI k := nI_lt (a := 4) (by omega) (by omega)
    refine ⟨M, ?_, h, fro_int rfl (fun _ _ => rfl)⟩
    rw [fH_fails_6, if_pos h4]
    rfl
  | succ j ih =>
    intro k w M hk hw h
    obtain ⟨w, rfl⟩ : ∃ w', w = w' + 1 := ⟨w - 1, by omega⟩
    have h4 : ¬ (4 : Int32) < nI k := nI_nlt (a := 4) (by omega) (by decide)
    obtain ⟨M1, f1, f2, f3⟩ := x_isTrueIn (n := n) (D := D) hn (by omega) h hy (show k ≤ 4 by omega)
    have hkz := h.1.1.1
    rw [fH_fails_6, if_neg h4]
    simp only [hkz, if_true, f1, rzC_l, rzI_e, fup]
    cases hm : mean y k with
    | false => exact ⟨M1, by rw [if_pos (show b2i false = 0 from rfl)]; rfl, f2, f3⟩
    | true =>
      obtain ⟨M2, g1, g2, g3⟩ := ih (k + 1) w M1 (by omega) (by omega) f2
      refine ⟨M2, ?_, g2, f3.trans g3⟩
      rw [if_neg (show ¬ b2i true = 0 by decide), nI_1, g1]
      rfl
theorem C_fails (hn : 200 ≤ n) {D : Nat} (hD : 240 ≤ D) (h : HcI n z M txt s) (hro : Room M 1) : ∃ M', HcI n z M' txt s ∧ FrO z 1 M M' ∧ ((aFail s).1 = 1 → mR n (D + 1) 63 [.ref z] M = some (.inr 2, M')) ∧ ((aFail s).1 = 0 → mR n (D + 1) 63 [.ref z] M = some (.inl (some (.int (aFail s).2)), M')) ∧ ((aFail s).1 = 0 ∨ (aFail s).1 = 1) := by
  obtain ⟨D, rfl⟩ : ∃ D', D = D' + 1 := ⟨D - 1, by omega⟩
  have hkz := h.1.1.1
  rw [eH_fails]
  cases s with
  | none =>
    refine ⟨newC M 0 0 6, hci_new h, fro_new, fun _ => ?_, fun q => absurd (show (1 : Int32) = 0 from q) (by decide), Or.inr rfl⟩
    simp only [fH_fails_0, hkz, if_true, x_need h (show 8 ≤ D by omega) hro, rzC_r]
  | some ts =>
    obtain ⟨y, hy⟩ : ∃ y, sent ts = some y := by obtain ⟨-, -, -, -, -, -, y, -, -, hy, -⟩ := h; exact ⟨y, hy⟩
    obtain ⟨M1, f1, f2, f3⟩ := f_loop (n := n) (D := D + 1) hn (by omega) (D + 1) hy 5 0 n M (by omega) (by omega) h
    have f1' : fH_fails_6 n (D + 1) (mR n (D + 1)) n z 0 M = _ := f1
    have ha : aFail (some ts) = (0, flo (mean y) 5 (-1)) := by simp only [aFail, hy]
    rw [ha]
    refine ⟨M1, f2, f3.mono (by omega), fun q => absurd (show (0 : Int32) = 1 from q) (by decide), fun _ => ?_, Or.inl rfl⟩
    simp only [fH_fails_0, hkz, if_true, x_need1 h, rzC_l, rzV_e, f1', fup_flo]
end CAn
