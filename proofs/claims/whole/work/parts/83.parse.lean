/-! the class in memory: its objects, start and parse -/
def HcL (z : Nat) (M : Mem) : Prop := (mK M z = 1 ∧ mP M z 0 = some (z + 1) ∧ mP M z 2 = some (z + 2) ∧ mP M z 3 = some (z + 7) ∧ mP M z 5 = some (z + 9)) ∧ (mK M (z + 1) = 22 ∧ mL M (z + 1) = 120) ∧ (mK M (z + 2) = 2 ∧ mP M (z + 2) 0 = some (z + 3) ∧ mP M (z + 2) 4 = some (z + 4)) ∧ (mK M (z + 3) = 22 ∧ mL M (z + 3) = 120) ∧ (mK M (z + 4) = 23 ∧ mL M (z + 4) = 6) ∧ (mK M (z + 5) = 25 ∧ mL M (z + 5) = 120) ∧ (mK M (z + 6) = 25 ∧ mL M (z + 6) = 120) ∧ WrM (z + 7) (z + 8) M ∧ (mK M (z + 9) = 21 ∧ mL M (z + 9) = 5)
/-- the text -/
def TxM (z : Nat) (M : Mem) (txt : List Nat) : Prop := mI M z 1 = nI txt.length ∧ txt.length ≤ 120 ∧ (∀ i x, txt[i]? = some x → mI M (z + 1) i = nI x) ∧ ∀ x ∈ txt, 32 ≤ x ∧ x ≤ 126
def b0 : Bd := fun _ => none
/-- the sentence in force -/
def SnH (n z r2 : Nat) (M : Mem) : Option (List Nat) → Prop
  | none => mP M z 4 = none
  | some ts => ∃ y a F, sent ts = some y ∧ ts.length ≤ 120 ∧ mP M z 4 = some a ∧ (∀ c, F c → ∃ j, j < 120 ∧ mP M r2 j = some c) ∧ F a ∧ RF n 216 (z + 7) (z + 8) b0 y F M a ∧ ∀ k, k < 5 → mI M (z + 9) k = -1 ∨ mI M (z + 9) k = nI (waysN y k)
/-- both rows of pieces -/
def RwM (z r1 r2 : Nat) (M : Mem) : Prop := ((r1 = z + 5 ∧ r2 = z + 6) ∨ (r1 = z + 6 ∧ r2 = z + 5)) ∧ mP M (z + 2) 5 = some r1 ∧ mP M (z + 2) 6 = some r2 ∧ RowI r1 M ∧ RowI r2 M ∧ ∀ j j' a, j < 120 → j' < 120 → mP M r1 j = some a → mP M r2 j' ≠ some a
def HcI (n z : Nat) (M : Mem) (txt : List Nat) (s : Option (List Nat)) : Prop := HcL z M ∧ TxM z M txt ∧ z + 28 ≤ mS M ∧ ∃ r1 r2, RwM z r1 r2 M ∧ SnH n z r2 M s
theorem nb_app (a : List Nat) (x : Nat) : nb (a ++ [x]) = nb a ++ (if x = 32 then [] else [x]) := by
  unfold nb
  rw [List.filter_append]
  congr 1
  by_cases h : x = 32 <;> simp [h]
theorem nb_le (a : List Nat) : (nb a).length ≤ a.length := List.length_filter_le _ _
section PSt
variable {n D z : Nat} {M : Mem}
theorem st_46 (hH : HcL z M) (C : Cx) {txt : List Nat} (hl : txt.length ≤ 120) (htx : ∀ x ∈ txt, 32 ≤ x ∧ x ≤ 126) : ∀ (rest pre : List Nat) (w : Nat) (X : Xr), txt = pre ++ rest → rest.length < w → (∀ i x, txt[i]? = some x → X 1 i = nI x) → X 2 1 = nI (nb pre).length → (∀ i x, (nb pre)[i]? = some x → X 3 i = nI x) →
    ∃ X', fP_start_46 n D C w (z + 2) (some (z + 1)) (nI txt.length) (nI pre.length) (wR z 10 M X) = some (.inl none, wR z 10 M X') ∧ X' 2 1 = nI (nb txt).length ∧ (∀ i x, (nb txt)[i]? = some x → X' 3 i = nI x) ∧ (∀ r, r ≠ 2 → r ≠ 3 → X' r = X r) ∧ ∀ j, j ≠ 1 → X' 2 j = X 2 j := by
  obtain ⟨-, ⟨a1, a2⟩, ⟨a3, a4, -⟩, ⟨a5, a6⟩, -⟩ := hH
  intro rest
  induction rest with
  | nil =>
    intro pre w X he hw h1 h2 h3
    obtain ⟨w, rfl⟩ : ∃ w', w = w' + 1 := ⟨w - 1, by omega⟩
    rw [List.append_nil] at he
    subst he
    refine ⟨X, ?_, h2, h3, fun _ _ _ => rfl, fun _ _ => rfl⟩
    rw [fP_start_46, if_pos (nI_le (Nat.le_refl _) (by omega))]
    rfl
  | cons x rest ih =>
    intro pre w X he hw h1 h2 h3
    obtain ⟨w, rfl⟩ : ∃ w', w = w' + 1 := ⟨w - 1, by omega⟩
    have hlen : txt.length = pre.length + (rest.length + 1) := by rw [he]; simp
    have hat : txt[pre.length]? = some x := by rw [he]; simp
    have hx := h1 _ _ hat
    have hmem : x ∈ txt := List.mem_of_getElem? hat
    have hxr := htx x hmem
    have c1 : ¬ nI txt.length ≤ nI pre.length := nI_ge (by omega) (by omega)
    have c2 : ¬ nI 120 ≤ nI pre.length := nI_ge (by omega) (by decide)
    have hnl := nb_le pre
    have c3 : ¬ nI 120 ≤ nI (nb pre).length := nI_ge (by omega) (by decide)
    have i1 : inA (nI pre.length) 120 := inA_nI (by omega) (by decide)
    have i2 : inA (nI (nb pre).length) 120 := inA_nI (by omega) (by decide)
    have k1 : (nI pre.length).toNatClampNeg = pre.length := nI_clamp (by omega)
    have k2 : (nI (nb pre).length).toNatClampNeg = (nb pre).length := nI_clamp (by omega)
    have q32 : nI x = 32 ↔ x = 32 := cq (by omega) 32 (by decide) rfl
    have hpre : (pre ++ [x]).length = pre.length + 1 := by simp
    have he2 : txt = (pre ++ [x]) ++ rest := by rw [he]; simp
    by_cases h32 : x = 32
    · have hnb : nb (pre ++ [x]) = nb pre := by rw [nb_app, if_pos h32, List.append_nil]
      obtain ⟨X', e1, e2, e3, e4, e5⟩ := ih (pre ++ [x]) w X he2 (by simp only [List.length_cons] at hw; omega) h1 (by rw [hnb]; exact h2) (by rw [hnb]; exact h3)
      refine ⟨X', ?_, e2, e3, e4, e5⟩
      rw [hpre] at e1
      rw [fP_start_46]
      simp only [if_neg c1, rzD_s, mK_wR, mL_wR, mP_wR, a1, a2, if_true, if_neg c2, a3, a4, a5, a6, wR_at (K := 10) (r := 2) (by decide), h2, if_neg c3, if_pos i1, k1, wR_at (K := 10) (r := 1) (by decide), hx, if_pos (q32.mpr h32), fP_start_99, nI_1]
      exact e1
    · have hnb : nb (pre ++ [x]) = nb pre ++ [x] := by rw [nb_app, if_neg h32]
      have hX1 : xs (xs X 3 (nb pre).length (nI x)) 2 1 (nI ((nb pre).length + 1)) 1 = X 1 := by rw [xs_row _ _ _ (by decide), xs_row _ _ _ (by decide)]
      obtain ⟨X', e1, e2, e3, e4, e5⟩ := ih (pre ++ [x]) w (xs (xs X 3 (nb pre).length (nI x)) 2 1 (nI ((nb pre).length + 1))) he2 (by simp only [List.length_cons] at hw; omega) (fun i y hy => by rw [hX1]; exact h1 i y hy) (by rw [hnb, xs_eq]; simp) (fun i y hy => by
        rw [xs_row _ _ _ (by decide)]
        rw [hnb] at hy
        by_cases hi : i = (nb pre).length
        · subst hi
          have : y = x := by simpa using hy.symm
          rw [this, xs_eq]
        · rw [xs_idx _ _ _ hi]
          have hil : i < (nb pre ++ [x]).length := (List.getElem?_eq_some_iff.mp hy).1
          rw [List.length_append, List.length_cons, List.length_nil] at hil
          rw [List.getElem?_append_left (by omega)] at hy
          exact h3 i y hy)
      refine ⟨X', ?_, e2, e3, fun r h2 h3 => (e4 r h2 h3).trans (by rw [xs_row _ _ _ h2, xs_row _ _ _ h3]), fun j hj => (e5 j hj).trans (by rw [xs_idx _ _ _ hj, xs_row _ _ _ (by decide)])⟩
      rw [hpre] at e1
      have hc21 : xs X 3 (nb pre).length (nI x) 2 1 = nI (nb pre).length := by rw [xs_row _ _ _ (by decide)]; exact h2
      rw [fP_start_46]
      simp only [if_neg c1, rzD_s, mK_wR, mL_wR, mP_wR, a1, a2, if_true, if_neg c2, a3, a4, a5, a6, wR_at (K := 10) (r := 2) (by decide), h2, if_neg c3, if_pos i1, k1, wR_at (K := 10) (r := 1) (by decide), hx, if_neg (fun q => h32 (q32.mp q)), if_pos i2, fits_ch (show x ≤ 126 by omega), rzM_e, k2, wR_set (K := 10) (r := 3) (by decide), hc21, wR_set (K := 10) (r := 2) (by decide), fP_start_99, nI_1]
      exact e1
theorem st_22 (hH : HcL z M) (C : Cx) (x2 : Int32) : ∀ (j v w : Nat) (X : Xr), v + j = 6 → j < w → (∀ u, u < v → X 4 u = 0) → ∃ X', fP_start_22 n D C w (z + 2) (some (z + 1)) x2 (nI v) (wR z 10 M X) = fP_start_46 n D C n (z + 2) (some (z + 1)) x2 0 (wR z 10 M X') ∧ (∀ u, u < 6 → X' 4 u = 0) ∧ ∀ r, r ≠ 4 → X' r = X r := by
  obtain ⟨-, -, ⟨a3, -, a4⟩, -, ⟨a5, a6⟩, -⟩ := hH
  intro j
  induction j with
  | zero =>
    intro v w X hv hw hu
    obtain ⟨w, rfl⟩ : ∃ w', w = w' + 1 := ⟨w - 1, by omega⟩
    refine ⟨X, ?_, fun u h => hu u (by omega), fun _ _ => rfl⟩
    have h6 : nI 6 ≤ nI v := nI_le (by omega) (by omega)
    rw [fP_start_22]
    simp only [mK_wR, mP_wR, mL_wR, a3, a4, a5, a6, if_true, rzD_s, if_pos h6]
  | succ j ih =>
    intro v w X hv hw hu
    obtain ⟨w, rfl⟩ : ∃ w', w = w' + 1 := ⟨w - 1, by omega⟩
    have h6 : ¬ nI 6 ≤ nI v := nI_ge (by omega) (by decide)
    have hi : inA (nI v) 6 := inA_nI (by omega) (by decide)
    obtain ⟨X', e1, e2, e3⟩ := ih (v + 1) w (xs X 4 v 0) (by omega) (by omega) (fun u h => by
      by_cases huv : u = v
      · rw [huv, xs_eq]
      · rw [xs_idx _ _ _ huv]; exact hu u (by omega))
    refine ⟨X', ?_, e2, fun r hr => (e3 r hr).trans (xs_row _ _ _ hr)⟩
    rw [fP_start_22]
    simp only [mK_wR, mP_wR, mL_wR, a3, a4, a5, a6, if_true, rzD_s, if_neg h6, if_pos hi, fbb0, rzM_e, nI_clamp (show v < 2 ^ 31 by omega), wR_set (K := 10) (r := 4) (by decide), nI_1, e1]
/-- start -/
theorem x_start (hn : 200 ≤ n) (hH : HcL z M) {txt : List Nat} (hT : TxM z M txt) : ∃ X', mR n (D + 1) 12 [.ref (z + 2), va_rf (some (z + 1)), .int (nI txt.length)] M = some (.inl none, wR z 10 M X') ∧ (X' 2 1 = nI (nb txt).length ∧ X' 2 2 = nI 0 ∧ X' 2 3 = nI 0 ∧ X' 2 7 = nI 0) ∧ (∀ i x, (nb txt)[i]? = some x → X' 3 i = nI x) ∧ (∀ v, v < 6 → X' 4 v = 0) ∧ ∀ r, r ≠ 2 → r ≠ 3 → r ≠ 4 → X' r = mI M (z + r) := by
  obtain ⟨t1, t2, t3, t4⟩ := hT
  have hself := wR_self z 10 M
  obtain ⟨X, hX⟩ : ∃ X : Xr, X = fun r j => mI M (z + r) j := ⟨_, rfl⟩
  rw [← hX] at hself
  obtain ⟨Y, hY⟩ : ∃ Y, Y = xs (xs (xs (xs X 2 1 0) 2 2 0) 2 3 0) 2 7 0 := ⟨_, rfl⟩
  have hYr : ∀ r, r ≠ 2 → Y r = X r := fun r hr => by rw [hY, xs_row _ _ _ hr, xs_row _ _ _ hr, xs_row _ _ _ hr, xs_row _ _ _ hr]
  obtain ⟨X1, e1, e2, e3⟩ := st_22 (n := n) (D := D) hH (mR n D) (nI txt.length) 6 0 n Y (by omega) (by omega) (fun u h => absurd h (Nat.not_lt_zero u))
  have hX12 : X1 2 = Y 2 := e3 2 (by decide)
  obtain ⟨X2, f1, f2, f3, f4, f5⟩ := st_46 (n := n) (D := D) hH (mR n D) t2 t4 txt [] n X1 rfl (by omega) (fun i x hi => by rw [e3 1 (by decide), hYr 1 (by decide), hX]; exact t3 i x hi) (by rw [hX12, hY]; simp [xs, nb]; rfl) (fun i x hi => by simp [nb] at hi)
  refine ⟨X2, ?_, ⟨f2, ?_, ?_, ?_⟩, f3, fun v hv => ?_, fun r h2 h3 h4 => ?_⟩
  · rw [eP_start]
    have hk : mK M (z + 2) = 2 := hH.2.2.1.1
    have e1' : fP_start_22 n D (mR n D) n (z + 2) (some (z + 1)) (nI txt.length) 0 (wR z 10 M Y) = _ := e1
    have f1' : fP_start_46 n D (mR n D) n (z + 2) (some (z + 1)) (nI txt.length) 0 (wR z 10 M X1) = _ := f1
    conv => lhs; rw [← hself]
    simp only [fP_start_0, mK_wR, hk, if_true, rzM_e, wR_set (K := 10) (r := 2) (by decide)]
    rw [← hY, e1', f1']
  · rw [f5 2 (by decide), hX12, hY]; simp [xs]; rfl
  · rw [f5 3 (by decide), hX12, hY]; simp [xs]; rfl
  · rw [f5 7 (by decide), hX12, hY]; simp [xs]; rfl
  · rw [f4 4 (by decide) (by decide)]; exact e2 v hv
  · rw [f4 r h2 h3, e3 r h4, hYr r h2, hX]
end PSt
/-- what a reading of a text leaves alone; at most 121 new cells -/
def FrR (z r1 : Nat) (M M' : Mem) : Prop :=
  (∀ c, c < mS M → mK M' c = mK M c ∧ mL M' c = mL M c) ∧
  (∀ c, c < mS M → c ≠ z + 2 → c ≠ z + 3 → c ≠ z + 4 → c ≠ r1 → (∀ j, j < 120 → mP M r1 j ≠ some c) → mI M' c = mI M c ∧ mP M' c = mP M c ∧ mJ M' c = mJ M c) ∧
  (mC M' = mC M ∧ mS M ≤ mS M' ∧ mS M' ≤ mS M + 121 ∧ mU M' ≤ mU M + 6 * 121) ∧
  ((∀ j a, mP M r1 j = some a → mP M' r1 j = some a) ∧ ∀ j a, j < 120 → mP M' r1 j = some a → mP M r1 j = some a ∨ mS M ≤ a) ∧ RowI r1 M'
section PPa
variable {n D z : Nat} {M : Mem}
/-- parse -/
theorem x_parse (hn : 200 ≤ n) (hD : 400 ≤ D) {txt : List Nat} {r1 r2 : Nat} (hH : HcL z M) (hT : TxM z M txt) (hz : z + 28 ≤ mS M) (hR : RwM z r1 r2 M) (hro : Room M 121) : (sent (nb txt) = none → ∃ M', mR n (D + 1) 11 [.ref (z + 2), va_rf (some (z + 1)), .int (nI txt.length)] M = some (.inr 1, M') ∧ FrR z r1 M M' ∧ mP M' (z + 2) = mP M (z + 2)) ∧
    ∀ y, sent (nb txt) = some y → ∃ M' a F, mR n (D + 1) 11 [.ref (z + 2), va_rf (some (z + 1)), .int (nI txt.length)] M = some (.inl (some (.ref a)), M') ∧ FrR z r1 M M' ∧ (mP M' (z + 2) 5 = some r2 ∧ mP M' (z + 2) 6 = some r1 ∧ ∀ j, j ≠ 5 → j ≠ 6 → mP M' (z + 2) j = mP M (z + 2) j) ∧ mI M' (z + 2) 3 = nI y.2.length ∧ (∀ c, F c → ∃ j, j < 120 ∧ mP M' r1 j = some c) ∧ F a ∧ RF n 216 (z + 7) (z + 8) b0 y F M' a := by
  obtain ⟨D, rfl⟩ : ∃ D', D = D' + 20 := ⟨D - 20, by omega⟩
  obtain ⟨X, s1, ⟨s2, s3, s4, s5⟩, s6, s7, s8⟩ := x_start (n := n) (D := D + 19) hn hH hT
  have s1 : mR n (D + 20) 12 [.ref (z + 2), va_rf (some (z + 1)), .int (nI txt.length)] M = some (.inl none, wR z 10 M X) := s1
  obtain ⟨hr12, p5, p6, hr1, hr2, hdj⟩ := hR
  obtain ⟨-, -, ⟨l1, l2, l3⟩, ⟨l4, l5⟩, ⟨l6, l7⟩, ⟨l8, l9⟩, ⟨l10, l11⟩, -⟩ := hH
  have hr1k : mK M r1 = 25 ∧ mL M r1 = 120 ∧ (r1 = z + 5 ∨ r1 = z + 6) := by
    rcases hr12 with ⟨rfl, -⟩ | ⟨rfl, -⟩
    · exact ⟨l8, l9, Or.inl rfl⟩
    · exact ⟨l10, l11, Or.inr rfl⟩
  have hnbl := nb_le txt
  have hTl : txt.length ≤ 120 := hT.2.1
  have hP : PaS (z + 2) (z + 3) (z + 4) r1 (wR z 10 M X) (nb txt) 0 0 0 b0 := by
    refine ⟨⟨l1, l2, l4, l5, l3, l6, l7, p5, hr1k.1, hr1k.2.1⟩, ⟨?_, ?_, ?_, ?_⟩, fun j x hj => ?_, fun v hv => ?_, hr1, fun j hj => absurd hj (Nat.not_lt_zero j), ⟨Nat.zero_le _, by omega, by decide, by decide⟩, ⟨?_, ?_, ?_, ?_⟩, hro, fun x hx => ?_⟩
    · rw [wR_at (K := 10) (r := 2) (by decide)]; exact s2
    · rw [wR_at (K := 10) (r := 2) (by decide)]; exact s3
    · rw [wR_at (K := 10) (r := 2) (by decide)]; exact s4
    · rw [wR_at (K := 10) (r := 2) (by decide)]; exact s5
    · rw [wR_at (K := 10) (r := 3) (by decide)]; exact s6 j x hj
    · rw [wR_at (K := 10) (r := 4) (by decide)]; exact s7 v hv
    · show z + 2 < mS M; omega
    · show z + 3 < mS M; omega
    · show z + 4 < mS M; omega
    · show r1 < mS M; omega
    · have hm := List.mem_filter.mp hx
      have h1 := hT.2.2.2 x hm.1
      have h2 : x ≠ 32 := of_decide_eq_true hm.2
      omega
  -- from the memory before start
  have hbase : ∀ M' k, FrK (z + 2) (z + 4) r1 0 k (wR z 10 M X) M' → k ≤ 121 → RowI r1 M' → FrR z r1 M M' := by
    intro M' k hf hk hrw
    obtain ⟨a1, a2, ⟨a3, a4, a5, a6⟩, ⟨a7, a8⟩, a9, a10⟩ := hf
    have a4 : mS M ≤ mS M' := a4
    have a5 : mS M' ≤ mS M + k := a5
    have a6 : mU M' ≤ mU M + 6 * k := a6
    refine ⟨a1, fun c hc h2 h3 h4 h5 h6 => ?_, ⟨a3, a4, by omega, by omega⟩, ⟨a9, a10⟩, hrw⟩
    · have x := a2 c hc h2 h4 h5 (fun j _ hj => h6 j hj)
      refine ⟨x.1.trans ?_, x.2⟩
      by_cases hcz : z ≤ c ∧ c < z + 10
      · have he : c = z + (c - z) := by omega
        rw [he, wR_at (K := 10) (r := c - z) (by omega)]
        exact s8 (c - z) (by omega) (by omega) (by omega)
      · exact wR_out hcz
  have hpP : ∀ M' k, FrK (z + 2) (z + 4) r1 0 k (wR z 10 M X) M' → mP M' (z + 2) = mP M (z + 2) := fun M' k hf => hf.2.2.2.1.1
  have hC := (par_forms (n := n) (W := z + 7) (V := z + 8) (p := z + 2) (sg := z + 3) (bd := z + 4) (rw := r1) (T := nb txt) hn fuT).2.2.1 fv0 0 0 0 (D + 20) b0 (wR z 10 M X) (by decide) (by rw [List.drop_zero]; show _ ≤ 1000; omega) hP (fun v q h => (by cases h)) (by decide) (by unfold hFo; omega)
  rw [List.drop_zero] at hC
  have hC : SpG (z + 2) (z + 3) (z + 4) r1 0 (wR z 10 M X) (nb txt) 0 b0 (nb txt) (pF fuT 2 fv0 0 b0 (nb txt)) (fun y => y.2.length) (RF n (eFd 0 + 4) (z + 7) (z + 8) b0) (mR n (D + 20) 13 [.ref (z + 2), .int 124, .int 0] (wR z 10 M X)) := hC
  have hk1 : mK (wR z 10 M X) (z + 2) = 2 := l1
  rw [eP_parse]
  simp only [fP_parse_0, l1, if_true, s1, rzC_l, rzV_e, hk1]
  have hsent : sent (nb txt) = (pF fuT 2 fv0 0 b0 (nb txt)).bind fun y => if y.2 = [] then some y.1 else none := rfl
  rw [hsent]
  cases hpf : pF fuT 2 fv0 0 b0 (nb txt) with
  | none =>
    refine ⟨fun _ => ?_, fun y q => (by cases q)⟩
    obtain ⟨M', e1, e2, e3⟩ := hC.1 hpf
    exact ⟨M', by rw [e1, rzC_r], hbase M' _ e2 (by omega) e3, hpP M' _ e2⟩
  | some y =>
    rw [Option.bind_some]
    rcases hC.2 y hpf with ⟨M8, a, i8, mk8, F, e1, e2, e3, e4, e5, e6, e7, e8, e9⟩ | ⟨hb1, -⟩
    · have hm8 : mk8 ≤ 120 := e2.2.2.2.2.2.2.1.2.2.1
      have hi8 : i8 ≤ (nb txt).length := e2.2.2.2.2.2.2.1.1
      have hat : mI M8 (z + 2) 2 = nI i8 := e2.2.1.2.1
      have hct : mI M8 (z + 2) 1 = nI (nb txt).length := e2.2.1.1
      have hq8 : nI i8 = nI (nb txt).length ↔ i8 = (nb txt).length := nI_eq (by omega) (by omega)
      have hl3 := congrArg List.length e3
      rw [List.length_drop] at hl3
      simp only [e1, rzC_l, rzP_s, e2.1.1, if_true, hat, hct]
      by_cases hnil : y.2 = []
      · rw [if_pos hnil]
        rw [hnil, List.length_nil] at hl3
        rw [if_pos (hq8.mpr (by omega))]
        refine ⟨fun q => (by cases q), fun y' q => ?_⟩
        cases q
        have hpp := hpP M8 _ e4
        have p5' : mP M8 (z + 2) 5 = some r1 := by rw [hpp]; exact p5
        have p6' : mP M8 (z + 2) 6 = some r2 := by rw [hpp]; exact p6
        obtain ⟨M9, hM9⟩ : ∃ M9, M9 = setP (setP M8 (z + 2) 5 (some r2)) (z + 2) 6 (some r1) := ⟨_, rfl⟩
        have i9 : mR n (D + 20) 16 [.int 1] M8 = some (.inl none, M8) := x_insist1 M8
        have hnP : ∀ c, c ≠ z + 2 → mP M9 c = mP M8 c := fun c hc => by rw [hM9, mP_setP, fu_row _ _ hc, mP_setP, fu_row _ _ hc]
        have hI9 : mI M9 = mI M8 := by rw [hM9]; rfl
        have hK9 : mK M9 = mK M8 := by rw [hM9]; rfl
        have hr1p : r1 ≠ z + 2 := by omega
        have hF : ∀ c, F c → c ≠ z + 2 := fun c hc q => by
          obtain ⟨j, -, j2, j3⟩ := e6 c hc
          have := (e2.2.2.2.2.1.1 j c (by omega) j3).1
          rw [q, e2.1.1] at this
          exact absurd this (by decide)
        have hag : AgN F a M8 M9 := fun c hc => ⟨by rw [hK9], by rw [hI9], by rw [hnP c (hF c hc)], fun _ => by rw [hnP c (hF c hc)]⟩
        obtain ⟨b1, b2, b3, ⟨b4, b5⟩, b6⟩ := hbase M8 _ e4 (by omega) e2.2.2.2.2.1
        refine ⟨M9, a, F, ?_, ⟨fun c hc => ⟨by rw [hK9]; exact (b1 c hc).1, by rw [hM9]; exact (b1 c hc).2⟩, fun c hc h2 h3 h4 h5 h6 => ?_, ?_, ⟨fun j a q => by rw [hnP r1 hr1p]; exact b4 j a q, fun j a hj q => by rw [hnP r1 hr1p] at q; exact b5 j a hj q⟩, ?_⟩, ⟨?_, ?_, fun j h5 h6 => ?_⟩, ?_, fun c hc => ?_, e7, ?_⟩
        · simp only [fP_parse_30, i9, rzC_l, rzV_e, e2.1.1, if_true, rzM_e, p5', p6']
          rw [hM9]
          rfl
        · obtain ⟨x1, x2, x3⟩ := b2 c hc h2 h3 h4 h5 h6
          exact ⟨by rw [hI9]; exact x1, by rw [hnP c h2]; exact x2, by rw [hM9]; exact x3⟩
        · rw [hM9]; exact b3
        · refine ⟨fun j a hj q => ?_, fun j j' a hj hj' q q' => ?_⟩
          · rw [hnP r1 hr1p] at q
            rw [hK9]
            have := b6.1 j a hj q
            exact ⟨this.1, by rw [hM9]; exact this.2⟩
          · rw [hnP r1 hr1p] at q q'
            exact b6.2 j j' a hj hj' q q'
        · rw [hM9, mP_setP, fu_ne _ _ (fun q => (by cases q.2)), mP_setP, fu_eq]
        · rw [hM9, mP_setP, fu_eq]
        · rw [hM9, mP_setP, fu_ne _ _ (fun q => h6 q.2), mP_setP, fu_ne _ _ (fun q => h5 q.2), hpp]
        · rw [hI9]; exact e2.2.1.2.2.1
        · obtain ⟨j, -, j2, j3⟩ := e6 c hc
          exact ⟨j, by omega, by rw [hnP r1 hr1p]; exact j3⟩
        · obtain ⟨hev, hkd⟩ := e9
          refine ⟨(hev.fr hag).mono (by unfold eFd; omega), fun q => ?_, fun isA isSet i q B hk => ?_⟩
          · obtain ⟨ch, h1, h2⟩ := hkd.1 q
            exact ⟨ch, by rw [hI9]; exact h1, h2⟩
          · obtain ⟨f1, f2, f3, f4, a1, F1, f5, f6, f7, f8⟩ := hkd.2 isA isSet i q B hk
            refine ⟨by rw [hI9]; exact f1, by rw [hI9]; exact f2, f3, f4, a1, F1, by rw [hnP a (hF a e7)]; exact f5, f6, f7, ?_⟩
            exact (f8.fr (fun c hc => ⟨by rw [hK9], by rw [hI9], by rw [hnP c (hF c (f6 c hc))], fun _ => by rw [hnP c (hF c (f6 c hc))]⟩)).mono (by unfold eFd; omega)
      · rw [if_neg hnil]
        have hne : ¬ i8 = (nb txt).length := fun q => by
          have : y.2.length = 0 := by omega
          exact hnil (List.length_eq_zero_iff.mp this)
        rw [if_neg (fun q => hne (hq8.mp q))]
        refine ⟨fun _ => ?_, fun y' q => (by cases q)⟩
        obtain ⟨M', g1, g2, g3⟩ := x_insist0 (n := n) (d := D + 19) (by omega) e2
        have hfr := e4.trans g2 (Nat.zero_le _) (Nat.le_refl _)
        refine ⟨M', ?_, hbase M' _ hfr (by omega) g3, hpP M' _ hfr⟩
        rw [fP_parse_30]
        have g1 : mR n (D + 20) 16 [.int 0] M8 = some (.inr 1, M') := g1
        rw [g1, rzC_r]
    · omega
end PPa
