/-! write of the reference and of the class -/
theorem ch_id : ∀ k, k < 256 → ((nI k).toUInt32 % 65536).toInt32 = nI k := by decide +kernel
theorem fits_c2 : ∀ k, k < 256 → fits .char (.int (nI k)) = true := by decide +kernel
theorem cq0 {k : Nat} (h : k < 1000) : nI k = 0 ↔ k = 0 := cq h 0 (by decide) rfl
section RWr
variable {n D m : Nat} {M : Mem}
theorem rw_87 (hL : LayM m M) (C : Cx) (l : Int64) : ∀ (j p w : Nat) (txt : List Nat) (X : Xr), p + j = 8 → j < w → X 0 1 = nI txt.length → (∀ i x, txt[i]? = some x → X 1 i = nI x) → txt.length + (cds (byt l) p j).length ≤ 120 → ∃ X', fM_write_87 n D C w m l (nI p) (wR m 17 M X) = some (.inl (some (.int 1)), wR m 17 M X') ∧ X' 0 1 = nI (txt ++ cds (byt l) p j).length ∧ (∀ i x, (txt ++ cds (byt l) p j)[i]? = some x → X' 1 i = nI x) ∧ (∀ r, r ≠ 0 → r ≠ 1 → X' r = X r) ∧ ∀ f, f ≠ 1 → X' 0 f = X 0 f := by
  obtain ⟨h1, h2, h3⟩ := lm2 hL
  intro j
  induction j with
  | zero =>
    intro p w txt X hp hw h01 h1r hlen
    obtain ⟨w, rfl⟩ : ∃ w', w = w' + 1 := ⟨w - 1, by omega⟩
    have h8 : (8 : Int32) ≤ nI p := nI_le (a := 8) (by omega) (by omega)
    refine ⟨X, ?_, by rw [show cds (byt l) p 0 = [] from rfl, List.append_nil]; exact h01, by rw [show cds (byt l) p 0 = [] from rfl, List.append_nil]; exact h1r, fun _ _ _ => rfl, fun _ _ => rfl⟩
    rw [fM_write_87, if_pos h8]
    rfl
  | succ j ih =>
    intro p w txt X hp hw h01 h1r hlen
    obtain ⟨w, rfl⟩ : ∃ w', w = w' + 1 := ⟨w - 1, by omega⟩
    have h8 : ¬ (8 : Int32) ≤ nI p := nI_ge (b := 8) (by omega) (by decide)
    have hb : (((l >>> ((8 * nI p).toInt64 &&& 63)) &&& 255).toInt32) = nI (byt l p) := byt_r l (by omega)
    have hlt := byt_lt l p
    rw [fM_write_87, if_neg h8]
    simp only [hb]
    by_cases hz : byt l p = 0
    · have hc : cds (byt l) p (j + 1) = cds (byt l) (p + 1) j := if_pos hz
      rw [hc] at hlen ⊢
      obtain ⟨X', e1, e2⟩ := ih (p + 1) w txt X (by omega) (by omega) h01 h1r hlen
      refine ⟨X', ?_, e2⟩
      rw [if_pos ((cq0 (by omega)).mpr hz), fM_write_135, nI_1, e1]
    · have hc : cds (byt l) p (j + 1) = byt l p :: cds (byt l) (p + 1) j := if_neg hz
      rw [hc] at hlen ⊢
      simp only [List.length_cons] at hlen
      have hin : inA (nI txt.length) 120 := inA_nI (by omega) (by decide)
      have hcl : (nI txt.length).toNatClampNeg = txt.length := nI_clamp (by omega)
      have h011 : xs X 1 txt.length (nI (byt l p)) 0 1 = nI txt.length := by rw [xs_row _ _ _ (by decide)]; exact h01
      obtain ⟨X', e1, e2, e3, e4, e5⟩ := ih (p + 1) w (txt ++ [byt l p]) (xs (xs X 1 txt.length (nI (byt l p))) 0 1 (nI (txt.length + 1))) (by omega) (by omega) (by rw [xs_eq]; simp) (fun i x hx => by
        rw [xs_row _ _ _ (by decide)]
        by_cases hi : i = txt.length
        · subst hi
          have : x = byt l p := by simpa using hx.symm
          rw [this, xs_eq]
        · rw [xs_idx _ _ _ hi]
          have hil := (List.getElem?_eq_some_iff.mp hx).1
          rw [List.length_append, List.length_cons, List.length_nil] at hil
          rw [List.getElem?_append_left (by omega)] at hx
          exact h1r i x hx) (by rw [List.length_append, List.length_cons, List.length_nil]; omega)
      rw [List.append_assoc, List.singleton_append] at e2 e3
      refine ⟨X', ?_, e2, e3, fun r h0 h1 => (e4 r h0 h1).trans (by rw [xs_row _ _ _ h0, xs_row _ _ _ h1]), fun f hf => (e5 f hf).trans (by rw [xs_idx _ _ _ hf, xs_row _ _ _ (by decide)])⟩
      rw [if_neg (fun q => hz ((cq0 (by omega)).mp q))]
      simp only [mK_wR, mP_wR, mL_wR, hL.1, if_true, h1, h2, h3, rzD_s, wR_at0 (K := 17) (by decide), h01, if_pos hin, ch_id (byt l p) hlt, fits_c2 (byt l p) hlt, hcl, rzM_e, wR_set (K := 17) (r := 1) (by decide), h011, wR_set0 (K := 17) (by decide), nI_1, fM_write_135, e1]
theorem rw_10 (hL : LayM m M) (C : Cx) (l : Int64) {X : Xr} {len : Nat} (h01 : X 0 1 = nI len) (hl : len ≤ 120) : ∀ (j p w c : Nat), p + j = 8 → j < w → c ≤ p → fM_write_10 n D C w m l (nI c) (nI p) (wR m 17 M X) = if cgd (byt l) p j = true ∧ len + (c + (cds (byt l) p j).length) ≤ 120 then fM_write_87 n D C n m l 0 (wR m 17 M X) else some (.inl (some (.int 0)), wR m 17 M X) := by
  intro j
  induction j with
  | zero =>
    intro p w c hp hw hc
    obtain ⟨w, rfl⟩ : ∃ w', w = w' + 1 := ⟨w - 1, by omega⟩
    have h8 : (8 : Int32) ≤ nI p := nI_le (a := 8) (by omega) (by omega)
    have hq : (nI (len + c) ≤ 120) ↔ len + c ≤ 120 := nI_leI (b := 120) (by omega) (by decide)
    rw [fM_write_10, if_pos h8]
    simp only [mK_wR, hL.1, if_true, wR_at0 (K := 17) (by decide), h01, nI_add, fbb0, show cds (byt l) p 0 = [] from rfl, show cgd (byt l) p 0 = true from rfl, List.length_nil, Nat.add_zero, true_and]
    by_cases h : len + c ≤ 120
    · rw [if_pos (hq.mpr h), if_pos h]
    · rw [if_neg (fun q => h (hq.mp q)), if_neg h]
  | succ j ih =>
    intro p w c hp hw hc
    obtain ⟨w, rfl⟩ : ∃ w', w = w' + 1 := ⟨w - 1, by omega⟩
    have h8 : ¬ (8 : Int32) ≤ nI p := nI_ge (b := 8) (by omega) (by decide)
    have hb : (((l >>> ((8 * nI p).toInt64 &&& 63)) &&& 255).toInt32) = nI (byt l p) := byt_r l (by omega)
    have hlt := byt_lt l p
    have h32 : (nI (byt l p) < 32) ↔ byt l p < 32 := nI_ltI (b := 32) (by omega) (by decide)
    have h126 : (nI (byt l p) ≤ 126) ↔ byt l p ≤ 126 := nI_leI (b := 126) (by omega) (by decide)
    rw [fM_write_10, if_neg h8]
    simp only [hb]
    by_cases hz : byt l p = 0
    · have hcd : cds (byt l) p (j + 1) = cds (byt l) (p + 1) j := if_pos hz
      have hcg : cgd (byt l) p (j + 1) = cgd (byt l) (p + 1) j := by simp [cgd, hz]
      rw [hcd, hcg, if_pos ((cq0 (by omega)).mpr hz), fM_write_52, if_pos ((cq0 (by omega)).mpr hz), fM_write_63, Int32.add_zero, nI_1]
      exact ih (p + 1) w c (by omega) (by omega) (by omega)
    · have hcd : cds (byt l) p (j + 1) = byt l p :: cds (byt l) (p + 1) j := if_neg hz
      rw [if_neg (fun q => hz ((cq0 (by omega)).mp q))]
      by_cases g32 : byt l p < 32
      · have hcg : cgd (byt l) p (j + 1) = false := by simp [cgd, hz]; omega
        rw [if_pos (h32.mpr g32), hcg, if_neg (fun q => by cases q.1)]
        rfl
      · rw [if_neg (fun q => g32 (h32.mp q))]
        by_cases g126 : byt l p ≤ 126
        · have hcg : cgd (byt l) p (j + 1) = cgd (byt l) (p + 1) j := by
            have : 32 ≤ byt l p := by omega
            simp [cgd, g126, this]
          rw [hcd, hcg, if_pos (h126.mpr g126), fM_write_52, if_neg (fun q => hz ((cq0 (by omega)).mp q)), fM_write_63, nI_1, nI_1, ih (p + 1) w (c + 1) (by omega) (by omega) (by omega)]
          have : len + (c + 1 + (cds (byt l) (p + 1) j).length) = len + (c + (byt l p :: cds (byt l) (p + 1) j).length) := by simp only [List.length_cons]; omega
          rw [this]
        · have hcg : cgd (byt l) p (j + 1) = false := by simp [cgd, hz, g126]
          rw [if_neg (fun q => g126 (h126.mp q)), hcg, if_neg (fun q => by cases q.1)]
          rfl
theorem wok_iff {l : Int64} {txt : List Nat} : (cgd (byt l) 0 8 = true ∧ txt.length + (0 + (cds (byt l) 0 8).length) ≤ 120) ↔ wOk l txt = true := by
  unfold wOk
  rw [Bool.and_eq_true, decide_eq_true_iff, Nat.zero_add]
theorem mem_app_ok {l : Int64} {txt : List Nat} (h : ∀ x ∈ txt, 32 ≤ x ∧ x ≤ 126) (hg : cgd (byt l) 0 8 = true) : ∀ x ∈ txt ++ cds (byt l) 0 8, 32 ≤ x ∧ x ≤ 126 := fun x hx => (List.mem_append.mp hx).elim (h x) (cds_ok (byt l) 8 0 hg x)
theorem R_write (hn : 200 ≤ n) (hL : LayM m M) {X : Xr} {txt : List Nat} {s : Option (List Nat)} (h : ModI X txt s) (l : Int64) : ∃ X', mR n (D + 1) 67 [.ref m, .long l] (wR m 17 M X) = some (.inl (some (.int (b2i (wOk l txt)))), wR m 17 M X') ∧ X' 0 0 = 0 ∧ ModI X' (wTx l txt) s := by
  have h0 := mod_w h (frw_0 (X := X) 0)
  obtain ⟨⟨t1, t2, t3, t4⟩, hsig, hsn⟩ := h0
  have e10 := rw_10 (n := n) (D := D) hL (mR n D) l t1 t2 8 0 n 0 (by omega) (by omega) (by omega)
  have e10' : fM_write_10 n D (mR n D) n m l 0 0 (wR m 17 M (xs X 0 0 0)) = _ := e10
  rw [eM_write]
  simp only [fM_write_0, mK_wR, hL.1, if_true, rzM_e, wR_set0 (K := 17) (by decide), e10']
  by_cases hw : wOk l txt = true
  · rw [if_pos (wok_iff.mpr hw)]
    obtain ⟨w1, w2⟩ := wok_iff.mpr hw
    obtain ⟨X', f1, f2, f3, f4, f5⟩ := rw_87 (n := n) (D := D) hL (mR n D) l 8 0 n txt (xs X 0 0 0) (by omega) (by omega) t1 t3 (by omega)
    have f1' : fM_write_87 n D (mR n D) n m l 0 (wR m 17 M (xs X 0 0 0)) = _ := f1
    have hwt : wTx l txt = txt ++ cds (byt l) 0 8 := if_pos hw
    rw [hwt, hw]
    refine ⟨X', f1', by rw [f5 0 (by decide), xs_eq], ⟨f2, by rw [List.length_append]; omega, f3, mem_app_ok t4 w1⟩, ?_, ?_⟩
    · obtain ⟨τ, s1, s2⟩ := hsig
      exact ⟨τ, s1, fun j a b => by rw [f5 (j + 23) (by omega)]; exact s2 j a b⟩
    · cases s with
      | none => exact (f5 3 (by decide)).trans hsn
      | some ts =>
        obtain ⟨a1, a2, y, a3, b1, b2, b3, b4, b5⟩ := hsn
        exact ⟨(f5 3 (by decide)).trans a1, a2, y, a3, (f5 4 (by decide)).trans b1, (f5 5 (by decide)).trans b2, fun i x hx => by rw [f4 2 (by decide) (by decide), f4 3 (by decide) (by decide)]; exact b3 i x hx, fun i x hx => by rw [f4 4 (by decide) (by decide), f4 5 (by decide) (by decide)]; exact b4 i x hx, (f5 10 (by decide)).trans b5⟩
  · rw [if_neg (fun q => hw (wok_iff.mp q))]
    have hwf : wOk l txt = false := by cases hc : wOk l txt with
      | false => rfl
      | true => exact absurd hc hw
    have hwt : wTx l txt = txt := if_neg hw
    rw [hwt, hwf]
    exact ⟨xs X 0 0 0, rfl, xs_eq _ _ _ _, ⟨⟨t1, t2, t3, t4⟩, hsig, hsn⟩⟩
end RWr
section CWr
variable {n D z : Nat} {M : Mem}
theorem x_byteAt (l : Int64) {p : Nat} (M : Mem) : mR n (D + 1) 6 [.long l, .int (nI p)] M = some (.inl (some (.int (nI (byt l p)))), M) := by
  rw [eH_byteAt, fH_byteAt_0]
  have : cb l (nI p) = nI (byt l p) := byt_c l p
  rw [← this]
  rfl
theorem x_append (hH : HcL z M) {X : Xr} {txt : List Nat} {k : Nat} (hk : k < 256) (h01 : X 0 1 = nI txt.length) (hlen : k ≠ 0 → txt.length < 120) : mR n (D + 1) 7 [.ref z, .int (nI k)] (wR z 10 M X) = some (.inl none, wR z 10 M (if k = 0 then X else xs (xs X 1 txt.length (nI k)) 0 1 (nI (txt.length + 1)))) := by
  obtain ⟨⟨a1, a2, -⟩, ⟨b1, b2⟩, -⟩ := hH
  rw [eH_append, fH_append_0]
  by_cases hz : k = 0
  · rw [if_pos ((cq0 (by omega)).mpr hz), if_pos hz]
    rfl
  · have hl := hlen hz
    have h120 : ¬ (120 : Int32) ≤ nI txt.length := nI_ge (b := 120) hl (by decide)
    have hin : inA (nI txt.length) 120 := inA_nI hl (by decide)
    have hcl : (nI txt.length).toNatClampNeg = txt.length := nI_clamp (by omega)
    have h011 : xs X 1 txt.length (nI k) 0 1 = nI txt.length := by rw [xs_row _ _ _ (by decide)]; exact h01
    rw [if_neg (fun q => hz ((cq0 (by omega)).mp q)), if_neg hz]
    simp only [mK_wR, mP_wR, mL_wR, a1, if_true, wR_at0 (K := 10) (by decide), h01, if_neg h120, a2, rzD_s, b1, b2, if_pos hin, ch_id k hk, fits_c2 k hk, rzM_e, hcl, wR_set (K := 10) (r := 1) (by decide), h011, wR_set0 (K := 10) (by decide), nI_1, fH_append_34]
theorem cw_66 (hH : HcL z M) (X0 : Nat) (l : Int64) : ∀ (j p w : Nat) (txt : List Nat) (X : Xr), p + j = 8 → j < w → X 0 1 = nI txt.length → (∀ i x, txt[i]? = some x → X 1 i = nI x) → txt.length + (cds (byt l) p j).length ≤ 120 → ∃ X', fH_write_66 n X0 (mR n (D + 1)) w z l (nI p) (wR z 10 M X) = some (.inl (some (.int 1)), wR z 10 M X') ∧ X' 0 1 = nI (txt ++ cds (byt l) p j).length ∧ (∀ i x, (txt ++ cds (byt l) p j)[i]? = some x → X' 1 i = nI x) ∧ (∀ r, r ≠ 0 → r ≠ 1 → X' r = X r) := by
  intro j
  induction j with
  | zero =>
    intro p w txt X hp hw h01 h1r hlen
    obtain ⟨w, rfl⟩ : ∃ w', w = w' + 1 := ⟨w - 1, by omega⟩
    have h8 : (8 : Int32) ≤ nI p := nI_le (a := 8) (by omega) (by omega)
    refine ⟨X, ?_, by rw [show cds (byt l) p 0 = [] from rfl, List.append_nil]; exact h01, by rw [show cds (byt l) p 0 = [] from rfl, List.append_nil]; exact h1r, fun _ _ _ => rfl⟩
    rw [fH_write_66, if_pos h8]
    rfl
  | succ j ih =>
    intro p w txt X hp hw h01 h1r hlen
    obtain ⟨w, rfl⟩ : ∃ w', w = w' + 1 := ⟨w - 1, by omega⟩
    have h8 : ¬ (8 : Int32) ≤ nI p := nI_ge (b := 8) (by omega) (by decide)
    have hlt := byt_lt l p
    have hkz : mK M z = 1 := hH.1.1
    rw [fH_write_66, if_neg h8]
    by_cases hz : byt l p = 0
    · have hc : cds (byt l) p (j + 1) = cds (byt l) (p + 1) j := if_pos hz
      rw [hc] at hlen ⊢
      obtain ⟨X', e1, e2⟩ := ih (p + 1) w txt X (by omega) (by omega) h01 h1r hlen
      refine ⟨X', ?_, e2⟩
      simp only [x_byteAt, rzC_l, rzI_e, mK_wR, hkz, if_true, x_append (n := n) (D := D) hH hlt h01 (fun q => absurd hz q), rzV_e, if_pos hz, nI_1, e1]
    · have hc : cds (byt l) p (j + 1) = byt l p :: cds (byt l) (p + 1) j := if_neg hz
      rw [hc] at hlen ⊢
      simp only [List.length_cons] at hlen
      obtain ⟨X', e1, e2, e3, e4⟩ := ih (p + 1) w (txt ++ [byt l p]) (xs (xs X 1 txt.length (nI (byt l p))) 0 1 (nI (txt.length + 1))) (by omega) (by omega) (by rw [xs_eq]; simp) (fun i x hx => by
        rw [xs_row _ _ _ (by decide)]
        by_cases hi : i = txt.length
        · subst hi
          have : x = byt l p := by simpa using hx.symm
          rw [this, xs_eq]
        · rw [xs_idx _ _ _ hi]
          have hil := (List.getElem?_eq_some_iff.mp hx).1
          rw [List.length_append, List.length_cons, List.length_nil] at hil
          rw [List.getElem?_append_left (by omega)] at hx
          exact h1r i x hx) (by rw [List.length_append, List.length_cons, List.length_nil]; omega)
      rw [List.append_assoc, List.singleton_append] at e2 e3
      refine ⟨X', ?_, e2, e3, fun r h0 h1 => (e4 r h0 h1).trans (by rw [xs_row _ _ _ h0, xs_row _ _ _ h1])⟩
      simp only [x_byteAt, rzC_l, rzI_e, mK_wR, hkz, if_true, x_append (n := n) (D := D) hH hlt h01 (fun _ => (by omega : txt.length < 120)), rzV_e, if_neg hz, nI_1, e1]
theorem cw_5 (hH : HcL z M) (X0 : Nat) (l : Int64) {X : Xr} {len : Nat} (h01 : X 0 1 = nI len) (hl : len ≤ 120) : ∀ (j p w c : Nat), p + j = 8 → j < w → c ≤ p → fH_write_5 n X0 (mR n (D + 1)) w z l (nI c) (nI p) (wR z 10 M X) = if cgd (byt l) p j = true ∧ len + (c + (cds (byt l) p j).length) ≤ 120 then fH_write_66 n X0 (mR n (D + 1)) n z l 0 (wR z 10 M X) else some (.inl (some (.int 0)), wR z 10 M X) := by
  have hkz : mK M z = 1 := hH.1.1
  intro j
  induction j with
  | zero =>
    intro p w c hp hw hc
    obtain ⟨w, rfl⟩ : ∃ w', w = w' + 1 := ⟨w - 1, by omega⟩
    have h8 : (8 : Int32) ≤ nI p := nI_le (a := 8) (by omega) (by omega)
    have hq : (nI (len + c) ≤ 120) ↔ len + c ≤ 120 := nI_leI (b := 120) (by omega) (by decide)
    rw [fH_write_5, if_pos h8]
    simp only [mK_wR, hkz, if_true, wR_at0 (K := 10) (by decide), h01, nI_add, fbb0, show cds (byt l) p 0 = [] from rfl, show cgd (byt l) p 0 = true from rfl, List.length_nil, Nat.add_zero, true_and]
    by_cases h : len + c ≤ 120
    · rw [if_pos (hq.mpr h), if_pos h]
    · rw [if_neg (fun q => h (hq.mp q)), if_neg h]
  | succ j ih =>
    intro p w c hp hw hc
    obtain ⟨w, rfl⟩ : ∃ w', w = w' + 1 := ⟨w - 1, by omega⟩
    have h8 : ¬ (8 : Int32) ≤ nI p := nI_ge (b := 8) (by omega) (by decide)
    have hlt := byt_lt l p
    have h32 : (nI (byt l p) < 32) ↔ byt l p < 32 := nI_ltI (b := 32) (by omega) (by decide)
    have h126 : (nI (byt l p) ≤ 126) ↔ byt l p ≤ 126 := nI_leI (b := 126) (by omega) (by decide)
    rw [fH_write_5, if_neg h8]
    simp only [x_byteAt, rzC_l, rzI_e]
    by_cases hz : byt l p = 0
    · have hcd : cds (byt l) p (j + 1) = cds (byt l) (p + 1) j := if_pos hz
      have hcg : cgd (byt l) p (j + 1) = cgd (byt l) (p + 1) j := by simp [cgd, hz]
      rw [hcd, hcg, if_pos ((cq0 (by omega)).mpr hz), fH_write_44, nI_1]
      exact ih (p + 1) w c (by omega) (by omega) (by omega)
    · have hcd : cds (byt l) p (j + 1) = byt l p :: cds (byt l) (p + 1) j := if_neg hz
      rw [if_neg (fun q => hz ((cq0 (by omega)).mp q))]
      by_cases g32 : byt l p < 32
      · have hcg : cgd (byt l) p (j + 1) = false := by simp [cgd, hz]; omega
        rw [if_pos (h32.mpr g32), hcg, if_neg (fun q => by cases q.1)]
        rfl
      · rw [if_neg (fun q => g32 (h32.mp q))]
        by_cases g126 : byt l p ≤ 126
        · have hcg : cgd (byt l) p (j + 1) = cgd (byt l) (p + 1) j := by
            have : 32 ≤ byt l p := by omega
            simp [cgd, g126, this]
          rw [hcd, hcg, if_pos (h126.mpr g126), fH_write_44, nI_1, nI_1, ih (p + 1) w (c + 1) (by omega) (by omega) (by omega)]
          have : len + (c + 1 + (cds (byt l) (p + 1) j).length) = len + (c + (byt l p :: cds (byt l) (p + 1) j).length) := by simp only [List.length_cons]; omega
          rw [this]
        · have hcg : cgd (byt l) p (j + 1) = false := by simp [cgd, hz, g126]
          rw [if_neg (fun q => g126 (h126.mp q)), hcg, if_neg (fun q => by cases q.1)]
          rfl
theorem C_write (hn : 200 ≤ n) {txt : List Nat} {s : Option (List Nat)} (h : HcI n z M txt s) (l : Int64) : ∃ M', mR n (D + 2) 5 [.ref z, .long l] M = some (.inl (some (.int (b2i (wOk l txt)))), M') ∧ HcI n z M' (wTx l txt) s ∧ FrO z 0 M M' := by
  have hH := h.1
  obtain ⟨t1, t2, t3, t4⟩ := h.2.1
  have hself := wR_self z 10 M
  obtain ⟨X, hX⟩ : ∃ X : Xr, X = fun r j => mI M (z + r) j := ⟨_, rfl⟩
  rw [← hX] at hself
  have x01 : X 0 1 = nI txt.length := by rw [hX]; exact t1
  have x1 : ∀ i x, txt[i]? = some x → X 1 i = nI x := fun i x hx => by rw [hX]; exact t3 i x hx
  have e5 := cw_5 (n := n) (D := D) hH (D + 1) l x01 t2 8 0 n 0 (by omega) (by omega) (by omega)
  have e5' : fH_write_5 n (D + 1) (mR n (D + 1)) n z l 0 0 (wR z 10 M X) = _ := e5
  rw [hself] at e5'
  have e0 : mR n (D + 2) 5 [.ref z, .long l] M = fH_write_5 n (D + 1) (mR n (D + 1)) n z l 0 0 M := eH_write n (D + 1) z l M
  rw [e0, e5']
  by_cases hw : wOk l txt = true
  · rw [if_pos (wok_iff.mpr hw)]
    obtain ⟨w1, w2⟩ := wok_iff.mpr hw
    obtain ⟨X', f1, f2, f3, f4⟩ := cw_66 (n := n) (D := D) hH (D + 1) l 8 0 n txt X (by omega) (by omega) x01 x1 (by omega)
    have f1' : fH_write_66 n (D + 1) (mR n (D + 1)) n z l 0 (wR z 10 M X) = _ := f1
    rw [hself] at f1'
    have hwt : wTx l txt = txt ++ cds (byt l) 0 8 := if_pos hw
    have hIc : ∀ c, c ≠ z → c ≠ z + 1 → mI (wR z 10 M X') c = mI M c := fun c h0 h1 => by
      by_cases hcz : z ≤ c ∧ c < z + 10
      · have he : c = z + (c - z) := by omega
        rw [he, wR_at (K := 10) (r := c - z) (by omega), f4 (c - z) (by omega) (by omega), hX]
      · exact wR_out hcz
    rw [hwt, hw]
    refine ⟨wR z 10 M X', f1', hci_txt h rfl hIc ⟨?_, by rw [List.length_append]; omega, fun i x hx => ?_, mem_app_ok t4 w1⟩, fro_int rfl (fun c hc => hIc c (by omega) (by omega))⟩
    · rw [wR_at0 (K := 10) (by decide)]; exact f2
    · rw [wR_at (K := 10) (r := 1) (by decide)]; exact f3 i x hx
  · rw [if_neg (fun q => hw (wok_iff.mp q))]
    have hwf : wOk l txt = false := by cases hc : wOk l txt with
      | false => rfl
      | true => exact absurd hc hw
    have hwt : wTx l txt = txt := if_neg hw
    rw [hwt, hwf]
    exact ⟨M, rfl, h, fro_int rfl (fun _ _ => rfl)⟩
end CWr
