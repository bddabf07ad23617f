/-! the class: counting, and what it answers -/
theorem qcn_le (p : Nat → Bool) : ∀ j k, qcn p k j ≤ j + 1
  | 0, k => by unfold qcn; split <;> omega
  | j + 1, k => by
    have := qcn_le p j (k + 1)
    unfold qcn
    split <;> omega
theorem qfr_t (p : Nat → Bool) : ∀ j k, qfr true p k j = decide (qcn p k j = j + 1)
  | 0, k => by
    unfold qfr qcn
    cases p k <;> rfl
  | j + 1, k => by
    have h1 := qfr_t p j (k + 1)
    have h2 := qcn_le p j (k + 1)
    unfold qfr qcn
    rw [h1]
    cases p k
    · have : ¬ (0 + qcn p (k + 1) j = j + 1 + 1) := by omega
      simp [this]
      omega
    · simp
      omega
theorem qfr_f (p : Nat → Bool) : ∀ j k, qfr false p k j = decide (0 < qcn p k j)
  | 0, k => by
    unfold qfr qcn
    cases p k <;> rfl
  | j + 1, k => by
    have h1 := qfr_f p j (k + 1)
    unfold qfr qcn
    rw [h1]
    cases p k
    · simp
    · simp
      omega
theorem mean_w {ts : List Nat} {y : FvT} (hy : sent ts = some y) {sz : Nat} (hs : sz ≤ 4) : (y.1.2.2 = none → mean y sz = decide (0 < waysN y sz)) ∧ ∀ isA isSet i q B, y.1.2.2 = some (isA, isSet, i, q, B) → mean y sz = if isA then decide (waysN y sz = mor isSet sz + 1) else decide (0 < waysN y sz) := by
  refine ⟨fun hk => ?_, fun isA isSet i q B hk => ?_⟩
  · have : waysN y sz = if mean y sz then 1 else 0 := by simp only [waysN, hk]
    rw [this]
    cases mean y sz <;> rfl
  · obtain ⟨c, k1, k2, k3, k4, k5, k6⟩ := sent_kok hy hs _ _ _ _ _ hk
    have hq : q = 0 := ((sent_kn hy).2 _ _ _ _ _ hk).2
    subst hq
    have hw : waysN y sz = hcnt isSet sz (fun z => B sz (upE e0 0 z)) := by simp only [waysN, hk]
    have hm : mean y sz = hqnt isA isSet sz (fun z => B sz (upE e0 0 z)) := k5 e0
    rw [hw, hm]
    unfold hqnt hcnt
    cases isA
    · exact qfr_f _ _ _
    · exact qfr_t _ _ _
theorem waysN_le {ts : List Nat} {y : FvT} (hy : sent ts = some y) {sz : Nat} (hs : sz ≤ 4) : waysN y sz ≤ 17 := by
  cases hk : y.1.2.2 with
  | none =>
    have : waysN y sz = if mean y sz then 1 else 0 := by simp only [waysN, hk]
    rw [this]
    split <;> omega
  | some x =>
    obtain ⟨isA, isSet, i, q, B⟩ := x
    have hw : waysN y sz = hcnt isSet sz (fun z => B sz (upE e0 0 z)) := by simp only [waysN, hk]
    have hm := mor_le (isSet := isSet) hs
    rw [hw]
    unfold hcnt
    exact Nat.le_trans (qcn_le _ _ _) (by omega)
section CCo
variable {n W V : Nat} {M : Mem} {b : Bd}
theorem cnt_loop {H : Nat} {F : Nat → Prop} {a a1 i q : Nat} {D : DF} (hi : i < 6) (h : EvF n H W V F M (fun j => if j = i then some q else b j) a1 D) (hb : ∀ v q', b v = some q' → q' < q) {M' : Mem} {sz : Nat} {e : Ev} (hka : mK M' a = 4) (hfa : mP M' a 3 = some a1) (hva : mI M' a 2 = nI i) (haV : a ≠ V) (hg : AgN F a1 M M') (hsz : sz ≤ 4) (hE : EnM W V M' sz b e) (hR : EvR sz b e) {d : Nat} (hd : H ≤ d + 1) (D0 : Nat) : ∀ (j k w c : Nat) (y : Int32), k + j = mor (decide (3 ≤ i)) sz → j + 2 ≤ w →
    ∃ x, fO_count_74 n D0 (mR n (d + 1)) w W (some a) (nI c) (lo0 (decide (3 ≤ i)) + nI (mor (decide (3 ≤ i)) sz + 1)) (lo0 (decide (3 ≤ i)) + nI k) (setI M' V i y) = some (.inl (some (.int (nI (c + qcn (fun k => D sz (upE e q (lo0 (decide (3 ≤ i)) + nI k))) k j)))), setI M' V i x) := by
  have hm := mor_le' (isSet := decide (3 ≤ i)) hsz
  obtain ⟨w1, w2, w3, w4⟩ := hE.1
  have hstep : ∀ (k w c : Nat) (y : Int32), k ≤ mor (decide (3 ≤ i)) sz → fO_count_74 n D0 (mR n (d + 1)) (w + 1) W (some a) (nI c) (lo0 (decide (3 ≤ i)) + nI (mor (decide (3 ≤ i)) sz + 1)) (lo0 (decide (3 ≤ i)) + nI k) (setI M' V i y) = fO_count_74 n D0 (mR n (d + 1)) w W (some a) (nI (c + if D sz (upE e q (lo0 (decide (3 ≤ i)) + nI k)) then 1 else 0)) (lo0 (decide (3 ≤ i)) + nI (mor (decide (3 ≤ i)) sz + 1)) (lo0 (decide (3 ≤ i)) + nI (k + 1)) (setI M' V i (lo0 (decide (3 ≤ i)) + nI k)) := by
    intro k w c y hk
    have hnl : ¬ lo0 (decide (3 ≤ i)) + nI (mor (decide (3 ≤ i)) sz + 1) ≤ lo0 (decide (3 ≤ i)) + nI k := fun q => by have := (lo_le (by omega) (by omega)).mp q; omega
    have hwr : WrM W V (setI M' V i y) := ⟨w1, w2, w3, w4⟩
    have hkW : mK (setI M' V i y) W = 3 := w1
    have hkW2 : mK (setI M' V i (lo0 (decide (3 ≤ i)) + nI k)) W = 3 := w1
    have hka1 : mK (setI M' V i y) a = 4 := hka
    have hka2 : mK (setI M' V i (lo0 (decide (3 ≤ i)) + nI k)) a = 4 := hka
    have hfa2 : mP (setI M' V i (lo0 (decide (3 ≤ i)) + nI k)) a 3 = some a1 := hfa
    have hva1 : mI (setI M' V i y) a 2 = nI i := by rw [mI_setI, fu_row _ _ haV]; exact hva
    have hev : mR n (d + 1) 49 [.ref W, va_rf (some a1)] (setI M' V i (lo0 (decide (3 ≤ i)) + nI k)) = _ := h.2.2 _ sz (upE e q (lo0 (decide (3 ≤ i)) + nI k)) (agn_V h.2.1 hg w3) hsz (enm_up hE hb) (evr_up hsz hR hb hk) (d + 1) hd
    rw [fO_count_74, if_neg hnl]
    simp only [rzD_s, hka1, if_true, hkW, hva1, x_bind hwr hi, rzC_l, rzV_e, setI_again, hka2, hkW2, hfa2, hev, rzI_e, fO_count_105, lo_succ]
    cases D sz (upE e q (lo0 (decide (3 ≤ i)) + nI k)) <;> simp [b2i, nI_1]
  intro j
  induction j with
  | zero =>
    intro k w c y hk hw
    obtain ⟨w, rfl⟩ : ∃ w', w = w' + 2 := ⟨w - 2, by omega⟩
    refine ⟨lo0 (decide (3 ≤ i)) + nI k, ?_⟩
    rw [hstep k (w + 1) c y (by omega), fO_count_74, if_pos ((lo_le (by omega) (by omega)).mpr (by omega))]
    rfl
  | succ j ih =>
    intro k w c y hk hw
    obtain ⟨w, rfl⟩ : ∃ w', w = w' + 2 := ⟨w - 2, by omega⟩
    obtain ⟨x, hx⟩ := ih (k + 1) (w + 1) (c + if D sz (upE e q (lo0 (decide (3 ≤ i)) + nI k)) then 1 else 0) (lo0 (decide (3 ≤ i)) + nI k) (by omega) (by omega)
    refine ⟨x, ?_⟩
    rw [hstep k (w + 1) c y (by omega), hx]
    simp only [qcn, Nat.add_assoc]
end CCo
section CCt
variable {n W V : Nat} {M : Mem}
theorem lo0_e (i sz : Nat) : lo0 (decide (3 ≤ i)) + nI (mor (decide (3 ≤ i)) sz + 1) = lo0 (decide (3 ≤ i)) + nI (mor (decide (3 ≤ i)) sz + 1) := rfl
theorem x_cnt (hn : 200 ≤ n) {D : Nat} (hD : 230 ≤ D) {ts : List Nat} {y : FvT} (hy : sent ts = some y) {F : Nat → Prop} {a : Nat} (hR : RF n 216 W V b0 y F M a) (hW : WrM W V M) {sz : Nat} (hsz : sz ≤ 4) : ∃ M', mR n (D + 1) 48 [.ref W, va_rf (some a), .int (nI sz)] M = some (.inl (some (.int (nI (waysN y sz)))), M') ∧ M'.2 = M.2 ∧ ∀ c, c ≠ W → c ≠ V → mI M' c = mI M c := by
  obtain ⟨⟨hFa, hN, hev⟩, hkd⟩ := hR
  obtain ⟨w1, w2, w3, w4⟩ := hW
  have hWV : W ≠ V := fun h => by rw [h, w3] at w1; exact absurd w1 (by decide)
  obtain ⟨M5, hM5⟩ : ∃ M5, M5 = setI (setI M W 0 (nI sz)) W 1 (hfull sz) := ⟨_, rfl⟩
  have hI5 : ∀ c, c ≠ W → mI M5 c = mI M c := fun c hc => by rw [hM5, mI_setI, fu_row _ _ hc, mI_setI, fu_row _ _ hc]
  have h52 : M5.2 = M.2 := by rw [hM5]; rfl
  have hK5 : mK M5 = mK M := by rw [hM5]; rfl
  have hP5 : mP M5 = mP M := by rw [hM5]; rfl
  have hE : EnM W V M5 sz b0 e0 := by
    refine ⟨⟨by rw [hK5]; exact w1, by rw [hP5]; exact w2, by rw [hK5]; exact w3, by rw [hM5]; exact w4⟩, ?_, ?_, fun v q _ h => (by cases h)⟩
    · rw [hM5, mI_setI, fu_ne _ _ (fun q => (by cases q.2)), mI_setI, fu_eq]
    · rw [hM5, mI_setI, fu_eq]
  have hRv : EvR sz b0 e0 := fun v q h => (by cases h)
  have hnW : ∀ c, F c → c ≠ W := fun c hc q => by have := hN c hc; rw [q, w1] at this; exact absurd this (by decide)
  have hag : AgN F a M M5 := fun c hc => ⟨by rw [hK5], hI5 c (hnW c hc), by rw [hP5], fun _ => by rw [hP5]⟩
  have hka : mK M5 a = 4 := by rw [hK5]; exact hN a hFa
  have hfull' := full_e sz (by omega)
  rw [eO_count]
  simp only [fO_count_0, w1, if_true, rzM_e, hfull']
  rw [← hM5]
  simp only [rzD_s, hka, if_true]
  cases hk : y.1.2.2 with
  | none =>
    obtain ⟨ch, c1, c2, c3, c4⟩ := hkd.1 hk
    have hs5 : mI M5 a 0 = nI ch := by rw [hI5 a (hnW a hFa)]; exact c1
    have q65 : ¬ nI ch = 65 := fun q => c3 ((cq (by omega) 65 (by decide) rfl).mp q)
    have q69 : ¬ nI ch = 69 := fun q => c4 ((cq (by omega) 69 (by decide) rfl).mp q)
    have he : mR n D 49 [.ref W, va_rf (some a)] M5 = _ := hev M5 sz e0 hag hsz hE hRv D (by omega)
    have hw : waysN y sz = if mean y sz then 1 else 0 := by simp only [waysN, hk]
    have he : mR n D 49 [.ref W, va_rf (some a)] M5 = some (.inl (some (.int (b2i (mean y sz)))), M5) := he
    refine ⟨M5, ?_, h52, fun c h1 _ => hI5 c h1⟩
    rw [hs5, if_neg q65, if_neg q69, he, rzC_l, rzI_e, hw]
    cases mean y sz <;> rfl
  | some x =>
    obtain ⟨isA, isSet, i, q, B⟩ := x
    obtain ⟨k1, k2, k3, k4, a1, F1, k5, k6, k7, k8⟩ := hkd.2 _ _ _ _ _ hk
    have hq : q = 0 := ((sent_kn hy).2 _ _ _ _ _ hk).2
    have hs5 : mI M5 a 0 = if isA then 65 else 69 := by rw [hI5 a (hnW a hFa)]; exact k1
    have hv5 : mI M5 a 2 = nI i := by rw [hI5 a (hnW a hFa)]; exact k2
    have hf5 : mP M5 a 3 = some a1 := by rw [hP5]; exact k5
    have haV : a ≠ V := fun q => by have := hN a hFa; rw [q, w3] at this; exact absurd this (by decide)
    have hag1 : AgN F1 a1 M M5 := fun c hc => ⟨by rw [hK5], hI5 c (hnW c (k6 c hc)), by rw [hP5], fun _ => by rw [hP5]⟩
    obtain ⟨D, rfl⟩ : ∃ D', D = D' + 1 := ⟨D - 1, by omega⟩
    obtain ⟨x, hx⟩ := cnt_loop (n := n) k3 k8 (fun v q' h => (by cases h)) hka hf5 hv5 haV hag1 hsz hE hRv (d := D) (by omega) (D + 1) (mor (decide (3 ≤ i)) sz) 0 n 0 (mI M5 V i) (by omega) (by have := mor_le' (isSet := decide (3 ≤ i)) hsz; omega)
    rw [setI_self, nI_0, Int32.add_zero, Nat.zero_add] at hx
    have hw : waysN y sz = hcnt isSet sz (fun z => B sz (upE e0 0 z)) := by simp only [waysN, hk]
    refine ⟨setI M5 V i x, ?_, h52, fun c h1 h2 => by rw [mI_setI, fu_row _ _ h2]; exact hI5 c h1⟩
    have e46 : fO_count_46 n (D + 1) (mR n (D + 1)) W (some a) (nI sz) M5 = some (.inl (some (.int (nI (waysN y sz)))), setI M5 V i x) := by
      simp only [fO_count_46, rzD_s, hka, if_true, hv5, x_firstChoice k3, rzC_l, rzI_e, x_choices k3 hsz, hx]
      rw [hw, k4, hq]
      rfl
    rw [hs5]
    cases isA
    · rw [if_neg (by decide), if_pos (show (if false = true then (65 : Int32) else 69) = 69 from rfl)]; exact e46
    · rw [if_pos rfl]; exact e46
end CCt
