/-! what the pieces in memory come to: formulas -/
def EvF (n H W V : Nat) (F : Nat → Prop) (M : Mem) (b : Bd) (a : Nat) (D : DF) : Prop := F a ∧ Nds F M ∧ ∀ M' sz e, AgN F a M M' → sz ≤ 4 → EnM W V M' sz b e → EvR sz b e → ∀ d, H ≤ d → mR n d 49 [.ref W, .ref a] M' = some (.inl (some (.int (b2i (D sz e)))), M')
theorem EvF.mono {n H H' W V : Nat} {F : Nat → Prop} {M : Mem} {b : Bd} {a : Nat} {D : DF} (h : EvF n H W V F M b a D) (hh : H ≤ H') : EvF n H' W V F M b a D := ⟨h.1, h.2.1, fun M' sz e g1 g2 g3 g4 d hd => h.2.2 M' sz e g1 g2 g3 g4 d (by omega)⟩
theorem agn_tr {F : Nat → Prop} {a : Nat} {M M1 M' : Mem} (hg : AgN F a M M1) (g1 : AgN F a M1 M') : AgN F a M M' := fun c hc => ⟨(g1 c hc).1.trans (hg c hc).1, (g1 c hc).2.1.trans (hg c hc).2.1, (g1 c hc).2.2.1.trans (hg c hc).2.2.1, fun q => ((g1 c hc).2.2.2 q).trans ((hg c hc).2.2.2 q)⟩
theorem EvF.fr {n H W V : Nat} {F : Nat → Prop} {M M1 : Mem} {b : Bd} {a : Nat} {D : DF} (h : EvF n H W V F M b a D) (hg : AgN F a M M1) : EvF n H W V F M1 b a D :=
  ⟨h.1, fun c hc => (hg c hc).1.trans (h.2.1 c hc), fun M' sz e g1 g2 g3 g4 d hd => h.2.2 M' sz e (agn_tr hg g1) g2 g3 g4 d hd⟩
theorem fb_b (x : Bool) : fits .boolean (.int (b2i x)) = true := by cases x <;> rfl
theorem b2i_eq (x y : Bool) : b2i x = b2i y ↔ x = y := by cases x <;> cases y <;> decide
theorem setI_back (M : Mem) (c j : Nat) (x : Int32) : setI (setI M c j x) c j (mI M c j) = M := by
  refine Prod.ext ?_ rfl
  funext p i
  show (if p = c ∧ i = j then mI M c j else (if p = c ∧ i = j then x else M.1 p i)) = M.1 p i
  by_cases h : p = c ∧ i = j
  · rw [if_pos h, h.1, h.2]; rfl
  · rw [if_neg h, if_neg h]
theorem setI_again (M : Mem) (c j : Nat) (x y : Int32) : setI (setI M c j x) c j y = setI M c j y := by
  refine Prod.ext ?_ rfl
  funext p i
  show (if p = c ∧ i = j then y else (if p = c ∧ i = j then x else M.1 p i)) = if p = c ∧ i = j then y else M.1 p i
  by_cases h : p = c ∧ i = j
  · rw [if_pos h, if_pos h]
  · rw [if_neg h, if_neg h, if_neg h]
theorem setI_self (M : Mem) (c j : Nat) : setI M c j (mI M c j) = M := by
  refine Prod.ext ?_ rfl
  funext p i
  show (if p = c ∧ i = j then mI M c j else M.1 p i) = M.1 p i
  by_cases h : p = c ∧ i = j
  · rw [if_pos h, h.1, h.2]; rfl
  · rw [if_neg h]
section EvFo
variable {n W V : Nat} {M : Mem} {b : Bd}
theorem f_not {H : Nat} {F : Nat → Prop} {a a1 : Nat} {D : DF} (hk : mK M a = 4) (hs : mI M a 0 = 33) (hf : mP M a 3 = some a1) (h : EvF n H W V F M b a1 D) (hna : ¬ F a) : EvF n (H + 1) W V (fU (fS1 a) F) M b a (fun sz e => !(D sz e)) := by
  refine ⟨Or.inl rfl, nds_u (nds_1 hk) h.2.1, fun M' sz e hg hsz hE hR d hd => ?_⟩
  obtain ⟨d, rfl⟩ : ∃ d', d = d' + 1 := ⟨d - 1, by omega⟩
  obtain ⟨g1, g2, g3, g4⟩ := hg a (Or.inl rfl)
  have h1 : mR n d 49 [.ref W, va_rf (some a1)] M' = _ := h.2.2 M' sz e (agn_sub hg hna) hsz hE hR d (by omega)
  show mR n (d + 1) 49 [.ref W, va_rf (some a)] M' = _
  rw [eO_isTrue, fO_isTrue_0, rzN_s, g1, g2, g3, hk, hs, hf, if_pos rfl, if_pos rfl, hE.1.1, if_pos rfl, h1, rzC_l, rzI_e]
  show _ = some (Sum.inl (some (Value.int (b2i (!(D sz e))))), M')
  cases D sz e <;> rfl
theorem f_par {H : Nat} {F : Nat → Prop} {a a1 : Nat} {D : DF} (hk : mK M a = 4) (hs : mI M a 0 = 40) (hf : mP M a 3 = some a1) (h : EvF n H W V F M b a1 D) (hna : ¬ F a) : EvF n (H + 1) W V (fU (fS1 a) F) M b a D := by
  refine ⟨Or.inl rfl, nds_u (nds_1 hk) h.2.1, fun M' sz e hg hsz hE hR d hd => ?_⟩
  obtain ⟨d, rfl⟩ : ∃ d', d = d' + 1 := ⟨d - 1, by omega⟩
  obtain ⟨g1, g2, g3, g4⟩ := hg a (Or.inl rfl)
  have h1 : mR n d 49 [.ref W, va_rf (some a1)] M' = _ := h.2.2 M' sz e (agn_sub hg hna) hsz hE hR d (by omega)
  show mR n (d + 1) 49 [.ref W, va_rf (some a)] M' = _
  rw [eO_isTrue, fO_isTrue_0, rzN_s, g1, g2, g3, hk, hs, hf, if_pos rfl, if_neg (by decide), if_neg (by decide), if_pos rfl, hE.1.1, if_pos rfl, h1, rzC_l, rzI_e, if_pos (fb_b _)]
/-- a row of formulas from a to z: is one of them s -/
def SgF (n H W V : Nat) (F : Nat → Prop) (M : Mem) (b : Bd) (s : Bool) (a z L : Nat) (D : DF) : Prop := F z ∧ Nds F M ∧ ∀ M' sz e, AgN F z M M' → sz ≤ 4 → EnM W V M' sz b e → EvR sz b e → ∀ d, H ≤ d → ∀ (D0 w : Nat), fO_anyIs_2 n D0 (mR n d) (w + L) W (b2i s) (some a) M' = if D sz e = s then some (.inl (some (.int 1)), M') else fO_anyIs_2 n D0 (mR n d) w W (b2i s) (mP M' z 4) M'
theorem sgf_1 {H : Nat} {F : Nat → Prop} {a : Nat} {D : DF} (s : Bool) (h : EvF n H W V F M b a D) : SgF n H W V F M b s a a 1 D := by
  refine ⟨h.1, h.2.1, fun M' sz e hg hsz hE hR d hd D0 w => ?_⟩
  have h1 : mR n d 49 [.ref W, va_rf (some a)] M' = _ := h.2.2 M' sz e hg hsz hE hR d hd
  have hk : mK M' a = 4 := (hg a h.1).1.trans (h.2.1 a h.1)
  rw [fO_anyIs_2]
  simp only [rzN_s, hE.1.1, if_true, h1, rzC_l, rzI_e, rzD_s, hk]
  by_cases hc : D sz e = s
  · rw [if_pos ((b2i_eq _ _).mpr hc), if_pos hc]; rfl
  · rw [if_neg (fun q => hc ((b2i_eq _ _).mp q)), if_neg hc]
theorem sgf_app {H : Nat} {F G : Nat → Prop} {s : Bool} {a z a2 L : Nat} {D D2 D3 : DF} {M1 : Mem} (h : SgF n H W V F M1 b s a z L D) (hag : AgN F z M1 M) (h2 : EvF n H W V G M b a2 D2) (hd : ∀ x, F x → ¬ G x) (hz : mP M z 4 = some a2) (h3 : ∀ sz e, D3 sz e = s ↔ (D sz e = s ∨ D2 sz e = s)) : SgF n H W V (fU F G) M b s a a2 (L + 1) D3 := by
  have hNF : Nds F M := fun c hc => (hag c hc).1.trans (h.2.1 c hc)
  refine ⟨Or.inr h2.1, nds_u hNF h2.2.1, fun M' sz e hg hsz hE hR d hdp D0 w => ?_⟩
  have k1 := h.2.2 M' sz e (agn_l hag hg hd h2.1) hsz hE hR d hdp D0 (w + 1)
  have hz' : mP M' z 4 = some a2 := ((hg z (Or.inl h.1)).2.2.2 (fun q => hd z h.1 (q ▸ h2.1))).trans hz
  have k2 := (sgf_1 s h2).2.2 M' sz e (agn_r hg) hsz hE hR d hdp D0 w
  rw [show w + (L + 1) = w + 1 + L by omega, k1, hz', k2]
  by_cases c1 : D sz e = s
  · rw [if_pos c1, if_pos ((h3 sz e).mpr (Or.inl c1))]
  · rw [if_neg c1]
    by_cases c2 : D2 sz e = s
    · rw [if_pos c2, if_pos ((h3 sz e).mpr (Or.inr c2))]
    · rw [if_neg c2, if_neg (fun q => ((h3 sz e).mp q).elim c1 c2)]
theorem f_row {H L : Nat} {F : Nat → Prop} {a a1 z : Nat} {D : DF} {M1 : Mem} (s : Bool) (hk : mK M a = 4) (hs : mI M a 0 = if s then 124 else 38) (hf : mP M a 3 = some a1) (h : SgF n H W V F M1 b s a1 z L D) (hag : AgN F z M1 M) (hna : ¬ F a) (hz : mP M z 4 = none) (hL : L < n) : EvF n (H + 2) W V (fU (fS1 a) F) M b a D := by
  have hNF : Nds F M := fun c hc => (hag c hc).1.trans (h.2.1 c hc)
  refine ⟨Or.inl rfl, nds_u (nds_1 hk) hNF, fun M' sz e hg hsz hE hR d hd => ?_⟩
  obtain ⟨d, rfl⟩ : ∃ d', d = d' + 2 := ⟨d - 2, by omega⟩
  obtain ⟨g1, g2, g3, g4⟩ := hg a (Or.inl rfl)
  have hag' : AgN F z M M' := agn_sub hg hna
  have hz' : mP M' z 4 = none := ((hg z (Or.inr h.1)).2.2.2 (fun q => hna (q ▸ h.1))).trans hz
  have k1 := h.2.2 M' sz e (agn_tr hag hag') hsz hE hR d (by omega) d (n - L - 1 + 1)
  rw [show n - L - 1 + 1 + L = n by omega, hz'] at k1
  have hu : mR n (d + 1) 50 [.ref W, .int (b2i s), va_rf (some a1)] M' = some (.inl (some (.int (b2i (decide (D sz e = s))))), M') := by
    rw [eO_anyIs, fO_anyIs_0, k1]
    by_cases c : D sz e = s
    · rw [if_pos c, decide_eq_true c]; rfl
    · rw [if_neg c, decide_eq_false c, fO_anyIs_2, rzN_n]; rfl
  show mR n (d + 2) 49 [.ref W, va_rf (some a)] M' = _
  cases s with
  | true =>
    have hs : mI M a 0 = 124 := hs
    have hu' : mR n (d + 1) 50 [.ref W, .int 1, va_rf (some a1)] M' = _ := hu
    rw [eO_isTrue, fO_isTrue_0, rzN_s, g1, g2, g3, hk, hs, hf, if_pos rfl, if_neg (by decide), if_neg (by decide), if_neg (by decide), if_neg (by decide), if_neg (by decide), if_neg (by decide), if_neg (by decide), if_pos rfl, hE.1.1, if_pos rfl, hu', rzC_l, rzI_e, if_pos (fb_b _)]
    cases D sz e <;> rfl
  | false =>
    have hs : mI M a 0 = 38 := hs
    have hu' : mR n (d + 1) 50 [.ref W, .int 0, va_rf (some a1)] M' = _ := hu
    rw [eO_isTrue, fO_isTrue_0, rzN_s, g1, g2, g3, hk, hs, hf, if_pos rfl, if_neg (by decide), if_pos rfl, hE.1.1, if_pos rfl, hu', rzC_l, rzI_e]
    cases D sz e <;> rfl
/-- comparisons of sets -/
theorem f_sets {H : Nat} {F G : Nat → Prop} {a l r : Nat} {D1 D2 : Dn} (lt : Bool) (hk : mK M a = 4) (hs : mI M a 0 = if lt then 91 else 93) (hf : mP M a 3 = some l) (h1 : EvS n H W V F M b l D1) (h2 : EvS n H W V G M b r D2) (hlr : mP M l 4 = some r) (hna : ¬ F a) (hnb : ¬ G a) : EvF n (H + 2) W V (fU (fS1 a) (fU F G)) M b a (fun sz e => if lt then decide (D1 sz e &&& hnot (D2 sz e) = 0) else decide (D1 sz e = D2 sz e)) := by
  refine ⟨Or.inl rfl, nds_u (nds_1 hk) (nds_u h1.2.1 h2.2.1), fun M' sz e hg hsz hE hR d hd => ?_⟩
  obtain ⟨d, rfl⟩ : ∃ d', d = d' + 2 := ⟨d - 2, by omega⟩
  obtain ⟨g1, g2, g3, g4⟩ := hg a (Or.inl rfl)
  have hnu : ¬ fU F G a := fun q => q.elim hna hnb
  have ag1 : AgN F l M M' := fun x hx => (agn_sub (c := l) hg hnu) x (Or.inl hx)
  have ag2 : AgN G r M M' := fun x hx => (agn_sub (c := r) hg hnu) x (Or.inr hx)
  have hl4 : mP M' l 4 = some r := ((hg l (Or.inr (Or.inl h1.1))).2.2.2 (fun q => hna (q ▸ h1.1))).trans hlr
  have hkl : mK M' l = 4 := (ag1 l h1.1).1.trans (h1.2.1 l h1.1)
  have k1 : mR n d 57 [.ref W, va_rf (some l)] M' = _ := h1.2.2 M' sz e ag1 hsz hE hR d (by omega)
  have k2 : mR n d 57 [.ref W, va_rf (some r)] M' = _ := h2.2.2 M' sz e ag2 hsz hE hR d (by omega)
  have hka : mK M' a = 4 := g1.trans hk
  have hpa : mP M' a 3 = some l := g3.trans hf
  cases lt with
  | true =>
    have hs : mI M' a 0 = 91 := by rw [g2]; exact hs
    have hu : mR n (d + 1) 56 [.ref W, va_rf (some a)] M' = some (.inl (some (.int (b2i (decide (D1 sz e &&& hnot (D2 sz e) = 0))))), M') := by
      rw [eO_isTrueOfSets]
      simp only [fO_isTrueOfSets_0, fO_isTrueOfSets_64, rzD_s, hka, if_true, hpa, rzN_s, hE.1.1, k1, rzC_l, rzI_e, hkl, hl4, k2, hs, fbb0, fbb1]
      by_cases c : D1 sz e &&& hnot (D2 sz e) = 0
      · rw [decide_eq_true c]; exact if_pos c
      · rw [decide_eq_false c]; exact if_neg c
    show mR n (d + 2) 49 [.ref W, va_rf (some a)] M' = _
    rw [eO_isTrue, fO_isTrue_0, rzN_s, hka, hs, if_pos rfl, if_neg (by decide), if_neg (by decide), if_neg (by decide), if_neg (by decide), if_neg (by decide), if_pos rfl, fO_isTrue_160, hE.1.1, if_pos rfl, hu, rzC_l, rzI_e, if_pos (fb_b _)]
    rfl
  | false =>
    have hs : mI M' a 0 = 93 := by rw [g2]; exact hs
    have n91 : ¬ (93 : Int32) = 91 := by decide
    have hu : mR n (d + 1) 56 [.ref W, va_rf (some a)] M' = some (.inl (some (.int (b2i (decide (D1 sz e = D2 sz e))))), M') := by
      rw [eO_isTrueOfSets]
      simp only [fO_isTrueOfSets_0, fO_isTrueOfSets_64, rzD_s, hka, if_true, hpa, rzN_s, hE.1.1, k1, rzC_l, rzI_e, hkl, hl4, k2, hs, if_neg n91, fbb0, fbb1]
      by_cases c : D1 sz e = D2 sz e
      · rw [decide_eq_true c]; exact if_pos c
      · rw [decide_eq_false c]; exact if_neg c
    show mR n (d + 2) 49 [.ref W, va_rf (some a)] M' = _
    rw [eO_isTrue, fO_isTrue_0, rzN_s, hka, hs, if_pos rfl, if_neg (by decide), if_neg (by decide), if_neg (by decide), if_neg (by decide), if_neg (by decide), if_neg (by decide), if_pos rfl, fO_isTrue_160, hE.1.1, if_pos rfl, hu, rzC_l, rzI_e, if_pos (fb_b _)]
    rfl
/-- what a sum says -/
theorem f_sum {H L : Nat} {F : Nat → Prop} {a ch : Nat} {r : Option Nat} {D : Dn} {Q : DF} (hk : mK M a = 4) (hs : mI M a 0 = nI ch) (hch : ch = 60 ∨ ch = 61 ∨ ch = 58) (hf : mP M a 3 = r) (h : ChZ n H W V F M b r L D) (hna : ¬ F a) (hL : L < n)
    (hq : ∀ sz e, sz ≤ 4 → EvR sz b e → (ch = 60 → (Q sz e = true ↔ ¬ 0 ≤ D sz e)) ∧ (ch = 61 → (Q sz e = true ↔ D sz e = 0)) ∧ (ch = 58 → ¬ mI M a 1 = 0 ∧ (Q sz e = true ↔ D sz e - D sz e / mI M a 1 * mI M a 1 = 0))) : EvF n (H + 2) W V (fU (fS1 a) F) M b a Q := by
  refine ⟨Or.inl rfl, nds_u (nds_1 hk) h.1, fun M' sz e hg hsz hE hR d hd => ?_⟩
  obtain ⟨d, rfl⟩ : ∃ d', d = d' + 2 := ⟨d - 2, by omega⟩
  obtain ⟨g1, g2, g3, g4⟩ := hg a (Or.inl rfl)
  have ag : AgZ F M M' := fun x hx => by
    have hxa : x ≠ a := fun q => hna (q ▸ hx)
    have g := hg x (Or.inr hx)
    exact ⟨g.1, g.2.1, g.2.2.1, g.2.2.2 hxa⟩
  have hka : mK M' a = 4 := g1.trans hk
  have hpa : mP M' a 3 = r := g3.trans hf
  have hsa : mI M' a 0 = nI ch := by rw [g2]; exact hs
  have hia : mI M' a 1 = mI M a 1 := by rw [g2]
  have k1 := h.2 M' sz e ag hsz hE hR d (by omega) d (n - L - 1 + 1) (some a) 0
  rw [show n - L - 1 + 1 + L = n by omega, Int32.zero_add] at k1
  obtain ⟨q60, q61, q58⟩ := hq sz e hsz hR
  have hu : mR n (d + 1) 60 [.ref W, va_rf (some a)] M' = some (.inl (some (.int (b2i (Q sz e)))), M') := by
    rw [eO_isTrueOfSum, fO_isTrueOfSum_0, rzD_s, hka, if_pos rfl, hpa, k1, fO_isTrueOfSum_7, rzN_n, rzD_s, hka, if_pos rfl, hsa, hia]
    rcases hch with rfl | rfl | rfl
    · have hq' := q60 rfl
      rw [if_pos (show nI 60 = 60 from rfl)]
      by_cases c : 0 ≤ D sz e
      · have hQ : Q sz e = false := by cases hQ : Q sz e with
          | false => rfl
          | true => exact absurd c (hq'.mp hQ)
        rw [if_pos c, hQ]; rfl
      · rw [if_neg c, hq'.mpr c]; rfl
    · have hq' := q61 rfl
      rw [if_neg (by decide), if_pos (show nI 61 = 61 from rfl)]
      by_cases c : D sz e = 0
      · rw [if_pos c, hq'.mpr c]; rfl
      · have hQ : Q sz e = false := by cases hQ : Q sz e with
          | false => rfl
          | true => exact absurd (hq'.mp hQ) c
        rw [if_neg c, hQ]; rfl
    · obtain ⟨hz, hq'⟩ := q58 rfl
      rw [if_neg (by decide), if_neg (by decide), if_neg hz, if_pos hz]
      by_cases c : D sz e - D sz e / mI M a 1 * mI M a 1 = 0
      · rw [if_pos c, hq'.mpr c]; rfl
      · have hQ : Q sz e = false := by cases hQ : Q sz e with
          | false => rfl
          | true => exact absurd (hq'.mp hQ) c
        rw [if_neg c, hQ]; rfl
  show mR n (d + 2) 49 [.ref W, va_rf (some a)] M' = _
  have hch' : ch = 60 ∨ ch = 61 ∨ ch = 58 := hch
  have nn : ∀ k : Nat, k < 1000 → k ≠ 60 → k ≠ 61 → k ≠ 58 → ∀ x : Int32, x = nI k → ¬ nI ch = x := fun k hk a1 a2 a3 x hx q => by
    have := (cq (by omega) k hk hx).mp q
    omega
  rw [eO_isTrue, fO_isTrue_0, rzN_s, hka, hsa, if_pos rfl, if_neg (nn 33 (by omega) (by omega) (by omega) (by omega) 33 rfl), if_neg (nn 38 (by omega) (by omega) (by omega) (by omega) 38 rfl), if_neg (nn 40 (by omega) (by omega) (by omega) (by omega) 40 rfl), if_neg (nn 65 (by omega) (by omega) (by omega) (by omega) 65 rfl), if_neg (nn 69 (by omega) (by omega) (by omega) (by omega) 69 rfl), if_neg (nn 91 (by omega) (by omega) (by omega) (by omega) 91 rfl), if_neg (nn 93 (by omega) (by omega) (by omega) (by omega) 93 rfl), if_neg (nn 124 (by omega) (by omega) (by omega) (by omega) 124 rfl), hE.1.1, if_pos rfl, hu, rzC_l, rzI_e, if_pos (fb_b _)]
/-- the first choice and how many there are -/
theorem x_firstChoice {d i : Nat} (hi : i < 6) (M' : Mem) : mR n (d + 1) 53 [.int (nI i)] M' = some (.inl (some (.int (lo0 (decide (3 ≤ i))))), M') := by
  rw [eO_firstChoice]
  have h3 : ((3 : Int32) ≤ nI i) ↔ 3 ≤ i := nI_leI (a := 3) (by decide) (by omega)
  unfold fO_firstChoice_0 fO_firstChoice_11
  by_cases c : 3 ≤ i
  · rw [if_pos (h3.mpr c), decide_eq_true c]; rfl
  · rw [if_neg (fun q => c (h3.mp q)), decide_eq_false c]; rfl
theorem x_choices {d i sz : Nat} (hi : i < 6) (hsz : sz ≤ 4) (M' : Mem) : mR n (d + 1) 54 [.int (nI i), .int (nI sz)] M' = some (.inl (some (.int (nI (mor (decide (3 ≤ i)) sz + 1)))), M') := by
  rw [eO_choices]
  have h3 : ((3 : Int32) ≤ nI i) ↔ 3 ≤ i := nI_leI (a := 3) (by decide) (by omega)
  have hsh : ∀ k, k < 5 → (1 : Int32) <<< (nI k &&& 31) = nI (mor true k + 1) := by decide +kernel
  unfold fO_choices_0 fO_choices_13
  by_cases c : 3 ≤ i
  · rw [if_pos (h3.mpr c), decide_eq_true c, hsh sz (by omega)]
  · rw [if_neg (fun q => c (h3.mp q)), decide_eq_false c]; rfl
theorem lo_le {isSet : Bool} {j k : Nat} (hj : j < 18) (hk : k < 18) : (lo0 isSet + nI j ≤ lo0 isSet + nI k) ↔ j ≤ k := by
  have h1 : ∀ j, j < 18 → ∀ k, k < 18 → ((lo0 true + nI j ≤ lo0 true + nI k) ↔ j ≤ k) := by decide +kernel
  have h2 : ∀ j, j < 18 → ∀ k, k < 18 → ((lo0 false + nI j ≤ lo0 false + nI k) ↔ j ≤ k) := by decide +kernel
  cases isSet
  · exact h2 j hj k hk
  · exact h1 j hj k hk
theorem mor_le' {isSet : Bool} {sz : Nat} (h : sz ≤ 4) : mor isSet sz ≤ 16 := mor_le h
theorem evr_up {sz i q k : Nat} {e : Ev} (hsz : sz ≤ 4) (hR : EvR sz b e) (hb : ∀ v q', b v = some q' → q' < q) (hk : k ≤ mor (decide (3 ≤ i)) sz) : EvR sz (fun j => if j = i then some q else b j) (upE e q (lo0 (decide (3 ≤ i)) + nI k)) := by
  intro v q' hv
  simp only at hv
  by_cases hvi : v = i
  · rw [if_pos hvi] at hv
    cases hv
    have he : upE e q (lo0 (decide (3 ≤ i)) + nI k) q = lo0 (decide (3 ≤ i)) + nI k := by simp [upE]
    rw [he, hvi]
    refine ⟨fun h3 => ?_, fun h3 => ?_⟩
    · rw [decide_eq_true h3] at hk ⊢
      have : ∀ s, s < 5 → ∀ k, k < 17 → k ≤ mor true s → hfull s &&& (lo0 true + nI k) = lo0 true + nI k := by decide +kernel
      exact this sz (by omega) k (by have := mor_le' (isSet := true) hsz; omega) hk
    · rw [decide_eq_false (show ¬ 3 ≤ i by omega)] at hk ⊢
      have : ∀ k, k < 17 → -8 ≤ (lo0 false + nI k).toInt ∧ (lo0 false + nI k).toInt ≤ 8 := by decide +kernel
      exact this k (by have := mor_le' (isSet := false) hsz; omega)
  · rw [if_neg hvi] at hv
    have hne : q' ≠ q := by have := hb v q' hv; omega
    have he : upE e q (lo0 (decide (3 ≤ i)) + nI k) q' = e q' := by simp [upE, hne]
    rw [he]
    exact hR v q' hv
theorem enm_up {sz i q : Nat} {e : Ev} {M' : Mem} {z : Int32} (hE : EnM W V M' sz b e) (hb : ∀ v q', b v = some q' → q' < q) : EnM W V (setI M' V i z) sz (fun j => if j = i then some q else b j) (upE e q z) := by
  obtain ⟨⟨w1, w2, w3, w4⟩, e1, e2, e3⟩ := hE
  have hWV : W ≠ V := fun h => by rw [h, w3] at w1; exact absurd w1 (by decide)
  refine ⟨⟨w1, w2, w3, w4⟩, ?_, ?_, fun v q' hv6 hv => ?_⟩
  · rw [mI_setI, fu_row _ _ hWV]; exact e1
  · rw [mI_setI, fu_row _ _ hWV]; exact e2
  · rw [mI_setI]
    simp only at hv
    by_cases hvi : v = i
    · rw [if_pos hvi] at hv
      cases hv
      rw [hvi, fu_eq]
      simp [upE]
    · rw [if_neg hvi] at hv
      have hne : q' ≠ q := by have := hb v q' hv; omega
      rw [fu_ne _ _ (fun h => hvi h.2)]
      simp only [upE, if_neg hne]
      exact e3 v q' hv6 hv
theorem agn_V {F : Nat → Prop} {a : Nat} {M' : Mem} {i : Nat} {z : Int32} (hN : Nds F M) (hg : AgN F a M M') (hV : mK M' V = 21) : AgN F a M (setI M' V i z) := fun c hc => by
  have hcV : c ≠ V := fun q => by
    have := (hg c hc).1.trans (hN c hc)
    rw [q, hV] at this
    exact absurd this (by decide)
  obtain ⟨g1, g2, g3, g4⟩ := hg c hc
  exact ⟨g1, by rw [mI_setI, fu_row _ _ hcV]; exact g2, g3, g4⟩
theorem qnt_loop {H : Nat} {F : Nat → Prop} {a a1 i q : Nat} {D : DF} (s : Bool) (hi : i < 6) (hf : mP M a 3 = some a1) (h : EvF n H W V F M (fun j => if j = i then some q else b j) a1 D) (hb : ∀ v q', b v = some q' → q' < q) {M' : Mem} {sz : Nat} {e : Ev} (hka : mK M' a = 4) (hfa : mP M' a 3 = some a1) (hg : AgN F a1 M M') (hsz : sz ≤ 4) (hE : EnM W V M' sz b e) (hR : EvR sz b e) {d : Nat} (hd : H ≤ d + 1) (D0 : Nat) : ∀ (j k w : Nat) (y : Int32), k + j = mor (decide (3 ≤ i)) sz → j + 2 ≤ w →
    fO_anyChoiceMakes_38 n D0 (mR n (d + 1)) w W (b2i s) (some a) (nI i) (mI M' V i) (lo0 (decide (3 ≤ i)) + nI (mor (decide (3 ≤ i)) sz + 1)) 0 (lo0 (decide (3 ≤ i)) + nI k) (setI M' V i y) = some (.inl (some (.int (b2i (decide (qfr (!s) (fun k => D sz (upE e q (lo0 (decide (3 ≤ i)) + nI k))) k j = s))))), M') := by
  have hm := mor_le' (isSet := decide (3 ≤ i)) hsz
  obtain ⟨w1, w2, w3, w4⟩ := hE.1
  have n1 : ¬ (1 : Int32) = 0 := by decide
  have hbk : ∀ (x : Int32) (y : Int32), fO_anyChoiceMakes_82 n D0 (mR n (d + 1)) W (nI i) (mI M' V i) x (setI M' V i y) = if fits .boolean (.int x) = true then some (.inl (some (.int x)), M') else none := fun x y => by
    have hwr : WrM W V (setI M' V i y) := ⟨w1, w2, w3, w4⟩
    have hk : mK (setI M' V i y) W = 3 := w1
    simp only [fO_anyChoiceMakes_82, hk, if_true, x_bind hwr hi, rzC_l, rzV_e, setI_back]
  have hend : ∀ (w : Nat) (x : Int32) (z y : Int32), (x = 1) → fO_anyChoiceMakes_38 n D0 (mR n (d + 1)) (w + 1) W (b2i s) (some a) (nI i) (mI M' V i) (lo0 (decide (3 ≤ i)) + nI (mor (decide (3 ≤ i)) sz + 1)) x z (setI M' V i y) = some (.inl (some (.int 1)), M') := fun w x z y hx => by
    subst hx
    rw [fO_anyChoiceMakes_38]
    split
    · rw [hbk]; rfl
    · first | (rw [if_neg n1, hbk]; rfl) | (rw [hbk]; rfl)
  intro j
  induction j with
  | zero =>
    intro k w y hk hw
    obtain ⟨w, rfl⟩ : ∃ w', w = w' + 2 := ⟨w - 2, by omega⟩
    have hnl : ¬ lo0 (decide (3 ≤ i)) + nI (mor (decide (3 ≤ i)) sz + 1) ≤ lo0 (decide (3 ≤ i)) + nI k := fun q => by have := (lo_le (by omega) (by omega)).mp q; omega
    have hwr : WrM W V (setI M' V i y) := ⟨w1, w2, w3, w4⟩
    have hkW : mK (setI M' V i y) W = 3 := w1
    have hkW2 : mK (setI M' V i (lo0 (decide (3 ≤ i)) + nI k)) W = 3 := w1
    have hka2 : mK (setI M' V i (lo0 (decide (3 ≤ i)) + nI k)) a = 4 := hka
    have hfa2 : mP (setI M' V i (lo0 (decide (3 ≤ i)) + nI k)) a 3 = some a1 := hfa
    have hev : mR n (d + 1) 49 [.ref W, va_rf (some a1)] (setI M' V i (lo0 (decide (3 ≤ i)) + nI k)) = _ := h.2.2 _ sz (upE e q (lo0 (decide (3 ≤ i)) + nI k)) (agn_V h.2.1 hg w3) hsz (enm_up hE hb) (evr_up hsz hR hb (by omega)) (d + 1) hd
    rw [show qfr (!s) (fun k => D sz (upE e q (lo0 (decide (3 ≤ i)) + nI k))) k 0 = D sz (upE e q (lo0 (decide (3 ≤ i)) + nI k)) from rfl, fO_anyChoiceMakes_38, if_neg hnl, if_pos rfl]
    simp only [hkW, if_true, x_bind hwr hi, rzC_l, rzV_e, setI_again, rzD_s, hka2, hkW2, hfa2, hev, rzI_e, fO_anyChoiceMakes_74]
    by_cases c : D sz (upE e q (lo0 (decide (3 ≤ i)) + nI k)) = s
    · rw [if_pos ((b2i_eq _ _).mpr c), decide_eq_true c, hend w 1 _ _ rfl]; rfl
    · rw [if_neg (fun q => c ((b2i_eq _ _).mp q)), decide_eq_false c, fO_anyChoiceMakes_38, lo_succ, if_pos ((lo_le (by omega) (by omega)).mpr (by omega)), hbk]; rfl
  | succ j ih =>
    intro k w y hk hw
    obtain ⟨w, rfl⟩ : ∃ w', w = w' + 2 := ⟨w - 2, by omega⟩
    have hnl : ¬ lo0 (decide (3 ≤ i)) + nI (mor (decide (3 ≤ i)) sz + 1) ≤ lo0 (decide (3 ≤ i)) + nI k := fun q => by have := (lo_le (by omega) (by omega)).mp q; omega
    have hwr : WrM W V (setI M' V i y) := ⟨w1, w2, w3, w4⟩
    have hkW : mK (setI M' V i y) W = 3 := w1
    have hkW2 : mK (setI M' V i (lo0 (decide (3 ≤ i)) + nI k)) W = 3 := w1
    have hka2 : mK (setI M' V i (lo0 (decide (3 ≤ i)) + nI k)) a = 4 := hka
    have hfa2 : mP (setI M' V i (lo0 (decide (3 ≤ i)) + nI k)) a 3 = some a1 := hfa
    have hev : mR n (d + 1) 49 [.ref W, va_rf (some a1)] (setI M' V i (lo0 (decide (3 ≤ i)) + nI k)) = _ := h.2.2 _ sz (upE e q (lo0 (decide (3 ≤ i)) + nI k)) (agn_V h.2.1 hg w3) hsz (enm_up hE hb) (evr_up hsz hR hb (by omega)) (d + 1) hd
    have hqs : qfr (!s) (fun k => D sz (upE e q (lo0 (decide (3 ≤ i)) + nI k))) k (j + 1) = if (!s) = true then D sz (upE e q (lo0 (decide (3 ≤ i)) + nI k)) && qfr (!s) (fun k => D sz (upE e q (lo0 (decide (3 ≤ i)) + nI k))) (k + 1) j else D sz (upE e q (lo0 (decide (3 ≤ i)) + nI k)) || qfr (!s) (fun k => D sz (upE e q (lo0 (decide (3 ≤ i)) + nI k))) (k + 1) j := rfl
    have hih := ih (k + 1) (w + 1) (lo0 (decide (3 ≤ i)) + nI k) (by omega) (by omega)
    rw [hqs, fO_anyChoiceMakes_38, if_neg hnl, if_pos rfl]
    simp only [hkW, if_true, x_bind hwr hi, rzC_l, rzV_e, setI_again, rzD_s, hka2, hkW2, hfa2, hev, rzI_e, fO_anyChoiceMakes_74]
    by_cases c : D sz (upE e q (lo0 (decide (3 ≤ i)) + nI k)) = s
    · rw [if_pos ((b2i_eq _ _).mpr c), hend w 1 _ _ rfl]
      rw [c]
      cases s <;> simp [b2i]
    · rw [if_neg (fun q => c ((b2i_eq _ _).mp q)), lo_succ, hih]
      have c' : D sz (upE e q (lo0 (decide (3 ≤ i)) + nI k)) = !s := by
        cases hD : D sz (upE e q (lo0 (decide (3 ≤ i)) + nI k)) <;> cases hs : s <;> simp_all
      rw [c']
      cases s <;> simp
theorem f_qnt {H : Nat} {F : Nat → Prop} {a a1 i q : Nat} {D : DF} (al : Bool) (hk : mK M a = 4) (hs : mI M a 0 = if al then 65 else 69) (hv : mI M a 2 = nI i) (hi : i < 6) (hf : mP M a 3 = some a1) (h : EvF n H W V F M (fun j => if j = i then some q else b j) a1 D) (hna : ¬ F a) (hb : ∀ v q', b v = some q' → q' < q) (hn : 20 ≤ n) : EvF n (H + 3) W V (fU (fS1 a) F) M b a (fun sz e => hqnt al (decide (3 ≤ i)) sz (fun z => D sz (upE e q z))) := by
  refine ⟨Or.inl rfl, nds_u (nds_1 hk) h.2.1, fun M' sz e hg hsz hE hR d hd => ?_⟩
  obtain ⟨d, rfl⟩ : ∃ d', d = d' + 3 := ⟨d - 3, by omega⟩
  obtain ⟨g1, g2, g3, g4⟩ := hg a (Or.inl rfl)
  have hka : mK M' a = 4 := g1.trans hk
  have hfa : mP M' a 3 = some a1 := g3.trans hf
  have hva : mI M' a 2 = nI i := by rw [g2]; exact hv
  have hm := mor_le' (isSet := decide (3 ≤ i)) hsz
  have hlp := qnt_loop (n := n) (!al) hi hf h hb hka hfa (agn_sub hg hna) hsz hE hR (d := d) (by omega) (d + 1) (mor (decide (3 ≤ i)) sz) 0 n (mI M' V i) (by omega) (by omega)
  rw [setI_self, nI_0, Int32.add_zero, Bool.not_not] at hlp
  have hu : mR n (d + 2) 51 [.ref W, .int (b2i (!al)), va_rf (some a)] M' = some (.inl (some (.int (b2i (decide (hqnt al (decide (3 ≤ i)) sz (fun z => D sz (upE e q z)) = !al))))), M') := by
    rw [eO_anyChoiceMakes]
    simp only [fO_anyChoiceMakes_0, rzD_s, hka, if_true, hE.1.1, hva, x_value hE.1 hi, rzC_l, rzI_e, x_firstChoice hi, hE.2.1, x_choices hi hsz, hlp]
    rfl
  show mR n (d + 3) 49 [.ref W, va_rf (some a)] M' = _
  cases al with
  | true =>
    have hs : mI M' a 0 = 65 := by rw [g2]; exact hs
    have hu' : mR n (d + 2) 51 [.ref W, .int 0, va_rf (some a)] M' = _ := hu
    rw [eO_isTrue, fO_isTrue_0, rzN_s, hka, hs, if_pos rfl, if_neg (by decide), if_neg (by decide), if_neg (by decide), if_pos rfl, hE.1.1, if_pos rfl, hu', rzC_l, rzI_e]
    show _ = some (Sum.inl (some (Value.int (b2i (hqnt true (decide (3 ≤ i)) sz (fun z => D sz (upE e q z)))))), M')
    cases hqnt true (decide (3 ≤ i)) sz (fun z => D sz (upE e q z)) <;> rfl
  | false =>
    have hs : mI M' a 0 = 69 := by rw [g2]; exact hs
    have hu' : mR n (d + 2) 51 [.ref W, .int 1, va_rf (some a)] M' = _ := hu
    rw [eO_isTrue, fO_isTrue_0, rzN_s, hka, hs, if_pos rfl, if_neg (by decide), if_neg (by decide), if_neg (by decide), if_neg (by decide), if_pos rfl, hE.1.1, if_pos rfl, hu', rzC_l, rzI_e, if_pos (fb_b _)]
    show _ = some (Sum.inl (some (Value.int (b2i (hqnt false (decide (3 ≤ i)) sz (fun z => D sz (upE e q z)))))), M')
    cases hqnt false (decide (3 ≤ i)) sz (fun z => D sz (upE e q z)) <;> rfl
end EvFo
