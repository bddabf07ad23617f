/-! what the pieces in memory come to: sets and sums -/
/-- the world's object and its row of values -/
def WrM (W V : Nat) (M : Mem) : Prop := mK M W = 3 ∧ mP M W 2 = some V ∧ mK M V = 21 ∧ mL M V = 6
def EnM (W V : Nat) (M : Mem) (sz : Nat) (b : Bd) (e : Ev) : Prop := WrM W V M ∧ mI M W 0 = nI sz ∧ mI M W 1 = hfull sz ∧ ∀ v q, v < 6 → b v = some q → mI M V v = e q
/-- values as the variables have them -/
def EvR (sz : Nat) (b : Bd) (e : Ev) : Prop := ∀ v q, b v = some q → (3 ≤ v → hfull sz &&& e q = e q) ∧ (v < 3 → -8 ≤ (e q).toInt ∧ (e q).toInt ≤ 8)
/-- M' has at the cells F what M has, but for the next of a -/
def AgN (F : Nat → Prop) (a : Nat) (M M' : Mem) : Prop := ∀ c, F c → mK M' c = mK M c ∧ mI M' c = mI M c ∧ mP M' c 3 = mP M c 3 ∧ (c ≠ a → mP M' c 4 = mP M c 4)
/-- all the cells F are pieces -/
def Nds (F : Nat → Prop) (M : Mem) : Prop := ∀ c, F c → mK M c = 4
/-- the piece a is a set that comes to D -/
def EvS (n H W V : Nat) (F : Nat → Prop) (M : Mem) (b : Bd) (a : Nat) (D : Dn) : Prop := F a ∧ Nds F M ∧ ∀ M' sz e, AgN F a M M' → sz ≤ 4 → EnM W V M' sz b e → EvR sz b e → ∀ d, H ≤ d → mR n d 57 [.ref W, .ref a] M' = some (.inl (some (.int (D sz e))), M')
def fS1 (a : Nat) : Nat → Prop := fun c => c = a
def fU (F G : Nat → Prop) : Nat → Prop := fun c => F c ∨ G c
theorem agn_refl {F : Nat → Prop} {a : Nat} {M : Mem} : AgN F a M M := fun _ _ => ⟨rfl, rfl, rfl, fun _ => rfl⟩
theorem nds_1 {a : Nat} {M : Mem} (h : mK M a = 4) : Nds (fS1 a) M := fun c hc => by rw [show c = a from hc]; exact h
theorem nds_u {F G : Nat → Prop} {M : Mem} (h : Nds F M) (g : Nds G M) : Nds (fU F G) M := fun c hc => hc.elim (h c) (g c)
theorem EvS.mono {n H H' W V : Nat} {F : Nat → Prop} {M : Mem} {b : Bd} {a : Nat} {D : Dn} (h : EvS n H W V F M b a D) (hh : H ≤ H') : EvS n H' W V F M b a D := ⟨h.1, h.2.1, fun M' sz e g1 g2 g3 g4 d hd => h.2.2 M' sz e g1 g2 g3 g4 d (by omega)⟩
/-- it stays so where the pieces stay -/
theorem EvS.fr {n H W V : Nat} {F : Nat → Prop} {M M1 : Mem} {b : Bd} {a : Nat} {D : Dn} (h : EvS n H W V F M b a D) (hg : AgN F a M M1) : EvS n H W V F M1 b a D :=
  ⟨h.1, fun c hc => (hg c hc).1.trans (h.2.1 c hc), fun M' sz e g1 g2 g3 g4 d hd => h.2.2 M' sz e (fun c hc => ⟨(g1 c hc).1.trans (hg c hc).1, (g1 c hc).2.1.trans (hg c hc).2.1, (g1 c hc).2.2.1.trans (hg c hc).2.2.1, fun q => ((g1 c hc).2.2.2 q).trans ((hg c hc).2.2.2 q)⟩) g2 g3 g4 d hd⟩
section EvSets
variable {n W V : Nat} {M : Mem} {b : Bd}
theorem x_value {d : Nat} {M' : Mem} (hw : WrM W V M') {v : Nat} (hv : v < 6) : mR n (d + 1) 52 [.ref W, .int (nI v)] M' = some (.inl (some (.int (mI M' V v))), M') := by
  obtain ⟨w1, w2, w3, w4⟩ := hw
  have h0 : ¬ nI v < 0 := nI_pos (by omega)
  have h6 : ¬ nI 6 ≤ nI v := nI_ge hv (by decide)
  have hi : inA (nI v) 6 := inA_nI hv (by decide)
  rw [eO_value]
  simp only [fO_value_0, fO_value_23, if_neg h0, w1, w2, w3, w4, if_true, rzD_s, if_neg h6, if_pos hi, nI_clamp (show v < 2 ^ 31 by omega)]
theorem x_bind {d : Nat} {M' : Mem} (hw : WrM W V M') {v : Nat} (hv : v < 6) (x : Int32) : mR n (d + 1) 55 [.ref W, .int (nI v), .int x] M' = some (.inl none, setI M' V v x) := by
  obtain ⟨w1, w2, w3, w4⟩ := hw
  have h0 : ¬ nI v < 0 := nI_pos (by omega)
  have h6 : ¬ nI 6 ≤ nI v := nI_ge hv (by decide)
  have hi : inA (nI v) 6 := inA_nI hv (by decide)
  rw [eO_bind]
  simp only [fO_bind_0, fO_bind_20, if_neg h0, w1, w2, w3, w4, if_true, rzD_s, if_neg h6, if_pos hi, nI_clamp (show v < 2 ^ 31 by omega), rzM_e]
theorem ev_0 {a : Nat} (hk : mK M a = 4) (hs : mI M a 0 = 48) : EvS n 1 W V (fS1 a) M b a (fun _ _ => 0) := by
  refine ⟨rfl, nds_1 hk, fun M' sz e hg hsz hE hR d hd => ?_⟩
  obtain ⟨d, rfl⟩ : ∃ d', d = d' + 1 := ⟨d - 1, by omega⟩
  obtain ⟨g1, g2, g3, g4⟩ := hg a rfl
  show mR n (d + 1) 57 [.ref W, va_rf (some a)] M' = _
  rw [eO_elements, fO_elements_0, rzN_s, g1, g2, hk, hs, if_pos rfl, if_neg (by decide), if_neg (by decide), if_neg (by decide), if_neg (by decide), if_neg (by decide), if_neg (by decide), if_pos rfl]
theorem ev_1 {a : Nat} (hk : mK M a = 4) (hs : mI M a 0 = 49) : EvS n 1 W V (fS1 a) M b a (fun sz _ => hfull sz) := by
  refine ⟨rfl, nds_1 hk, fun M' sz e hg hsz hE hR d hd => ?_⟩
  obtain ⟨d, rfl⟩ : ∃ d', d = d' + 1 := ⟨d - 1, by omega⟩
  obtain ⟨g1, g2, g3, g4⟩ := hg a rfl
  obtain ⟨⟨w1, -⟩, -, e2, -⟩ := hE
  show mR n (d + 1) 57 [.ref W, va_rf (some a)] M' = _
  rw [eO_elements, fO_elements_0, rzN_s, g1, g2, hk, hs, if_pos rfl, if_neg (by decide), if_neg (by decide), if_neg (by decide), if_neg (by decide), if_neg (by decide), if_neg (by decide), if_neg (by decide), if_pos rfl, w1, if_pos rfl, e2]
theorem ev_97 {d a : Nat} {M' : Mem} (hw : WrM W V M') (hk : mK M' a = 4) {v : Nat} (hv : v < 6) (hs : mI M' a 2 = nI v) (D : Nat) : fO_elements_97 n D (mR n (d + 1)) W (some a) M' = some (.inl (some (.int (mI M' V v))), M') := by
  simp only [fO_elements_97, rzD_s, hk, if_true, hw.1, hs, x_value hw hv, rzC_l, rzI_e]
theorem ev_v {a ch v q : Nat} (hk : mK M a = 4) (hs : mI M a 0 = nI ch) (hc : ch < 1000) (hn : ch ≠ 42 ∧ ch ≠ 43 ∧ ch ≠ 45 ∧ ch ≠ 48 ∧ ch ≠ 49) (hv : mI M a 2 = nI v) (hv6 : v < 6) (hb : b v = some q) : EvS n 2 W V (fS1 a) M b a (fun _ e => e q) := by
  refine ⟨rfl, nds_1 hk, fun M' sz e hg hsz hE hR d hd => ?_⟩
  obtain ⟨d, rfl⟩ : ∃ d', d = d' + 2 := ⟨d - 2, by omega⟩
  obtain ⟨g1, g2, g3, g4⟩ := hg a rfl
  obtain ⟨w, -, -, e3⟩ := hE
  have e97 := ev_97 (n := n) (d := d) w (g1.trans hk) hv6 (by rw [g2]; exact hv) (d + 1)
  rw [e3 v q hv6 hb] at e97
  have q42 : ¬ nI ch = 42 := fun q => hn.1 ((cq hc 42 (by omega) rfl).mp q)
  have q43 : ¬ nI ch = 43 := fun q => hn.2.1 ((cq hc 43 (by omega) rfl).mp q)
  have q45 : ¬ nI ch = 45 := fun q => hn.2.2.1 ((cq hc 45 (by omega) rfl).mp q)
  have q48 : ¬ nI ch = 48 := fun q => hn.2.2.2.1 ((cq hc 48 (by omega) rfl).mp q)
  have q49 : ¬ nI ch = 49 := fun q => hn.2.2.2.2 ((cq hc 49 (by omega) rfl).mp q)
  show mR n (d + 2) 57 [.ref W, va_rf (some a)] M' = _
  rw [eO_elements, fO_elements_0, rzN_s, g1, g2, hk, hs, if_pos rfl, if_neg q42, if_neg q43, if_neg q45, if_neg q48, if_neg q49, e97]
  split
  · rfl
  · split
    · rfl
    · split <;> rfl
theorem agn_sub {F : Nat → Prop} {a c : Nat} {M1 M' : Mem} (hg : AgN (fU (fS1 a) F) a M1 M') (hna : ¬ F a) : AgN F c M1 M' := fun x hx => ⟨(hg x (Or.inr hx)).1, (hg x (Or.inr hx)).2.1, (hg x (Or.inr hx)).2.2.1, fun _ => (hg x (Or.inr hx)).2.2.2 (fun q => hna (q ▸ hx))⟩
theorem ev_neg {H : Nat} {F : Nat → Prop} {a a1 : Nat} {D : Dn} (hk : mK M a = 4) (hs : mI M a 0 = 45) (hf : mP M a 3 = some a1) (h : EvS n H W V F M b a1 D) (hna : ¬ F a) : EvS n (H + 1) W V (fU (fS1 a) F) M b a (fun sz e => hfull sz &&& hnot (D sz e)) := by
  refine ⟨Or.inl rfl, nds_u (nds_1 hk) h.2.1, fun M' sz e hg hsz hE hR d hd => ?_⟩
  obtain ⟨d, rfl⟩ : ∃ d', d = d' + 1 := ⟨d - 1, by omega⟩
  obtain ⟨g1, g2, g3, g4⟩ := hg a (Or.inl rfl)
  have h1 := h.2.2 M' sz e (agn_sub hg hna) hsz hE hR d (by omega)
  have h1' : mR n d 57 [.ref W, va_rf (some a1)] M' = _ := h1
  show mR n (d + 1) 57 [.ref W, va_rf (some a)] M' = _
  rw [eO_elements, fO_elements_0, rzN_s, g1, g2, g3, hk, hs, hf, if_pos rfl, if_neg (by decide), if_neg (by decide), if_neg (by decide), if_pos rfl, hE.1.1, if_pos rfl, h1', rzC_l, rzI_e, hE.2.2.1]
  rfl
/-- a row of sets from a to z, L of them -/
def SgU (n H W V : Nat) (F : Nat → Prop) (M : Mem) (b : Bd) (a z L : Nat) (D : Dn) : Prop := F z ∧ Nds F M ∧ ∀ M' sz e, AgN F z M M' → sz ≤ 4 → EnM W V M' sz b e → EvR sz b e → ∀ d, H ≤ d → ∀ (D0 w : Nat) (x : Int32), fO_union_4 n D0 (mR n d) (w + L) W x (some a) M' = fO_union_4 n D0 (mR n d) w W (x ||| D sz e) (mP M' z 4) M'
def SgM (n H W V : Nat) (F : Nat → Prop) (M : Mem) (b : Bd) (a z L : Nat) (D : Dn) : Prop := F z ∧ Nds F M ∧ ∀ M' sz e, AgN F z M M' → sz ≤ 4 → EnM W V M' sz b e → EvR sz b e → ∀ d, H ≤ d → ∀ (D0 w : Nat) (x : Int32), fO_meet_7 n D0 (mR n d) (w + L) W x (some a) M' = fO_meet_7 n D0 (mR n d) w W (x &&& D sz e) (mP M' z 4) M'
theorem sgu_1 {H : Nat} {F : Nat → Prop} {a : Nat} {D : Dn} (h : EvS n H W V F M b a D) : SgU n H W V F M b a a 1 D := by
  refine ⟨h.1, h.2.1, fun M' sz e hg hsz hE hR d hd D0 w x => ?_⟩
  have h1 : mR n d 57 [.ref W, va_rf (some a)] M' = _ := h.2.2 M' sz e hg hsz hE hR d hd
  have hk : mK M' a = 4 := (hg a h.1).1.trans (h.2.1 a h.1)
  rw [fO_union_4]
  simp only [rzN_s, hE.1.1, if_true, h1, rzC_l, rzI_e, rzD_s, hk]
theorem sgm_1 {H : Nat} {F : Nat → Prop} {a : Nat} {D : Dn} (h : EvS n H W V F M b a D) : SgM n H W V F M b a a 1 D := by
  refine ⟨h.1, h.2.1, fun M' sz e hg hsz hE hR d hd D0 w x => ?_⟩
  have h1 : mR n d 57 [.ref W, va_rf (some a)] M' = _ := h.2.2 M' sz e hg hsz hE hR d hd
  have hk : mK M' a = 4 := (hg a h.1).1.trans (h.2.1 a h.1)
  rw [fO_meet_7]
  simp only [rzN_s, hE.1.1, if_true, h1, rzC_l, rzI_e, rzD_s, hk]
theorem agn_l {F G : Nat → Prop} {z c : Nat} {M1 M2 M' : Mem} (h12 : AgN F z M1 M2) (hg : AgN (fU F G) c M2 M') (hd : ∀ x, F x → ¬ G x) (hc : G c) : AgN F z M1 M' := fun x hx => by
  have g := hg x (Or.inl hx)
  have hxc : x ≠ c := fun q => hd x hx (q ▸ hc)
  have k := h12 x hx
  exact ⟨g.1.trans k.1, g.2.1.trans k.2.1, g.2.2.1.trans k.2.2.1, fun q => (g.2.2.2 hxc).trans (k.2.2.2 q)⟩
theorem agn_r {F G : Nat → Prop} {c : Nat} {M2 M' : Mem} (hg : AgN (fU F G) c M2 M') : AgN G c M2 M' := fun x hx => hg x (Or.inr hx)
/-- the row grows: M1 the memory before, M the one behind -/
theorem sgu_app {H : Nat} {F G : Nat → Prop} {a z a2 L : Nat} {D D2 : Dn} {M1 : Mem} (h : SgU n H W V F M1 b a z L D) (hag : AgN F z M1 M) (h2 : EvS n H W V G M b a2 D2) (hd : ∀ x, F x → ¬ G x) (hz : mP M z 4 = some a2) : SgU n H W V (fU F G) M b a a2 (L + 1) (fun sz e => D sz e ||| D2 sz e) := by
  have hNF : Nds F M := fun c hc => (hag c hc).1.trans (h.2.1 c hc)
  refine ⟨Or.inr h2.1, nds_u hNF h2.2.1, fun M' sz e hg hsz hE hR d hdp D0 w x => ?_⟩
  have k1 := h.2.2 M' sz e (agn_l hag hg hd h2.1) hsz hE hR d hdp D0 (w + 1) x
  have hz' : mP M' z 4 = some a2 := ((hg z (Or.inl h.1)).2.2.2 (fun q => hd z h.1 (q ▸ h2.1))).trans hz
  have k2 := (sgu_1 h2).2.2 M' sz e (agn_r hg) hsz hE hR d hdp D0 w (x ||| D sz e)
  rw [show w + (L + 1) = w + 1 + L by omega, k1, hz', k2, Int32.or_assoc]
theorem sgm_app {H : Nat} {F G : Nat → Prop} {a z a2 L : Nat} {D D2 : Dn} {M1 : Mem} (h : SgM n H W V F M1 b a z L D) (hag : AgN F z M1 M) (h2 : EvS n H W V G M b a2 D2) (hd : ∀ x, F x → ¬ G x) (hz : mP M z 4 = some a2) : SgM n H W V (fU F G) M b a a2 (L + 1) (fun sz e => D sz e &&& D2 sz e) := by
  have hNF : Nds F M := fun c hc => (hag c hc).1.trans (h.2.1 c hc)
  refine ⟨Or.inr h2.1, nds_u hNF h2.2.1, fun M' sz e hg hsz hE hR d hdp D0 w x => ?_⟩
  have k1 := h.2.2 M' sz e (agn_l hag hg hd h2.1) hsz hE hR d hdp D0 (w + 1) x
  have hz' : mP M' z 4 = some a2 := ((hg z (Or.inl h.1)).2.2.2 (fun q => hd z h.1 (q ▸ h2.1))).trans hz
  have k2 := (sgm_1 h2).2.2 M' sz e (agn_r hg) hsz hE hR d hdp D0 w (x &&& D sz e)
  rw [show w + (L + 1) = w + 1 + L by omega, k1, hz', k2, Int32.and_assoc]
theorem ev_uni {H L : Nat} {F : Nat → Prop} {a a1 z : Nat} {D : Dn} {M1 : Mem} (hk : mK M a = 4) (hs : mI M a 0 = 43) (hf : mP M a 3 = some a1) (h : SgU n H W V F M1 b a1 z L D) (hag : AgN F z M1 M) (hna : ¬ F a) (hz : mP M z 4 = none) (hL : L < n) : EvS n (H + 2) W V (fU (fS1 a) F) M b a D := by
  have hNF : Nds F M := fun c hc => (hag c hc).1.trans (h.2.1 c hc)
  refine ⟨Or.inl rfl, nds_u (nds_1 hk) hNF, fun M' sz e hg hsz hE hR d hd => ?_⟩
  obtain ⟨d, rfl⟩ : ∃ d', d = d' + 2 := ⟨d - 2, by omega⟩
  obtain ⟨g1, g2, g3, g4⟩ := hg a (Or.inl rfl)
  have hag' : AgN F z M M' := agn_sub hg hna
  have hz' : mP M' z 4 = none := ((hg z (Or.inr h.1)).2.2.2 (fun q => hna (q ▸ h.1))).trans hz
  have k1 := h.2.2 M' sz e (fun c hc => ⟨(hag' c hc).1.trans (hag c hc).1, (hag' c hc).2.1.trans (hag c hc).2.1, (hag' c hc).2.2.1.trans (hag c hc).2.2.1, fun q => ((hag' c hc).2.2.2 q).trans ((hag c hc).2.2.2 q)⟩) hsz hE hR d (by omega) d (n - L - 1 + 1) 0
  rw [show n - L - 1 + 1 + L = n by omega, hz'] at k1
  have hu : mR n (d + 1) 58 [.ref W, va_rf (some a1)] M' = some (.inl (some (.int (D sz e))), M') := by
    rw [eO_union, fO_union_0, k1, fO_union_4, rzN_n, Int32.zero_or]
  show mR n (d + 2) 57 [.ref W, va_rf (some a)] M' = _
  rw [eO_elements, fO_elements_0, rzN_s, g1, g2, g3, hk, hs, hf, if_pos rfl, if_neg (by decide), if_pos rfl, hE.1.1, if_pos rfl, hu, rzC_l, rzI_e]
theorem ev_meet {H L : Nat} {F : Nat → Prop} {a a1 z : Nat} {D : Dn} {M1 : Mem} (hk : mK M a = 4) (hs : mI M a 0 = 42) (hf : mP M a 3 = some a1) (h : SgM n H W V F M1 b a1 z L D) (hag : AgN F z M1 M) (hna : ¬ F a) (hz : mP M z 4 = none) (hL : L < n) (hin : ∀ sz e, sz ≤ 4 → EvR sz b e → hfull sz &&& D sz e = D sz e) : EvS n (H + 2) W V (fU (fS1 a) F) M b a D := by
  have hNF : Nds F M := fun c hc => (hag c hc).1.trans (h.2.1 c hc)
  refine ⟨Or.inl rfl, nds_u (nds_1 hk) hNF, fun M' sz e hg hsz hE hR d hd => ?_⟩
  obtain ⟨d, rfl⟩ : ∃ d', d = d' + 2 := ⟨d - 2, by omega⟩
  obtain ⟨g1, g2, g3, g4⟩ := hg a (Or.inl rfl)
  have hag' : AgN F z M M' := agn_sub hg hna
  have hz' : mP M' z 4 = none := ((hg z (Or.inr h.1)).2.2.2 (fun q => hna (q ▸ h.1))).trans hz
  have k1 := h.2.2 M' sz e (fun c hc => ⟨(hag' c hc).1.trans (hag c hc).1, (hag' c hc).2.1.trans (hag c hc).2.1, (hag' c hc).2.2.1.trans (hag c hc).2.2.1, fun q => ((hag' c hc).2.2.2 q).trans ((hag c hc).2.2.2 q)⟩) hsz hE hR d (by omega) d (n - L - 1 + 1) (hfull sz)
  rw [show n - L - 1 + 1 + L = n by omega, hz', hin sz e hsz hR] at k1
  have hu : mR n (d + 1) 59 [.ref W, va_rf (some a1)] M' = some (.inl (some (.int (D sz e))), M') := by
    rw [eO_meet, fO_meet_0, hE.1.1, if_pos rfl, hE.2.2.1, k1, fO_meet_7, rzN_n]
  show mR n (d + 2) 57 [.ref W, va_rf (some a)] M' = _
  rw [eO_elements, fO_elements_0, rzN_s, g1, g2, g3, hk, hs, hf, if_pos rfl, if_pos rfl, hE.1.1, if_pos rfl, hu, rzC_l, rzI_e]
end EvSets
/-! sums -/
def AgA (F : Nat → Prop) (a : Nat) (M M' : Mem) : Prop := ∀ c, F c → mK M' c = mK M c ∧ (∀ j, c ≠ a ∨ j ≠ 1 → mI M' c j = mI M c j) ∧ mP M' c 3 = mP M c 3 ∧ (c ≠ a → mP M' c 4 = mP M c 4)
/-- the piece a is a thing that comes to D -/
def EvA (n H W V : Nat) (F : Nat → Prop) (M : Mem) (b : Bd) (a : Nat) (D : Dn) : Prop := F a ∧ Nds F M ∧ ∀ M' sz e, AgA F a M M' → sz ≤ 4 → EnM W V M' sz b e → EvR sz b e → ∀ d, H ≤ d → mR n d 61 [.ref W, .ref a] M' = some (.inl (some (.int (D sz e))), M')
/-- the cells F as they are -/
def AgZ (F : Nat → Prop) (M M' : Mem) : Prop := ∀ c, F c → mK M' c = mK M c ∧ mI M' c = mI M c ∧ mP M' c 3 = mP M c 3 ∧ mP M' c 4 = mP M c 4
/-- a row of parts from r on comes to D in all -/
def ChZ (n H W V : Nat) (F : Nat → Prop) (M : Mem) (b : Bd) (r : Option Nat) (L : Nat) (D : Dn) : Prop := Nds F M ∧ ∀ M' sz e, AgZ F M M' → sz ≤ 4 → EnM W V M' sz b e → EvR sz b e → ∀ d, H ≤ d → ∀ (D0 w : Nat) (r1 : Option Nat) (x : Int32), fO_isTrueOfSum_7 n D0 (mR n d) (w + L) W r1 x r M' = fO_isTrueOfSum_7 n D0 (mR n d) w W r1 (x + D sz e) none M'
section EvSums
variable {n W V : Nat} {M : Mem} {b : Bd}
theorem chz_0 {H : Nat} : ChZ n H W V (fun _ => False) M b none 0 (fun _ _ => 0) := ⟨fun c h => h.elim, fun M' sz e hg hsz hE hR d hd D0 w r1 x => by rw [Nat.add_zero, Int32.add_zero]⟩
theorem ChZ.fr {H L : Nat} {F : Nat → Prop} {M1 : Mem} {r : Option Nat} {D : Dn} (h : ChZ n H W V F M b r L D) (hg : AgZ F M M1) : ChZ n H W V F M1 b r L D :=
  ⟨fun c hc => (hg c hc).1.trans (h.1 c hc), fun M' sz e g1 g2 g3 g4 d hd => h.2 M' sz e (fun c hc => ⟨(g1 c hc).1.trans (hg c hc).1, (g1 c hc).2.1.trans (hg c hc).2.1, (g1 c hc).2.2.1.trans (hg c hc).2.2.1, (g1 c hc).2.2.2.trans (hg c hc).2.2.2⟩) g2 g3 g4 d hd⟩
theorem EvA.fr {H : Nat} {F : Nat → Prop} {M1 : Mem} {a : Nat} {D : Dn} (h : EvA n H W V F M b a D) (hg : AgA F a M M1) : EvA n H W V F M1 b a D :=
  ⟨h.1, fun c hc => (hg c hc).1.trans (h.2.1 c hc), fun M' sz e g1 g2 g3 g4 d hd => h.2.2 M' sz e (fun c hc => ⟨(g1 c hc).1.trans (hg c hc).1, fun j q => ((g1 c hc).2.1 j q).trans ((hg c hc).2.1 j q), (g1 c hc).2.2.1.trans (hg c hc).2.2.1, fun q => ((g1 c hc).2.2.2 q).trans ((hg c hc).2.2.2 q)⟩) g2 g3 g4 d hd⟩
theorem EvA.mono {H H' : Nat} {F : Nat → Prop} {a : Nat} {D : Dn} (h : EvA n H W V F M b a D) (hh : H ≤ H') : EvA n H' W V F M b a D := ⟨h.1, h.2.1, fun M' sz e g1 g2 g3 g4 d hd => h.2.2 M' sz e g1 g2 g3 g4 d (by omega)⟩
/-- a part is put in front -/
theorem chz_cons {H L : Nat} {F G : Nat → Prop} {a : Nat} {r : Option Nat} {f : Int32} {D A : Dn} (h : ChZ n H W V F M b r L D) (ha : EvA n H W V G M b a A) (hf : mI M a 1 = f) (hx : mP M a 4 = r) : ChZ n H W V (fU G F) M b (some a) (L + 1) (fun sz e => f * A sz e + D sz e) := by
  refine ⟨nds_u ha.2.1 h.1, fun M' sz e hg hsz hE hR d hd D0 w r1 x => ?_⟩
  have k1 := h.2 M' sz e (fun c hc => hg c (Or.inr hc)) hsz hE hR d hd D0 w r1 (x + f * A sz e)
  have k2 : mR n d 61 [.ref W, va_rf (some a)] M' = _ := ha.2.2 M' sz e (fun c hc => ⟨(hg c (Or.inl hc)).1, fun j _ => by rw [(hg c (Or.inl hc)).2.1], (hg c (Or.inl hc)).2.2.1, fun _ => (hg c (Or.inl hc)).2.2.2⟩) hsz hE hR d hd
  obtain ⟨g1, g2, g3, g4⟩ := hg a (Or.inl ha.1)
  rw [show w + (L + 1) = (w + L) + 1 by omega, fO_isTrueOfSum_7]
  have hk : mK M' a = 4 := g1.trans (ha.2.1 a ha.1)
  have hi : mI M' a 1 = f := by rw [g2]; exact hf
  have hp : mP M' a 4 = r := g4.trans hx
  simp only [rzN_s, hk, if_true, hE.1.1, k2, rzC_l, rzI_e, rzD_s, hi, hp]
  rw [k1, Int32.add_assoc]
theorem eva_n {a : Nat} (hk : mK M a = 4) (hs : mI M a 0 = 110) : EvA n 1 W V (fS1 a) M b a (fun sz _ => nI sz) := by
  refine ⟨rfl, nds_1 hk, fun M' sz e hg hsz hE hR d hd => ?_⟩
  obtain ⟨d, rfl⟩ : ∃ d', d = d' + 1 := ⟨d - 1, by omega⟩
  obtain ⟨g1, g2, g3, g4⟩ := hg a rfl
  show mR n (d + 1) 61 [.ref W, va_rf (some a)] M' = _
  rw [eO_amount, fO_amount_0, rzD_s, g1, g2 0 (Or.inr (by decide)), hk, hs, if_pos rfl, if_neg (by decide), if_neg (by decide), if_pos rfl, hE.1.1, if_pos rfl, hE.2.1]
theorem eva_1 {a : Nat} (hk : mK M a = 4) (hs : mI M a 0 = 49) : EvA n 1 W V (fS1 a) M b a (fun _ _ => 1) := by
  refine ⟨rfl, nds_1 hk, fun M' sz e hg hsz hE hR d hd => ?_⟩
  obtain ⟨d, rfl⟩ : ∃ d', d = d' + 1 := ⟨d - 1, by omega⟩
  obtain ⟨g1, g2, g3, g4⟩ := hg a rfl
  show mR n (d + 1) 61 [.ref W, va_rf (some a)] M' = _
  rw [eO_amount, fO_amount_0, rzD_s, g1, g2 0 (Or.inr (by decide)), hk, hs, if_pos rfl, if_neg (by decide), if_pos rfl]
theorem eva_v {a ch v q : Nat} (hk : mK M a = 4) (hs : mI M a 0 = nI ch) (hc : ch < 1000) (hn : ch ≠ 35 ∧ ch ≠ 49 ∧ ch ≠ 110) (hv : mI M a 2 = nI v) (hv6 : v < 6) (hb : b v = some q) : EvA n 2 W V (fS1 a) M b a (fun _ e => e q) := by
  refine ⟨rfl, nds_1 hk, fun M' sz e hg hsz hE hR d hd => ?_⟩
  obtain ⟨d, rfl⟩ : ∃ d', d = d' + 2 := ⟨d - 2, by omega⟩
  obtain ⟨g1, g2, g3, g4⟩ := hg a rfl
  obtain ⟨w, -, -, e3⟩ := hE
  have q35 : ¬ nI ch = 35 := fun q => hn.1 ((cq hc 35 (by omega) rfl).mp q)
  have q49 : ¬ nI ch = 49 := fun q => hn.2.1 ((cq hc 49 (by omega) rfl).mp q)
  have q110 : ¬ nI ch = 110 := fun q => hn.2.2 ((cq hc 110 (by omega) rfl).mp q)
  show mR n (d + 2) 61 [.ref W, va_rf (some a)] M' = _
  rw [eO_amount, fO_amount_0, rzD_s, g1, g2 0 (Or.inr (by decide)), g2 2 (Or.inr (by decide)), hk, hs, if_pos rfl, if_neg q35, if_neg q49, if_neg q110, w.1, if_pos rfl, hv, x_value w hv6, rzC_l, rzI_e, e3 v q hv6 hb]
theorem bc16 : ∀ k, k < 16 → ∀ n d C M, fI_bitCount_0 n d C (nI k) M = some (.inl (some (.int (hcount (nI k)))), M) := by
  intro k hk n d C M
  have h : ∀ k, k < 16 → fI_bitCount_0 0 0 (fun _ _ _ => none) (nI k) (fun _ _ => 0, fun _ _ => none, fun _ _ => 0, fun _ => 0, fun _ => 0, 0, 0, fun _ => 0) = some (.inl (some (.int (hcount (nI k)))), (fun _ _ => 0, fun _ _ => none, fun _ _ => 0, fun _ => 0, fun _ => 0, 0, 0, fun _ => 0)) := by
    intro k hk
    match k, hk with
    | 0, _ => rfl
    | 1, _ => rfl
    | 2, _ => rfl
    | 3, _ => rfl
    | 4, _ => rfl
    | 5, _ => rfl
    | 6, _ => rfl
    | 7, _ => rfl
    | 8, _ => rfl
    | 9, _ => rfl
    | 10, _ => rfl
    | 11, _ => rfl
    | 12, _ => rfl
    | 13, _ => rfl
    | 14, _ => rfl
    | 15, _ => rfl
    | k + 16, hk => exact absurd hk (by omega)
  have h1 := h k hk
  unfold fI_bitCount_0 at h1 ⊢
  have h2 := congrArg Prod.fst (Option.some.inj h1)
  exact congrArg (fun z => some (z, M)) h2
theorem nI_tb (x : Int32) : nI x.toBitVec.toNat = x := by
  unfold nI
  rw [← Int32.toBitVec_inj]
  simp
theorem in16 {sz : Nat} (hsz : sz ≤ 4) {x : Int32} (h : hfull sz &&& x = x) : ∃ k, k < 16 ∧ x = nI k := by
  have h15 : ∀ s, s < 5 → hfull s &&& 15 = hfull s := by decide +kernel
  have hx : x &&& 15 = x := by
    rw [← h, Int32.and_comm (hfull sz) x, Int32.and_assoc, h15 sz (by omega)]
  have h3 : (x &&& 15).toBitVec.toNat < 16 := by
    have : (x &&& 15).toBitVec.toNat = x.toBitVec.toNat &&& 15 := by
      rw [Int32.toBitVec_and, BitVec.toNat_and]
      rfl
    rw [this]
    exact Nat.lt_of_le_of_lt Nat.and_le_right (by decide)
  rw [hx] at h3
  exact ⟨x.toBitVec.toNat, h3, (nI_tb x).symm⟩
theorem eva_c {H : Nat} {F : Nat → Prop} {a a1 : Nat} {D : Dn} (hk : mK M a = 4) (hs : mI M a 0 = 35) (hf : mP M a 3 = some a1) (h : EvS n H W V F M b a1 D) (hna : ¬ F a) (hin : ∀ sz e, sz ≤ 4 → EvR sz b e → hfull sz &&& D sz e = D sz e) : EvA n (H + 2) W V (fU (fS1 a) F) M b a (fun sz e => hcount (D sz e)) := by
  refine ⟨Or.inl rfl, nds_u (nds_1 hk) h.2.1, fun M' sz e hg hsz hE hR d hd => ?_⟩
  obtain ⟨d, rfl⟩ : ∃ d', d = d' + 2 := ⟨d - 2, by omega⟩
  obtain ⟨g1, g2, g3, g4⟩ := hg a (Or.inl rfl)
  have hag : AgN F a1 M M' := fun x hx => by
    have hxa : x ≠ a := fun q => hna (q ▸ hx)
    have g := hg x (Or.inr hx)
    exact ⟨g.1, funext fun j => g.2.1 j (Or.inl hxa), g.2.2.1, fun _ => g.2.2.2 hxa⟩
  have h1 : mR n (d + 1) 57 [.ref W, va_rf (some a1)] M' = _ := h.2.2 M' sz e hag hsz hE hR (d + 1) (by omega)
  obtain ⟨k, hk16, hx⟩ := in16 hsz (hin sz e hsz hR)
  show mR n (d + 2) 61 [.ref W, va_rf (some a)] M' = _
  rw [eO_amount, fO_amount_0, rzD_s, g1, g2 0 (Or.inr (by decide)), g3, hk, hs, hf, if_pos rfl, if_pos rfl, hE.1.1, if_pos rfl, h1, rzC_l, rzI_e, eI_bitCount, hx, bc16 k hk16, rzC_l, rzI_e]
  show some (Sum.inl (some (Value.int (hcount (nI k)))), M') = some (Sum.inl (some (Value.int (hcount (D sz e)))), M')
  rw [hx]
end EvSums
