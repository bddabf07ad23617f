/-! the class: its methods -/
/-- what the class leaves alone of what isn't its own; at most k new cells -/
def FrO (z k : Nat) (M M' : Mem) : Prop := (∀ c, c < mS M → mK M' c = mK M c ∧ mL M' c = mL M c) ∧ (∀ c, c < mS M → z + 10 ≤ c → mK M c ≠ 4 → mI M' c = mI M c ∧ mP M' c = mP M c ∧ mJ M' c = mJ M c) ∧ mC M' = mC M ∧ mS M ≤ mS M' ∧ mS M' ≤ mS M + k ∧ mU M' ≤ mU M + 6 * k
theorem fro_new {z : Nat} {M : Mem} : FrO z 1 M (newC M 0 0 6) := ⟨fun c hc => ⟨va_up_ne _ _ (by omega), va_up_ne _ _ (by omega)⟩, fun c hc _ _ => ⟨by rw [mI_newC, fz_row _ _ (by omega)], by rw [mP_newC, fz_row _ _ (by omega)], by rw [mJ_newC, fz_row _ _ (by omega)]⟩, rfl, by show mS M ≤ mS M + 1; omega, by show mS M + 1 ≤ mS M + 1; omega, by show mU M + 6 ≤ mU M + 6 * 1; omega⟩
theorem FrO.trans {z k1 k2 : Nat} {M M1 M2 : Mem} (h1 : FrO z k1 M M1) (h2 : FrO z k2 M1 M2) : FrO z (k1 + k2) M M2 := by
  obtain ⟨a1, a2, a3, a4, a5, a6⟩ := h1
  obtain ⟨b1, b2, b3, b4, b5, b6⟩ := h2
  refine ⟨fun c hc => ⟨(b1 c (by omega)).1.trans (a1 c hc).1, (b1 c (by omega)).2.trans (a1 c hc).2⟩, fun c hc hz hk => ?_, b3.trans a3, by omega, by omega, by omega⟩
  have x := a2 c hc hz hk
  have y := b2 c (by omega) hz (by rw [(a1 c hc).1]; exact hk)
  exact ⟨y.1.trans x.1, y.2.1.trans x.2.1, y.2.2.trans x.2.2⟩
theorem fro_int {z : Nat} {M M' : Mem} (h2 : M'.2 = M.2) (hI : ∀ c, z + 10 ≤ c → mI M' c = mI M c) : FrO z 0 M M' := by
  have hP : mP M' = mP M := congrArg (fun x => x.1) h2
  have hJ : mJ M' = mJ M := congrArg (fun x => x.2.1) h2
  have hK : mK M' = mK M := congrArg (fun x => x.2.2.1) h2
  have hL : mL M' = mL M := congrArg (fun x => x.2.2.2.1) h2
  have hS : mS M' = mS M := congrArg (fun x => x.2.2.2.2.1) h2
  have hU : mU M' = mU M := congrArg (fun x => x.2.2.2.2.2.1) h2
  have hC : mC M' = mC M := congrArg (fun x => x.2.2.2.2.2.2) h2
  exact ⟨fun c _ => ⟨by rw [hK], by rw [hL]⟩, fun c _ hz _ => ⟨hI c hz, by rw [hP], by rw [hJ]⟩, hC, by omega, by omega, by omega⟩
section CMe
variable {n z : Nat} {M M' : Mem} {txt : List Nat} {s : Option (List Nat)}
theorem rf_fr {r2 : Nat} {y : FvT} {F : Nat → Prop} {a H W V : Nat} {b : Bd} (h : RF n H W V b y F M a) (hF : F a) (hag : ∀ c, F c → mK M' c = mK M c ∧ mI M' c = mI M c ∧ mP M' c = mP M c) : RF n H W V b y F M' a := by
  obtain ⟨hev, hkd⟩ := h
  have hA : ∀ x, AgN F x M M' := fun x c hc => ⟨(hag c hc).1, (hag c hc).2.1, by rw [(hag c hc).2.2], fun _ => by rw [(hag c hc).2.2]⟩
  obtain ⟨-, ai, ap⟩ := hag a hF
  refine ⟨hev.fr (hA a), fun q => ?_, fun isA isSet i q B hk => ?_⟩
  · obtain ⟨ch, h1, h2⟩ := hkd.1 q
    exact ⟨ch, by rw [ai]; exact h1, h2⟩
  · obtain ⟨f1, f2, f3, f4, a1, F1, f5, f6, f7, f8⟩ := hkd.2 isA isSet i q B hk
    exact ⟨by rw [ai]; exact f1, by rw [ai]; exact f2, f3, f4, a1, F1, by rw [ap]; exact f5, f6, f7, f8.fr (fun c hc => hA a1 c (f6 c hc))⟩
/-- its state stays where its cells stay -/
theorem hcl_fr (h : HcL z M) (hz : z + 28 ≤ mS M) (hK : ∀ c, c < mS M → mK M' c = mK M c ∧ mL M' c = mL M c) (hP : ∀ c, z ≤ c → c < z + 10 → ∀ j, ¬ (c = z ∧ j = 4) → ¬ (c = z + 2 ∧ (j = 5 ∨ j = 6)) → mP M' c j = mP M c j ∨ ¬ (c = z ∨ c = z + 2 ∨ c = z + 7)) : HcL z M' := by
  obtain ⟨⟨a1, a2, a3, a4, a5⟩, ⟨b1, b2⟩, ⟨c1, c2, c3⟩, ⟨d1, d2⟩, ⟨e1, e2⟩, ⟨f1, f2⟩, ⟨g1, g2⟩, ⟨w1, w2, w3, w4⟩, ⟨i1, i2⟩⟩ := h
  have kz := hK z (by omega)
  have k1 := hK (z + 1) (by omega)
  have k2 := hK (z + 2) (by omega)
  have k3 := hK (z + 3) (by omega)
  have k4 := hK (z + 4) (by omega)
  have k5 := hK (z + 5) (by omega)
  have k6 := hK (z + 6) (by omega)
  have k7 := hK (z + 7) (by omega)
  have k8 := hK (z + 8) (by omega)
  have k9 := hK (z + 9) (by omega)
  have p : ∀ c j, z ≤ c → c < z + 10 → (c = z ∨ c = z + 2 ∨ c = z + 7) → True → ¬ (c = z ∧ j = 4) → ¬ (c = z + 2 ∧ (j = 5 ∨ j = 6)) → mP M' c j = mP M c j := fun c j h1 h2 h3 h4 h5 h6 => ((hP c h1 h2 j h5 h6).resolve_right (fun q => q h3))
  refine ⟨⟨kz.1.trans a1, ?_, ?_, ?_, ?_⟩, ⟨k1.1.trans b1, k1.2.trans b2⟩, ⟨k2.1.trans c1, ?_, ?_⟩, ⟨k3.1.trans d1, k3.2.trans d2⟩, ⟨k4.1.trans e1, k4.2.trans e2⟩, ⟨k5.1.trans f1, k5.2.trans f2⟩, ⟨k6.1.trans g1, k6.2.trans g2⟩, ⟨k7.1.trans w1, ?_, k8.1.trans w3, k8.2.trans w4⟩, ⟨k9.1.trans i1, k9.2.trans i2⟩⟩
  · exact (p z 0 (by omega) (by omega) (by omega) trivial (by omega) (by omega)).trans a2
  · exact (p z 2 (by omega) (by omega) (by omega) trivial (by omega) (by omega)).trans a3
  · exact (p z 3 (by omega) (by omega) (by omega) trivial (by omega) (by omega)).trans a4
  · exact (p z 5 (by omega) (by omega) (by omega) trivial (by omega) (by omega)).trans a5
  · exact (p (z + 2) 0 (by omega) (by omega) (by omega) trivial (by omega) (by omega)).trans c2
  · exact (p (z + 2) 4 (by omega) (by omega) (by omega) trivial (by omega) (by omega)).trans c3
  · exact (p (z + 7) 2 (by omega) (by omega) (by omega) trivial (by omega) (by omega)).trans w2
/-- memory whose own cells of the class, and whose pieces, are the same -/
theorem hci_fr (h : HcI n z M txt s) (hK : ∀ c, c < mS M → mK M' c = mK M c ∧ mL M' c = mL M c) (hS : mS M ≤ mS M') (hD : ∀ c, c < mS M → ((z ≤ c ∧ c < z + 10) ∨ mK M c = 4) → mP M' c = mP M c ∧ (c ≠ z + 7 → c ≠ z + 8 → mI M' c = mI M c)) : HcI n z M' txt s := by
  obtain ⟨hL, ⟨t1, t2, t3, t4⟩, hz, r1, r2, ⟨q1, q2, q3, q4, q5, q6⟩, hsn⟩ := h
  have hP : ∀ c, z ≤ c → c < z + 10 → mP M' c = mP M c := fun c h1 h2 => (hD c (by omega) (Or.inl ⟨h1, h2⟩)).1
  have hI : ∀ c, z ≤ c → c < z + 10 → c ≠ z + 7 → c ≠ z + 8 → mI M' c = mI M c := fun c h1 h2 h7 h8 => (hD c (by omega) (Or.inl ⟨h1, h2⟩)).2 h7 h8
  have hr1 : z ≤ r1 ∧ r1 < z + 10 := by omega
  have hr2 : z ≤ r2 ∧ r2 < z + 10 := by omega
  have p1 := hP r1 hr1.1 hr1.2
  have p2 := hP r2 hr2.1 hr2.2
  have hrow : ∀ r, mP M' r = mP M r → RowI r M → RowI r M' := fun r hp hr => ⟨fun j a hj q => by
      rw [hp] at q
      have := hr.1 j a hj q
      exact ⟨(hK a this.2).1.trans this.1, by omega⟩, fun j j' a hj hj' q q' => by
      rw [hp] at q q'
      exact hr.2 j j' a hj hj' q q'⟩
  refine ⟨hcl_fr hL hz hK (fun c h1 h2 j _ _ => Or.inl (by rw [hP c h1 h2])), ⟨by rw [hI z (by omega) (by omega) (by omega) (by omega)]; exact t1, t2, fun i x hx => by rw [hI (z + 1) (by omega) (by omega) (by omega) (by omega)]; exact t3 i x hx, t4⟩, by omega, r1, r2, ⟨q1, by rw [hP (z + 2) (by omega) (by omega)]; exact q2, by rw [hP (z + 2) (by omega) (by omega)]; exact q3, hrow r1 p1 q4, hrow r2 p2 q5, fun j j' a hj hj' e1 e2 => by rw [p1] at e1; rw [p2] at e2; exact q6 j j' a hj hj' e1 e2⟩, ?_⟩
  cases s with
  | none =>
    show mP M' z 4 = none
    rw [hP z (by omega) (by omega)]
    exact hsn
  | some ts =>
    obtain ⟨y, a, F, e1, e2, e3, e4, e5, e6, e7⟩ := hsn
    refine ⟨y, a, F, e1, e2, by rw [hP z (by omega) (by omega)]; exact e3, fun c hc => by rw [p2]; exact e4 c hc, e5, rf_fr (r2 := r2) e6 e5 (fun c hc => ?_), fun k hk => by rw [hI (z + 9) (by omega) (by omega) (by omega) (by omega)]; exact e7 k hk⟩
    obtain ⟨j, j1, j2⟩ := e4 c hc
    obtain ⟨k4, k5⟩ := q5.1 j c j1 j2
    have hw7 : c ≠ z + 7 := fun q => by rw [q, hL.2.2.2.2.2.2.2.1.1] at k4; exact absurd k4 (by decide)
    have hw8 : c ≠ z + 8 := fun q => by rw [q, hL.2.2.2.2.2.2.2.1.2.2.1] at k4; exact absurd k4 (by decide)
    have x := hD c k5 (Or.inr k4)
    exact ⟨(hK c k5).1, x.2 hw7 hw8, x.1⟩
/-- the text alone has changed -/
theorem hci_txt {txt' : List Nat} (h : HcI n z M txt s) (h2 : M'.2 = M.2) (hI : ∀ c, c ≠ z → c ≠ z + 1 → mI M' c = mI M c) (ht : TxM z M' txt') : HcI n z M' txt' s := by
  obtain ⟨hL, ⟨t1, t2, t3, t4⟩, hz, r1, r2, ⟨q1, q2, q3, q4, q5, q6⟩, hsn⟩ := h
  have hP : mP M' = mP M := congrArg (fun x => x.1) h2
  have hK : mK M' = mK M := congrArg (fun x => x.2.2.1) h2
  have hLn : mL M' = mL M := congrArg (fun x => x.2.2.2.1) h2
  have hS : mS M' = mS M := congrArg (fun x => x.2.2.2.2.1) h2
  refine ⟨hcl_fr hL hz (fun c _ => ⟨by rw [hK], by rw [hLn]⟩) (fun c _ _ j _ _ => Or.inl (by rw [hP])), ht, by omega, r1, r2, ⟨q1, by rw [hP]; exact q2, by rw [hP]; exact q3, ?_, ?_, by rw [hP]; exact q6⟩, ?_⟩
  · unfold RowI; rw [hP, hK, hS]; exact q4
  · unfold RowI; rw [hP, hK, hS]; exact q5
  · cases s with
    | none => show mP M' z 4 = none; rw [hP]; exact hsn
    | some ts =>
      obtain ⟨y, a, F, e1, e2, e3, e4, e5, e6, e7⟩ := hsn
      refine ⟨y, a, F, e1, e2, by rw [hP]; exact e3, by rw [hP]; exact e4, e5, rf_fr (r2 := r2) e6 e5 (fun c hc => ?_), fun k hk => by rw [hI (z + 9) (by omega) (by omega)]; exact e7 k hk⟩
      obtain ⟨j, j1, j2⟩ := e4 c hc
      have k4 := (q5.1 j c j1 j2).1
      have hc0 : c ≠ z := fun q => by rw [q, hL.1.1] at k4; exact absurd k4 (by decide)
      have hc1 : c ≠ z + 1 := fun q => by rw [q, hL.2.1.1] at k4; exact absurd k4 (by decide)
      exact ⟨by rw [hK], hI c hc0 hc1, by rw [hP]⟩
theorem C_wipe (D : Nat) (h : HcI n z M txt s) : ∃ M', mR n (D + 1) 8 [.ref z] M = some (.inl (some (.int (nI txt.length))), M') ∧ HcI n z M' [] s ∧ FrO z 0 M M' := by
  have hk := h.1.1.1
  have ht := h.2.1
  refine ⟨setI M z 1 0, ?_, hci_txt h rfl (fun c h0 _ => by rw [mI_setI, fu_row _ _ h0]) ⟨by rw [mI_setI, fu_eq]; rfl, by decide, fun i x hx => (by cases hx), fun x hx => (by cases hx)⟩, fro_int rfl (fun c hc => by rw [mI_setI, fu_row _ _ (by omega)])⟩
  rw [eH_wipe]
  simp only [fH_wipe_0, hk, if_true, rzM_e, ht.1]
theorem C_length (D : Nat) (h : HcI n z M txt s) : mR n (D + 1) 9 [.ref z] M = some (.inl (some (.int (nI txt.length))), M) := by
  rw [eH_length]
  simp only [fH_length_0, h.1.1.1, if_true, h.2.1.1]
end CMe
