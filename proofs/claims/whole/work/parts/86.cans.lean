/-! the class: read, holds, fails, ways -/
section CRe
variable {n z : Nat} {M : Mem} {txt : List Nat} {s : Option (List Nat)}
theorem frr_parts {M' : Mem} {r1 r2 : Nat} (hH : HcL z M) (hz : z + 28 ≤ mS M) (hR : RwM z r1 r2 M) (hf : FrR z r1 M M') (hpz : ∀ j, j ≠ 5 → j ≠ 6 → mP M' (z + 2) j = mP M (z + 2) j) :
    HcL z M' ∧ (∀ c, (c = z ∨ c = z + 1 ∨ c = r2 ∨ c = z + 7 ∨ c = z + 8 ∨ c = z + 9) → mI M' c = mI M c ∧ mP M' c = mP M c) ∧ (∀ c, (∃ j, j < 120 ∧ mP M r2 j = some c) → mK M' c = mK M c ∧ mI M' c = mI M c ∧ mP M' c = mP M c) ∧ RowI r2 M' ∧ (∀ j j' a, j < 120 → j' < 120 → mP M' r1 j = some a → mP M' r2 j' ≠ some a) ∧ FrO z 121 M M' := by
  have hH0 := hH
  obtain ⟨q1, q2, q3, q4, q5, q6⟩ := hR
  obtain ⟨f1, f2, ⟨f3, f4, f5, f6⟩, ⟨f7, f8⟩, f9⟩ := hf
  have hr1 : r1 = z + 5 ∨ r1 = z + 6 := by omega
  have hr2 : r2 = z + 5 ∨ r2 = z + 6 := by omega
  have hr12 : r1 ≠ r2 := by omega
  have nk : ∀ c, mK M c ≠ 4 → ∀ j, j < 120 → mP M r1 j ≠ some c := fun c hc j hj q => hc (q4.1 j c hj q).1
  obtain ⟨⟨a1, -⟩, ⟨b1, -⟩, ⟨c1, -⟩, ⟨d1, -⟩, ⟨e1, -⟩, ⟨g1, -⟩, ⟨g2, -⟩, ⟨w1, -, w3, -⟩, ⟨i1, -⟩⟩ := hH
  have hfix : ∀ c, (c = z ∨ c = z + 1 ∨ c = r2 ∨ c = z + 7 ∨ c = z + 8 ∨ c = z + 9) → mI M' c = mI M c ∧ mP M' c = mP M c := by
    intro c hc
    have hk : mK M c ≠ 4 := by
      rcases hc with rfl | rfl | rfl | rfl | rfl | rfl
      · rw [a1]; decide
      · rw [b1]; decide
      · rcases hr2 with rfl | rfl
        · rw [g1]; decide
        · rw [g2]; decide
      · rw [w1]; decide
      · rw [w3]; decide
      · rw [i1]; decide
    have x := f2 c (by omega) (by omega) (by omega) (by omega) (by omega) (nk c hk)
    exact ⟨x.1, x.2.1⟩
  have hnod : ∀ c, (∃ j, j < 120 ∧ mP M r2 j = some c) → mK M' c = mK M c ∧ mI M' c = mI M c ∧ mP M' c = mP M c := by
    intro c ⟨j, hj, hc⟩
    obtain ⟨k4, k5⟩ := q5.1 j c hj hc
    have x := f2 c k5 (fun q => by rw [q, c1] at k4; exact absurd k4 (by decide)) (fun q => by rw [q, d1] at k4; exact absurd k4 (by decide)) (fun q => by rw [q, e1] at k4; exact absurd k4 (by decide)) (fun q => by
      rcases hr1 with h | h
      · rw [q, h, g1] at k4; exact absurd k4 (by decide)
      · rw [q, h, g2] at k4; exact absurd k4 (by decide)) (fun j' hj' q => q6 j' j c hj' hj q hc)
    exact ⟨(f1 c k5).1, x.1, x.2.1⟩
  have p2 := (hfix r2 (by omega)).2
  refine ⟨hcl_fr hH0 hz f1 (fun c h1 h2 j h4 h56 => ?_), hfix, hnod, ⟨fun j a hj q => ?_, fun j j' a hj hj' q q' => ?_⟩, fun j j' a hj hj' q q' => ?_, f1, fun c hc hcz hk => ?_, f3, f4, f5, f6⟩
  · by_cases hc : c = z ∨ c = z + 2 ∨ c = z + 7
    · refine Or.inl ?_
      rcases hc with rfl | rfl | rfl
      · rw [(hfix c (by omega)).2]
      · exact hpz j (fun q => h56 ⟨rfl, Or.inl q⟩) (fun q => h56 ⟨rfl, Or.inr q⟩)
      · rw [(hfix (z + 7) (by omega)).2]
    · exact Or.inr hc
  · rw [p2] at q
    have := q5.1 j a hj q
    exact ⟨(f1 a this.2).1.trans this.1, by omega⟩
  · rw [p2] at q q'
    exact q5.2 j j' a hj hj' q q'
  · rw [p2] at q'
    rcases f8 j a hj q with h | h
    · exact q6 j j' a hj hj' h q'
    · have := (q5.1 j' a hj' q').2
      omega
  · exact f2 c hc (by omega) (by omega) (by omega) (by omega) (nk c hk)
/-- the ways are to be counted anew -/
theorem rd_26 (D : Nat) (C : Cx) : ∀ (j k w : Nat) (M : Mem), k + j = 5 → j < w → HcL z M → ∃ M', fH_read_26 n D C w z (nI k) M = some (.inl (some (.int (mI M (z + 2) 3))), M') ∧ M'.2 = M.2 ∧ (∀ c, c ≠ z + 9 → mI M' c = mI M c) ∧ ∀ u, u < 5 → (k ≤ u → mI M' (z + 9) u = -1) ∧ (u < k → mI M' (z + 9) u = mI M (z + 9) u) := by
  intro j
  induction j with
  | zero =>
    intro k w M hk hw hH
    obtain ⟨w, rfl⟩ : ∃ w', w = w' + 1 := ⟨w - 1, by omega⟩
    obtain ⟨⟨a1, a2, a3, a4, a5⟩, -, ⟨c1, -⟩, -⟩ := hH
    have h4 : (4 : Int32) < nI k := nI_lt (a := 4) (by omega) (by omega)
    refine ⟨M, ?_, rfl, fun _ _ => rfl, fun u hu => ⟨fun q => absurd q (by omega), fun _ => rfl⟩⟩
    rw [fH_read_26, if_pos h4]
    simp only [a1, if_true, a3, rzD_s, c1]
  | succ j ih =>
    intro k w M hk hw hH
    obtain ⟨w, rfl⟩ : ∃ w', w = w' + 1 := ⟨w - 1, by omega⟩
    have hH0 := hH
    obtain ⟨⟨a1, a2, a3, a4, a5⟩, -, ⟨c1, -⟩, -, -, -, -, -, ⟨i1, i2⟩⟩ := hH
    have h4 : ¬ (4 : Int32) < nI k := nI_nlt (a := 4) (by omega) (by decide)
    have hi : inA (nI k) 5 := inA_nI (by omega) (by decide)
    obtain ⟨M', e1, e2, e3, e4⟩ := ih (k + 1) w (setI M (z + 9) k (-1)) (by omega) (by omega) hH0
    refine ⟨M', ?_, e2, fun c hc => (e3 c hc).trans (by rw [mI_setI, fu_row _ _ hc]), fun u hu => ⟨fun q => ?_, fun q => ?_⟩⟩
    · have hm3 : mI (setI M (z + 9) k (-1)) (z + 2) 3 = mI M (z + 2) 3 := by rw [mI_setI, fu_row _ _ (by omega)]
      rw [hm3] at e1
      rw [fH_read_26, if_neg h4]
      simp only [a1, if_true, a5, rzD_s, i1, i2, if_pos hi, rzM_e, nI_clamp (show k < 2 ^ 31 by omega), nI_1, e1]
    · by_cases huk : u = k
      · rw [(e4 u hu).2 (by omega), huk, mI_setI, fu_eq]
      · exact (e4 u hu).1 (by omega)
    · rw [(e4 u hu).2 (by omega), mI_setI, fu_ne _ _ (fun h => by omega)]
theorem C_read (hn : 200 ≤ n) {D : Nat} (hD : 410 ≤ D) (h : HcI n z M txt s) (hro : Room M 121) : (sent (nb txt) = none → ∃ M', mR n (D + 1) 10 [.ref z] M = some (.inr 1, M') ∧ HcI n z M' txt s ∧ FrO z 121 M M') ∧ ∀ y, sent (nb txt) = some y → ∃ M', mR n (D + 1) 10 [.ref z] M = some (.inl (some (.int (nI y.2.length))), M') ∧ HcI n z M' [] (some (nb txt)) ∧ FrO z 121 M M' := by
  obtain ⟨hH, hT, hz, r1, r2, hR, hsn⟩ := h
  obtain ⟨D, rfl⟩ : ∃ D', D = D' + 1 := ⟨D - 1, by omega⟩
  have hp := x_parse (n := n) (D := D) hn (by omega) hH hT hz hR hro
  have hH0 := hH
  obtain ⟨⟨a1, a2, a3, a4, a5⟩, -, ⟨c1, -⟩, -⟩ := hH
  have ht1 := hT.1
  rw [eH_read]
  simp only [fH_read_0, a1, if_true, a3, rzD_s, c1, a2, ht1]
  refine ⟨fun hno => ?_, fun y hy => ?_⟩
  · obtain ⟨M', e1, e2, e3⟩ := hp.1 hno
    obtain ⟨p1, p2, p3, p4, p5, p6⟩ := frr_parts hH0 hz hR e2 (fun j _ _ => by rw [e3])
    refine ⟨M', by rw [e1, rzC_r], ⟨p1, ⟨by rw [(p2 z (by omega)).1]; exact hT.1, hT.2.1, fun i x hx => by rw [(p2 (z + 1) (by omega)).1]; exact hT.2.2.1 i x hx, hT.2.2.2⟩, by have := p6.2.2.2.1; omega, r1, r2, ⟨hR.1, by rw [e3]; exact hR.2.1, by rw [e3]; exact hR.2.2.1, e2.2.2.2.2, p4, p5⟩, ?_⟩, p6⟩
    cases s with
    | none => show mP M' z 4 = none; rw [(p2 z (by omega)).2]; exact hsn
    | some ts =>
      obtain ⟨y, a, F, g1, g2, g3, g4, g5, g6, g7⟩ := hsn
      exact ⟨y, a, F, g1, g2, by rw [(p2 z (by omega)).2]; exact g3, fun c hc => by rw [(p2 r2 (by omega)).2]; exact g4 c hc, g5, rf_fr (r2 := r2) g6 g5 (fun c hc => p3 c (g4 c hc)), fun k hk => by rw [(p2 (z + 9) (by omega)).1]; exact g7 k hk⟩
  · obtain ⟨M6, a, F, e1, e2, ⟨e3, e4, e5⟩, e6, e7, e8, e9⟩ := hp.2 y hy
    obtain ⟨p1, p2, p3, p4, p5, p6⟩ := frr_parts hH0 hz hR e2 e5
    obtain ⟨M8, hM8⟩ : ∃ M8, M8 = setI (setP M6 z 4 (some a)) z 1 0 := ⟨_, rfl⟩
    have hI8 : ∀ c, c ≠ z → mI M8 c = mI M6 c := fun c hc => by rw [hM8, mI_setI, fu_row _ _ hc]; rfl
    have hP8 : ∀ c, c ≠ z → mP M8 c = mP M6 c := fun c hc => by rw [hM8]; show fu (mP M6) z 4 (some a) c = _; exact fu_row _ _ hc
    have hP8z : ∀ j, j ≠ 4 → mP M8 z j = mP M6 z j := fun j hj => by rw [hM8]; show fu (mP M6) z 4 (some a) z j = _; exact fu_ne _ _ (fun q => hj q.2)
    have hK8 : mK M8 = mK M6 := by rw [hM8]; rfl
    have hL8 : mL M8 = mL M6 := by rw [hM8]; rfl
    have hS8 : mS M8 = mS M6 := by rw [hM8]; rfl
    have hz6 : z + 28 ≤ mS M6 := by have := p6.2.2.2.1; omega
    have hH8 : HcL z M8 := hcl_fr p1 hz6 (fun c _ => ⟨by rw [hK8], by rw [hL8]⟩) (fun c _ _ j h4 _ => Or.inl (by
      by_cases hcz : c = z
      · rw [hcz]; exact hP8z j (fun q => h4 ⟨hcz, q⟩)
      · rw [hP8 c hcz]))
    obtain ⟨M9, g1, g2, g3, g4⟩ := rd_26 (n := n) (D + 1) (mR n (D + 1)) 5 0 n M8 (by omega) (by omega) hH8
    have hP9 : mP M9 = mP M8 := congrArg (fun x => x.1) g2
    have hJ9 : mJ M9 = mJ M8 := congrArg (fun x => x.2.1) g2
    have hK9 : mK M9 = mK M8 := congrArg (fun x => x.2.2.1) g2
    have hL9 : mL M9 = mL M8 := congrArg (fun x => x.2.2.2.1) g2
    have hS9 : mS M9 = mS M8 := congrArg (fun x => x.2.2.2.2.1) g2
    have hU9 : mU M9 = mU M8 := congrArg (fun x => x.2.2.2.2.2.1) g2
    have hC9 : mC M9 = mC M8 := congrArg (fun x => x.2.2.2.2.2.2) g2
    have hkz : mK M6 z = 1 := p1.1.1
    have hr1 : r1 = z + 5 ∨ r1 = z + 6 := by have := hR.1; omega
    have hr2 : r2 = z + 5 ∨ r2 = z + 6 := by have := hR.1; omega
    have hm3 : mI M8 (z + 2) 3 = nI y.2.length := by rw [hI8 (z + 2) (by omega)]; exact e6
    refine ⟨M9, ?_, ⟨hcl_fr hH8 (by omega) (fun c _ => ⟨by rw [hK9], by rw [hL9]⟩) (fun c _ _ j _ _ => Or.inl (by rw [hP9])), ⟨?_, by decide, fun i x hx => (by cases hx), fun x hx => (by cases hx)⟩, by omega, r2, r1, ⟨?_, ?_, ?_, ?_, ?_, ?_⟩, y, a, F, hy, Nat.le_trans (nb_le txt) hT.2.1, ?_, fun c hc => ?_, e8, ?_, fun k hk => Or.inl ?_⟩, ?_⟩
    · have g1' : fH_read_26 n (D + 1) (mR n (D + 1)) n z 0 M8 = _ := g1
      rw [e1, rzC_l, rzP_s, if_pos hkz, rzM_e, rzM_e, ← hM8, g1', hm3]
    · rw [g3 z (by omega), hM8, mI_setI, fu_eq]; rfl
    · have := hR.1; omega
    · rw [hP9, hP8 (z + 2) (by omega)]; exact e3
    · rw [hP9, hP8 (z + 2) (by omega)]; exact e4
    · unfold RowI; rw [hP9, hP8 r2 (by omega), hK9, hK8, hS9, hS8]; exact p4
    · unfold RowI; rw [hP9, hP8 r1 (by omega), hK9, hK8, hS9, hS8]; exact e2.2.2.2.2
    · intro j j' b hj hj' q q'
      rw [hP9, hP8 r2 (by omega)] at q
      rw [hP9, hP8 r1 (by omega)] at q'
      exact p5 j' j b hj' hj q' q
    · rw [hP9, hM8]; exact fu_eq _ _ _ _
    · rw [hP9, hP8 r1 (by omega)]; exact e7 c hc
    · refine rf_fr (r2 := r1) e9 e8 (fun c hc => ?_)
      obtain ⟨j, j1, j2⟩ := e7 c hc
      have k4 := (e2.2.2.2.2.1 j c j1 j2).1
      have hcz : c ≠ z := fun q => by rw [q, hkz] at k4; exact absurd k4 (by decide)
      have hc9 : c ≠ z + 9 := fun q => by rw [q, p1.2.2.2.2.2.2.2.2.1] at k4; exact absurd k4 (by decide)
      exact ⟨by rw [hK9, hK8], by rw [g3 c hc9, hI8 c hcz], by rw [hP9, hP8 c hcz]⟩
    · exact (g4 k hk).1 (Nat.zero_le _)
    · obtain ⟨q1, q2, q3, q4, q5, q6⟩ := p6
      refine ⟨fun c hc => ⟨by rw [hK9, hK8]; exact (q1 c hc).1, by rw [hL9, hL8]; exact (q1 c hc).2⟩, fun c hc hcz hk => ?_, by rw [hC9, hM8]; exact q3, by omega, by omega, by rw [hU9, hM8]; exact q6⟩
      have x := q2 c hc hcz hk
      exact ⟨by rw [g3 c (by omega), hI8 c (by omega)]; exact x.1, by rw [hP9, hP8 c (by omega)]; exact x.2.1, by rw [hJ9, hM8]; exact x.2.2⟩
end CRe
