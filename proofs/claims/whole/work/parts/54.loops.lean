/-! the reader's own loops in memory -/
section RL
variable {n D m d : Nat} {M : Mem} {X : Xr} {σ : Nat → Nat} {p : Pl} {c : Od} {b : Bd} {lp : List (Bool × Bool)}
theorem nI_top {p : Pl} (h : ∀ x ∈ p, x.1 ≤ 11) {k : Nat} (hk : k < 100) : nI (topP p) = nI k ↔ topP p = k := by
  have h1 : topP p ≤ 11 := by
    cases p with
    | nil => exact Nat.zero_le _
    | cons x p => exact h x List.mem_cons_self
  exact nI_eq (by omega) (by omega)
theorem R_settle (hL : LayM m M) {a a2 : Nat} (ha : a ≠ 0 ∧ a ≠ 4 ∧ a ≠ 6 ∧ a ≠ 10 ∧ a < 12) (ha2 : a2 ≠ 0 ∧ a2 ≠ 4 ∧ a2 ≠ 6 ∧ a2 ≠ 10 ∧ a2 < 12) : ∀ (p : Pl) (c : Od) (X : Xr) (w : Nat), p.length < w → p.length ≤ 140 → (∀ x ∈ p, x.1 ≤ 11) → c.length + wsum p ≤ 260 → RelP X d σ p c b lp →
    ∃ X', fM_settle_0 n (D + 1) (mR n (D + 1)) w m (nI a) (nI a2) (wR m 17 M X) = some (.inl none, wR m 17 M X') ∧ RelP X' d σ (setL a a2 p c).1 (setL a a2 p c).2 b lp ∧ FrX X X' := by
  intro p
  induction p with
  | nil =>
    intro c X w hw hp hk hq h
    obtain ⟨w, rfl⟩ : ∃ w', w = w' + 1 := ⟨w - 1, by omega⟩
    have h1 : ¬ nI (topP []) = nI a := by rw [nI_top hk (by omega)]; exact fun q => ha.1 q.symm
    have h2 : ¬ nI (topP []) = nI a2 := by rw [nI_top hk (by omega)]; exact fun q => ha2.1 q.symm
    refine ⟨X, ?_, h, FrX.refl X⟩
    rw [fM_settle_0]
    simp only [mK_wR, hL.1, if_true, R_upper hL h hp, rzC_l, rzI_e, if_neg h1, if_neg h2]
  | cons x p ih =>
    intro c X w hw hp hk hq h
    obtain ⟨w, rfl⟩ : ∃ w', w = w' + 1 := ⟨w - 1, by omega⟩
    simp only [List.length_cons] at hw hp
    by_cases hx : x.1 = a ∨ x.1 = a2
    · have hw1 : wt x = 1 := by unfold wt; rw [if_neg (by omega)]
      simp only [wsum, hw1] at hq
      have hpop := h.pop
      obtain ⟨X1, g1, g2, g3⟩ := R_emit (n := n) (D := D) hL hpop (by omega) x.1 0 (a := 0) (Or.inl nI_0.symm) rfl
      obtain ⟨X', e1, e2, e3⟩ := ih (c ++ [(x.1, 0)]) X1 w (by omega) (by omega) (fun y hy => hk y (List.mem_cons_of_mem _ hy)) (by simp only [List.length_append, List.length_cons, List.length_nil]; omega) g2
      have h10 := (h.2.2.2.2.2.1 p.length x (by simp)).1
      obtain ⟨l1, l2, l3⟩ := lm20 hL
      have hi : inA (nI p.length) 140 := inA_nI (by omega) (by decide)
      have hcl : (nI p.length).toNatClampNeg = p.length := nI_clamp (by omega)
      have h19 : X 0 19 = nI (p.length + 1) := h.2.1
      have hxe : xs X 0 19 (nI p.length) 10 p.length = nI x.1 := by rw [xs_row _ _ _ (by decide)]; exact h10
      have hbody : fM_settle_16 n (D + 1) (mR n (D + 1)) (fM_settle_0 n (D + 1) (mR n (D + 1)) w) m (nI a) (nI a2) (wR m 17 M X) = some (.inl none, wR m 17 M X') := by
        simp only [fM_settle_16, mK_wR, mP_wR, mL_wR, hL.1, l1, l2, l3, if_true, rzM_e, rzD_s, wR_at0 (K := 17) (by decide), wR_at (K := 17) (r := 10) (by decide), h19, nI_pred, wR_set0 (K := 17) (by decide), xs_eq, if_pos hi, hcl, hxe, g1, rzC_l, rzV_e, e1]
      refine ⟨X', ?_, by simp only [setL, if_pos hx]; exact e2, ((frX_fld (by omega)).trans g3).trans e3⟩
      rw [fM_settle_0]
      have hup := R_upper (n := n) (D := D) hL h (by simp only [List.length_cons]; omega)
      by_cases hxa : x.1 = a
      · have h1 : nI (topP (x :: p)) = nI a := by rw [nI_top hk (by omega)]; exact hxa
        simp only [mK_wR, hL.1, if_true, hup, rzC_l, rzI_e, if_pos h1, hbody]
      · have hxb : x.1 = a2 := by omega
        have h1 : ¬ nI (topP (x :: p)) = nI a := by rw [nI_top hk (by omega)]; exact hxa
        have h2 : nI (topP (x :: p)) = nI a2 := by rw [nI_top hk (by omega)]; exact hxb
        simp only [mK_wR, hL.1, if_true, hup, rzC_l, rzI_e, if_neg h1, if_pos h2, hbody]
    · have h1 : ¬ nI (topP (x :: p)) = nI a := by rw [nI_top hk (by omega)]; exact fun q => hx (Or.inl q)
      have h2 : ¬ nI (topP (x :: p)) = nI a2 := by rw [nI_top hk (by omega)]; exact fun q => hx (Or.inr q)
      refine ⟨X, ?_, by simp only [setL, if_neg hx]; exact h, FrX.refl X⟩
      rw [fM_settle_0]
      simp only [mK_wR, hL.1, if_true, R_upper hL h (by simp only [List.length_cons]; omega), rzC_l, rzI_e, if_neg h1, if_neg h2]
theorem R_settleM (hn : 200 ≤ n) (hL : LayM m M) {a a2 : Nat} (ha : a ≠ 0 ∧ a ≠ 4 ∧ a ≠ 6 ∧ a ≠ 10 ∧ a < 12) (ha2 : a2 ≠ 0 ∧ a2 ≠ 4 ∧ a2 ≠ 6 ∧ a2 ≠ 10 ∧ a2 < 12) (hp : p.length ≤ 140) (hk : ∀ x ∈ p, x.1 ≤ 11) (hq : c.length + wsum p ≤ 260) (h : RelP X d σ p c b lp) {w w2 : Int32} (hw : w = nI a) (hw2 : w2 = nI a2) :
    ∃ X', mR n (D + 2) 84 [.ref m, .int w, .int w2] (wR m 17 M X) = some (.inl none, wR m 17 M X') ∧ RelP X' d σ (setL a a2 p c).1 (setL a a2 p c).2 b lp ∧ FrX X X' := by
  subst hw hw2
  rw [eM_settle]
  exact R_settle hL ha ha2 p c X n (by omega) hp hk hq h
theorem RelP.bnd (h : RelP X d σ p c b lp) (v : Nat) (o : Option Nat) : RelP (xs X 13 v (oI o)) d σ p c (fun j => if j = v then o else b j) lp := by
  obtain ⟨r1, r2, r3, r4, r5, r6, r7, r8, r9⟩ := h
  refine ⟨?_, ?_, ?_, ?_, ?_, ?_, ?_, ?_, ?_⟩
  · simp [xs, r1]
  · simp [xs, r2]
  · simp [xs, r3]
  · simp [xs, r4]
  · intro i y hy
    simpa [xs] using r5 i y hy
  · intro i y hy
    simpa [xs] using r6 i y hy
  · intro u hu
    by_cases hj : u = v
    · subst hj; simp [xs]
    · simpa [xs, hj] using r7 u hu
  · intro i y hy
    simpa [xs] using r8 i y hy
  · intro j h2 h11
    simpa [xs] using r9 j h2 h11
theorem R_wholeOne (hL : LayM m M) : ∀ (p : Pl) (d : Nat) (c : Od) (b : Bd) (X : Xr) (w : Nat), p.length < w → p.length ≤ 140 → (∀ x ∈ p, x.1 ≤ 11) → c.length + wsum p ≤ 260 → dp p = d → (∀ x ∈ p, x.1 = 5 → x.2.1 < 6) → BC p b → RelP X d σ p c b lp →
    ∃ X', fM_wholeOne_0 n (D + 1) (mR n (D + 1)) w m (wR m 17 M X) = some (.inl (some (.int 1)), wR m 17 M X') ∧ RelP X' (wOneL p d c b).2.1 σ (wOneL p d c b).1 (wOneL p d c b).2.2.1 (wOneL p d c b).2.2.2 lp ∧ FrX X X' := by
  intro p
  induction p with
  | nil =>
    intro d c b X w hw hp hk hq hd hv hbc h
    obtain ⟨w, rfl⟩ : ∃ w', w = w' + 1 := ⟨w - 1, by omega⟩
    have h1 : ¬ nI (topP []) = 3 := by rw [show (3 : Int32) = nI 3 from rfl, nI_top hk (by omega)]; decide
    have h2 : ¬ nI (topP []) = 5 := by rw [show (5 : Int32) = nI 5 from rfl, nI_top hk (by omega)]; decide
    refine ⟨X, ?_, h, FrX.refl X⟩
    rw [fM_wholeOne_0]
    simp only [mK_wR, hL.1, if_true, R_upper hL h hp, rzC_l, rzI_e, if_neg h1, if_neg h2]
  | cons x p ih =>
    intro d c b X w hw hp hk hq hd hv hbc h
    obtain ⟨w, rfl⟩ : ∃ w', w = w' + 1 := ⟨w - 1, by omega⟩
    have hup := R_upper (n := n) (D := D) hL h (by simp only [List.length_cons] at hp ⊢; omega)
    simp only [List.length_cons] at hw hp
    have hkp : ∀ y ∈ p, y.1 ≤ 11 := fun y hy => hk y (List.mem_cons_of_mem _ hy)
    have hvp : ∀ y ∈ p, y.1 = 5 → y.2.1 < 6 := fun y hy => hv y (List.mem_cons_of_mem _ hy)
    obtain ⟨l1, l2, l3⟩ := lm21 hL
    have hi : inA (nI p.length) 140 := inA_nI (by omega) (by decide)
    have hcl : (nI p.length).toNatClampNeg = p.length := nI_clamp (by omega)
    have h19 : X 0 19 = nI (p.length + 1) := h.2.1
    by_cases hx3 : x.1 = 3
    · have hw1 : wt x = 1 := by unfold wt; rw [if_neg (by omega)]
      have hd1 : dk x = 1 := by unfold dk; rw [if_pos (by omega)]
      simp only [wsum, hw1] at hq
      simp only [dp, hd1] at hd
      obtain ⟨e, rfl⟩ : ∃ e, d = e + 1 := ⟨d - 1, by omega⟩
      obtain ⟨X1, g1, g2, g3⟩ := R_emit (n := n) (D := D) hL h (by omega) 3 0 (a := 0) (Or.inl nI_0.symm) (w' := 3) rfl
      obtain ⟨X2, k1, k2, k3⟩ := R_close (n := n) (D := D) hL g2
      unfold BC at hbc
      rw [if_neg (by omega)] at hbc
      obtain ⟨X', e1, e2, e3⟩ := ih e (c ++ [(3, 0)]) b X2 w (by omega) (by omega) hkp (by simp only [List.length_append, List.length_cons, List.length_nil]; omega) (by omega) hvp hbc k2
      have h3 : nI (topP (x :: p)) = 3 := by rw [show (3 : Int32) = nI 3 from rfl, nI_top hk (by omega)]; exact hx3
      refine ⟨X', ?_, by simp only [wOneL, if_pos hx3]; exact e2, (g3.trans k3).trans e3⟩
      rw [fM_wholeOne_0]
      simp only [mK_wR, hL.1, if_true, hup, rzC_l, rzI_e, if_pos h3, fM_wholeOne_16, mP_wR, mL_wR, l1, l2, l3, rzD_s, wR_at0 (K := 17) (by decide), h19, nI_pred, if_pos hi, g1, rzV_e, fM_wholeOne_73, k1, e1]
    · by_cases hx5 : x.1 = 5
      · have hw1 : wt x = 1 := by unfold wt; rw [if_neg (by omega)]
        have hd1 : dk x = 1 := by unfold dk; rw [if_pos (by omega)]
        simp only [wsum, hw1] at hq
        simp only [dp, hd1] at hd
        obtain ⟨e, rfl⟩ : ∃ e, d = e + 1 := ⟨d - 1, by omega⟩
        unfold BC at hbc
        rw [if_pos hx5] at hbc
        obtain ⟨q, hq1⟩ := Option.isSome_iff_exists.mp hbc.1
        have hv6 := hv x List.mem_cons_self hx5
        have hpl := (h.2.2.2.2.2.1 p.length x (by simp)).2 hx5
        have h13 := h.2.2.2.2.2.2.1 x.2.1 hv6
        obtain ⟨X1, g1, g2, g3⟩ := R_emit (n := n) (D := D) hL h (by omega) 5 ((b x.2.1).getD 0) (a := X 13 x.2.1) (Or.inl (by rw [h13, hq1]; rfl)) (w' := 5) rfl
        have hpl1 := (g2.2.2.2.2.2.1 p.length x (by simp)).2 hx5
        have g19 : X1 0 19 = nI (p.length + 1) := g2.2.1
        obtain ⟨X2, k1, k2, k3⟩ := R_close (n := n) (D := D) hL (g2.bnd x.2.1 x.2.2)
        obtain ⟨X', e1, e2, e3⟩ := ih e (c ++ [(5, (b x.2.1).getD 0)]) (fun j => if j = x.2.1 then x.2.2 else b j) X2 w (by omega) (by omega) hkp (by simp only [List.length_append, List.length_cons, List.length_nil]; omega) (by omega) hvp hbc.2 k2
        have h3 : ¬ nI (topP (x :: p)) = 3 := by rw [show (3 : Int32) = nI 3 from rfl, nI_top hk (by omega)]; exact hx3
        have h5 : nI (topP (x :: p)) = 5 := by rw [show (5 : Int32) = nI 5 from rfl, nI_top hk (by omega)]; exact hx5
        obtain ⟨l4, l5, l6⟩ := lm22 hL
        obtain ⟨l7, l8, l9⟩ := lm23 hL
        have hi6 : inA (nI x.2.1) 6 := inA_nI hv6 (by decide)
        have hcl6 : (nI x.2.1).toNatClampNeg = x.2.1 := nI_clamp (by omega)
        refine ⟨X', ?_, by simp only [wOneL, if_neg hx3, if_pos hx5]; exact e2, ((g3.trans (frX_row (by omega))).trans k3).trans e3⟩
        rw [fM_wholeOne_0]
        simp only [mK_wR, hL.1, if_true, hup, rzC_l, rzI_e, if_neg h3, if_pos h5, fM_wholeOne_16, mP_wR, mL_wR, l1, l2, l3, l4, l5, l6, l7, l8, l9, rzD_s, rzM_e, wR_at0 (K := 17) (by decide), wR_at (K := 17) (r := 11) (by decide), wR_at (K := 17) (r := 12) (by decide), wR_at (K := 17) (r := 13) (by decide), wR_set (K := 17) (r := 13) (by decide), h19, g19, nI_pred, if_pos hi, hcl, hpl.1, if_pos hi6, hcl6, g1, rzV_e, hpl1.2, fM_wholeOne_73, k1, e1]
      · have h1 : ¬ nI (topP (x :: p)) = 3 := by rw [show (3 : Int32) = nI 3 from rfl, nI_top hk (by omega)]; exact hx3
        have h2 : ¬ nI (topP (x :: p)) = 5 := by rw [show (5 : Int32) = nI 5 from rfl, nI_top hk (by omega)]; exact hx5
        refine ⟨X, ?_, by simp only [wOneL, if_neg hx3, if_neg hx5]; exact h, FrX.refl X⟩
        rw [fM_wholeOne_0]
        simp only [mK_wR, hL.1, if_true, hup, rzC_l, rzI_e, if_neg h1, if_neg h2]
end RL
