/-! the reader over a whole text, in memory: the loop -/
def nb (r : List Nat) : List Nat := r.filter (fun x => decide (x ≠ 32))
/-- does it open with A or E -/
def opn (r : List Nat) : Bool := match r with
  | [] => false
  | x :: _ => decide (x = 65) || decide (x = 69)
theorem nb_cons (x : Nat) (r : List Nat) : nb (x :: r) = if x = 32 then nb r else x :: nb r := by
  unfold nb
  rw [List.filter_cons]
  by_cases h : x = 32 <;> simp [h]
section RSl
variable {n D m : Nat} {M : Mem}
theorem R_sloop (hn : 200 ≤ n) (hL : LayM m M) {L : Nat} (hL120 : L ≤ 120) : ∀ (r : List Nat) (i w : Nat) (X : Xr) (S : AS) (fst o : Bool), i + r.length = L → r.length < w → X 0 1 = nI L → (∀ q x, r[q]? = some x → X 1 (i + q) = nI x) → (∀ x ∈ r, 32 ≤ x ∧ x ≤ 126) → X 0 18 = nI S.1 → RelS X S → Gd i S → BCs S → Qs S ≤ 2 * i → X 0 11 = b2i o →
    ∃ X', fM_isSentence_55 n (D + 7) (mR n (D + 7)) w m (b2i fst) (nI i) (wR m 17 M X) = some (.inl (some (.int (b2i (aFin S (nb r)).isSome))), wR m 17 M X') ∧ FrS X X' ∧ SigX X' ∧ ∀ y, aFin S (nb r) = some y → TookX X' y (if fst = true ∧ nb r ≠ [] then opn (nb r) else o) := by
  intro r
  induction r with
  | nil =>
    intro i w X S fst o hi hw h1 ht hch h18 hR hG hbc hQ h11
    obtain ⟨w, rfl⟩ : ∃ w', w = w' + 1 := ⟨w - 1, by omega⟩
    simp only [List.length_nil, Nat.add_zero] at hi
    subst hi
    obtain ⟨st, d, σ, p, c, b, lp⟩ := S
    have hQ245 : Qs (st, d, σ, p, c, b, lp) ≤ 245 := by omega
    obtain ⟨X', e1, e2, e3, e4⟩ := R_134 (n := n) (D := D) (o := o) hn hL h18 hR hG hbc (by omega) hQ245 h11
    have hle : X 0 1 ≤ nI i := by rw [h1]; exact nI_le (Nat.le_refl _) (by omega)
    refine ⟨X', ?_, e2, e3, fun y hy => ?_⟩
    · rw [fM_isSentence_55]
      simp only [mK_wR, hL.1, if_true, wR_at0 (K := 17) (by decide), if_pos hle, e1]
      rfl
    · rw [if_neg (fun q => q.2 rfl)]
      exact e4 y hy
  | cons x r ih =>
    intro i w X S fst o hi hw h1 ht hch h18 hR hG hbc hQ h11
    obtain ⟨w, rfl⟩ : ∃ w', w = w' + 1 := ⟨w - 1, by omega⟩
    simp only [List.length_cons] at hi hw
    have hx := hch x List.mem_cons_self
    have hchr : ∀ y ∈ r, 32 ≤ y ∧ y ≤ 126 := fun y hy => hch y (List.mem_cons_of_mem _ hy)
    have hxi : X 1 i = nI x := ht 0 x rfl
    have htr : ∀ q y, r[q]? = some y → X 1 (i + 1 + q) = nI y := fun q y hq => by
      have := ht (q + 1) y hq
      rw [show i + 1 + q = i + (q + 1) by omega]
      exact this
    have hgt : ¬ X 0 1 ≤ nI i := by rw [h1]; exact nI_ge (by omega) (by omega)
    by_cases h10 : S.1 = 10
    · obtain ⟨st, d, σ, p, c, b, lp⟩ := S
      have h10 : st = 10 := h10
      subst h10
      have hQ245 : Qs (10, d, σ, p, c, b, lp) ≤ 245 := by omega
      obtain ⟨X', e1, e2, e3, e4⟩ := R_134 (n := n) (D := D) (o := o) hn hL h18 hR hG hbc (by omega) hQ245 h11
      have hz : X 0 18 = 10 := h18
      have hacc : aAcc (10, d, σ, p, c, b, lp) = none := rfl
      rw [aFin_10]
      rw [hacc] at e1
      refine ⟨X', ?_, e2, e3, fun y hy => by cases hy⟩
      rw [fM_isSentence_55]
      simp only [mK_wR, hL.1, if_true, wR_at0 (K := 17) (by decide), if_neg hgt, if_pos hz, e1]
    · have hg10 : S.1 ≤ 10 := hG.2.2.2
      have hz : ¬ X 0 18 = 10 := by rw [h18, show (10 : Int32) = nI 10 from rfl, nI_eq (by omega) (by omega)]; exact h10
      obtain ⟨l1, l2, l3⟩ := lm2 hL
      have hin : inA (nI i) 120 := inA_nI (by omega) (by decide)
      have hcl : (nI i).toNatClampNeg = i := nI_clamp (by omega)
      have q32 := cq (ch := x) (by omega) 32 (by decide) (x := 32) rfl
      by_cases h32 : x = 32
      · have hfr := hG
        obtain ⟨X', e1, e2, e3, e4⟩ := ih (i + 1) w X S fst o (by omega) (by omega) h1 htr hchr h18 hR ⟨hG.1.more (Nat.le_succ i), hG.2⟩ hbc (by omega) h11
        rw [nb_cons, if_pos h32]
        refine ⟨X', ?_, e2, e3, e4⟩
        rw [fM_isSentence_55]
        simp only [mK_wR, mP_wR, mL_wR, hL.1, l1, l2, l3, if_true, rzD_s, wR_at0 (K := 17) (by decide), wR_at (K := 17) (r := 1) (by decide), if_neg hgt, if_neg hz, if_pos hin, hcl, hxi, q32, if_pos h32, fM_isSentence_128, nI_1, e1]
      · rw [nb_cons, if_neg h32]
        -- the step, with the flag o' written before it
        have hstep : ∀ (o' : Bool), ∃ X', fM_isSentence_114 n (D + 7) (mR n (D + 7)) (fM_isSentence_55 n (D + 7) (mR n (D + 7)) w) m (nI i) (nI x) (b2i o') m (wR m 17 M X) = some (.inl (some (.int (b2i (aFin S (x :: nb r)).isSome))), wR m 17 M X') ∧ FrS X X' ∧ SigX X' ∧ ∀ y, aFin S (x :: nb r) = some y → TookX X' y o' := by
          intro o'
          obtain ⟨st, d, σ, p, c, b, lp⟩ := S
          have hR0 : RelP (xs X 0 11 (b2i o')) d σ p c b lp := RelP.oth hR (b2i o') (Or.inl rfl)
          have h18' : xs X 0 11 (b2i o') 0 18 = nI st := by rw [xs_idx _ _ _ (by decide)]; exact h18
          obtain ⟨X1, s1, s2, s3⟩ := R_next (n := n) (D := D) (ch := x) hn hL h18' hR0 hG hbc (by omega) (by omega) (by omega)
          have hG1 := gd_Next (ch := x) hG
          have hbc1 := bc_Next (ch := x) hbc
          have hQ1 := q_Next (d := d) (ch := x) (σ := σ) (p := p) (c := c) (b := b) (lp := lp) st (fun q => (hG.2.2.1 q).1)
          have hfin : aFin (st, d, σ, p, c, b, lp) (x :: nb r) = aFin (aNext (st, d, σ, p, c, b, lp) x) (nb r) := rfl
          rw [hfin]
          generalize aNext (st, d, σ, p, c, b, lp) x = S1 at *
          have hX1 : ∀ j, (j = 1 ∨ j = 11) → X1 0 j = xs X 0 11 (b2i o') 0 j := fun j hj => s3.2 j (by omega)
          have t1 : xs X1 0 18 (nI S1.1) 0 1 = nI L := by
            rw [xs_idx _ _ _ (by decide), hX1 1 (by omega), xs_idx _ _ _ (by decide)]
            exact h1
          have tr : xs X1 0 18 (nI S1.1) 1 = X 1 := by
            rw [xs_row _ _ _ (by decide), s3.1 1 (by omega), xs_row _ _ _ (by decide)]
          have t11 : xs X1 0 18 (nI S1.1) 0 11 = b2i o' := by
            rw [xs_idx _ _ _ (by decide), hX1 11 (by omega), xs_eq]
          obtain ⟨X', e1, e2, e3, e4⟩ := ih (i + 1) w (xs X1 0 18 (nI S1.1)) S1 false o' (by omega) (by omega) t1 (fun q y hq => by rw [tr]; exact htr q y hq) hchr (xs_eq _ _ _ _) (RelP.oth s2 _ (Or.inr rfl)) hG1 hbc1 (by omega) t11
          refine ⟨X', ?_, ((frS_fld (by omega)).trans s3.s).trans ((frS_fld (by omega)).trans e2), e3, fun y hy => ?_⟩
          · have hfb : fits .boolean (.int (b2i o')) = true := by cases o' <;> rfl
            have e1' : fM_isSentence_55 n (D + 7) (mR n (D + 7)) w m 0 (nI (i + 1)) (wR m 17 M (xs X1 0 18 (nI S1.1))) = _ := e1
            simp only [fM_isSentence_114, mK_wR, hL.1, if_true, hfb, rzM_e, wR_set0 (K := 17) (by decide), s1, rzC_l, rzI_e, fM_isSentence_128, nI_1, e1']
          · have := e4 y hy
            rw [if_neg (fun q => by cases q.1)] at this
            exact this
        have hne : x :: nb r ≠ [] := by simp
        have q65 := cq (ch := x) (by omega) 65 (by decide) (x := 65) rfl
        have q69 := cq (ch := x) (by omega) 69 (by decide) (x := 69) rfl
        cases fst with
        | false =>
          obtain ⟨X', e1, e2, e3, e4⟩ := hstep o
          refine ⟨X', ?_, e2, e3, fun y hy => ?_⟩
          · have z0 : b2i false = 0 := rfl
            rw [fM_isSentence_55]
            simp only [mK_wR, mP_wR, mL_wR, hL.1, l1, l2, l3, if_true, rzD_s, wR_at0 (K := 17) (by decide), wR_at (K := 17) (r := 1) (by decide), if_neg hgt, if_neg hz, if_pos hin, hcl, hxi, q32, if_neg h32, z0, h11, e1]
          · rw [if_neg (fun q => by cases q.1)]
            exact e4 y hy
        | true =>
          have z0 : ¬ b2i true = 0 := by decide
          obtain ⟨X', e1, e2, e3, e4⟩ := hstep (opn (x :: nb r))
          refine ⟨X', ?_, e2, e3, fun y hy => by rw [if_pos ⟨rfl, hne⟩]; exact e4 y hy⟩
          rw [fM_isSentence_55]
          by_cases h65 : x = 65
          · have ho : opn (x :: nb r) = true := by simp [opn, h65]
            rw [ho] at e1
            have e1' : fM_isSentence_114 n (D + 7) (mR n (D + 7)) (fM_isSentence_55 n (D + 7) (mR n (D + 7)) w) m (nI i) (nI x) 1 m (wR m 17 M X) = _ := e1
            simp only [mK_wR, mP_wR, mL_wR, hL.1, l1, l2, l3, if_true, rzD_s, wR_at0 (K := 17) (by decide), wR_at (K := 17) (r := 1) (by decide), if_neg hgt, if_neg hz, if_pos hin, hcl, hxi, q32, if_neg h32, if_neg z0, q65, if_pos h65, fM_isSentence_102, e1']
          · by_cases h69 : x = 69
            · have ho : opn (x :: nb r) = true := by simp [opn, h69]
              rw [ho] at e1
              have e1' : fM_isSentence_114 n (D + 7) (mR n (D + 7)) (fM_isSentence_55 n (D + 7) (mR n (D + 7)) w) m (nI i) (nI x) 1 m (wR m 17 M X) = _ := e1
              simp only [mK_wR, mP_wR, mL_wR, hL.1, l1, l2, l3, if_true, rzD_s, wR_at0 (K := 17) (by decide), wR_at (K := 17) (r := 1) (by decide), if_neg hgt, if_neg hz, if_pos hin, hcl, hxi, q32, if_neg h32, if_neg z0, q65, if_neg h65, q69, if_pos h69, fM_isSentence_102, e1']
            · have ho : opn (x :: nb r) = false := by simp [opn, h65, h69]
              rw [ho] at e1
              have e1' : fM_isSentence_114 n (D + 7) (mR n (D + 7)) (fM_isSentence_55 n (D + 7) (mR n (D + 7)) w) m (nI i) (nI x) 0 m (wR m 17 M X) = _ := e1
              simp only [mK_wR, mP_wR, mL_wR, hL.1, l1, l2, l3, if_true, rzD_s, wR_at0 (K := 17) (by decide), wR_at (K := 17) (r := 1) (by decide), if_neg hgt, if_neg hz, if_pos hin, hcl, hxi, q32, if_neg h32, if_neg z0, q65, if_neg h65, q69, if_neg h69, e1']
end RSl
