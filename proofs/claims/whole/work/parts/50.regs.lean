/-! rows of ints at an address, as a function of their own -/
theorem rzM_e (X : Mem) (k : Mem → Rz) : rzM X k = k X := rfl
theorem rzD_s (a : Nat) (k : Nat → Rz) : rzD (some a) k = k a := rfl
theorem rzC_l (v : Option Value) (M : Mem) (k : Option Value → Mem → Rz) : rzC (some (.inl v, M)) k = k v M := rfl
theorem rzC_r (x : Nat) (M : Mem) (k : Option Value → Mem → Rz) : rzC (some (.inr x, M)) k = some (.inr x, M) := rfl
theorem rzI_e (x : Int32) (k : Int32 → Rz) : rzI (some (.int x)) k = k x := rfl
theorem rzP_s (a : Nat) (k : Option Nat → Rz) : rzP (some (.ref a)) k = k (some a) := rfl
theorem rzP_n (k : Option Nat → Rz) : rzP (some .null) k = k none := rfl
theorem rzP_e (r : Option Nat) (k : Option Nat → Rz) : rzP (some (va_rf r)) k = k r := by cases r <;> rfl
theorem rzV_e (k : Rz) : rzV none k = k := rfl
theorem rzN_s (a : Nat) (X : Rz) (k : Nat → Rz) : rzN (some a) X k = k a := rfl
theorem rzN_n (X : Rz) (k : Nat → Rz) : rzN none X k = X := rfl
abbrev Xr : Type := Nat → Nat → Int32
def xs (X : Xr) (r j : Nat) (v : Int32) : Xr := fun r' j' => if r' = r ∧ j' = j then v else X r' j'
/-- the memory M with the rows X at the K cells from a on -/
def wR (a K : Nat) (M : Mem) (X : Xr) : Mem := (fun b => if a ≤ b ∧ b < a + K then X (b - a) else M.1 b, M.2)
section WR
variable {a K : Nat} {M : Mem} {X : Xr}
theorem mP_wR : mP (wR a K M X) = mP M := rfl
theorem mJ_wR : mJ (wR a K M X) = mJ M := rfl
theorem mK_wR : mK (wR a K M X) = mK M := rfl
theorem mL_wR : mL (wR a K M X) = mL M := rfl
theorem mS_wR : mS (wR a K M X) = mS M := rfl
theorem mU_wR : mU (wR a K M X) = mU M := rfl
theorem mC_wR : mC (wR a K M X) = mC M := rfl
theorem wR_at {r : Nat} (h : r < K) : mI (wR a K M X) (a + r) = X r := by
  show (if a ≤ a + r ∧ a + r < a + K then X (a + r - a) else M.1 (a + r)) = X r
  rw [if_pos ⟨by omega, by omega⟩, Nat.add_sub_cancel_left]
theorem wR_at0 (h : 0 < K) : mI (wR a K M X) a = X 0 := wR_at (a := a) (r := 0) h
theorem wR_out {b : Nat} (h : ¬ (a ≤ b ∧ b < a + K)) : mI (wR a K M X) b = mI M b := if_neg h
theorem wR_set {r j : Nat} {v : Int32} (h : r < K) : setI (wR a K M X) (a + r) j v = wR a K M (xs X r j v) := by
  refine Prod.ext ?_ rfl
  funext b i
  show (if b = a + r ∧ i = j then v else (if a ≤ b ∧ b < a + K then X (b - a) else M.1 b) i) = (if a ≤ b ∧ b < a + K then xs X r j v (b - a) else M.1 b) i
  by_cases hb : a ≤ b ∧ b < a + K
  · rw [if_pos hb, if_pos hb]
    unfold xs
    by_cases hr : b = a + r
    · rw [hr, Nat.add_sub_cancel_left]
      simp
    · have : ¬ b - a = r := by omega
      simp [hr, this]
  · rw [if_neg hb, if_neg hb]
    rw [if_neg (fun q => hb (by omega))]
theorem wR_set0 {j : Nat} {v : Int32} (h : 0 < K) : setI (wR a K M X) a j v = wR a K M (xs X 0 j v) := wR_set (r := 0) h
theorem wR_self (a K : Nat) (M : Mem) : wR a K M (fun r j => mI M (a + r) j) = M := by
  refine Prod.ext ?_ rfl
  funext b
  show (if a ≤ b ∧ b < a + K then (fun j => mI M (a + (b - a)) j) else M.1 b) = M.1 b
  by_cases hb : a ≤ b ∧ b < a + K
  · rw [if_pos hb, show a + (b - a) = b by omega]
    rfl
  · rw [if_neg hb]
theorem wR_wR (Y : Xr) : wR a K (wR a K M X) Y = wR a K M Y := by
  refine Prod.ext ?_ rfl
  funext b
  show (if a ≤ b ∧ b < a + K then Y (b - a) else if a ≤ b ∧ b < a + K then X (b - a) else M.1 b) = if a ≤ b ∧ b < a + K then Y (b - a) else M.1 b
  by_cases hb : a ≤ b ∧ b < a + K
  · rw [if_pos hb, if_pos hb]
  · rw [if_neg hb, if_neg hb, if_neg hb]
end WR
theorem xs_eq (X : Xr) (r j : Nat) (v : Int32) : xs X r j v r j = v := by simp [xs]
theorem xs_row (X : Xr) {r r' : Nat} (j : Nat) (v : Int32) (h : r' ≠ r) : xs X r j v r' = X r' := by funext i; simp [xs, h]
theorem xs_idx (X : Xr) (r : Nat) {j j' : Nat} (v : Int32) (h : j' ≠ j) : xs X r j v r j' = X r j' := by simp [xs, h]
/-- where the reference's rows lie: field, place behind the object, kind, length -/
def layL : List (Nat × Nat × Nat × Nat) := [(2, 1, 22, 120), (6, 2, 21, 260), (7, 3, 21, 260), (8, 4, 23, 4), (9, 5, 23, 4), (14, 6, 21, 260), (15, 7, 21, 260), (16, 8, 23, 4), (17, 9, 23, 4), (20, 10, 21, 140), (21, 11, 21, 140), (22, 12, 21, 140), (23, 13, 21, 6), (36, 14, 21, 4), (37, 15, 21, 4), (39, 16, 21, 260)]
def LayM (m : Nat) (M : Mem) : Prop := mK M m = 5 ∧ ∀ x ∈ layL, mP M m x.1 = some (m + x.2.1) ∧ mK M (m + x.2.1) = x.2.2.1 ∧ mL M (m + x.2.1) = x.2.2.2
theorem inA_nI {o L : Nat} (h : o < L) (hL : L < 2 ^ 31) : inA (nI o) L := nI_in h hL
theorem lm2 {m : Nat} {M : Mem} (hL : LayM m M) : mP M m 2 = some (m + 1) ∧ mK M (m + 1) = 22 ∧ mL M (m + 1) = 120 := hL.2 (2, 1, 22, 120) (by decide)
theorem lm6 {m : Nat} {M : Mem} (hL : LayM m M) : mP M m 6 = some (m + 2) ∧ mK M (m + 2) = 21 ∧ mL M (m + 2) = 260 := hL.2 (6, 2, 21, 260) (by decide)
theorem lm7 {m : Nat} {M : Mem} (hL : LayM m M) : mP M m 7 = some (m + 3) ∧ mK M (m + 3) = 21 ∧ mL M (m + 3) = 260 := hL.2 (7, 3, 21, 260) (by decide)
theorem lm8 {m : Nat} {M : Mem} (hL : LayM m M) : mP M m 8 = some (m + 4) ∧ mK M (m + 4) = 23 ∧ mL M (m + 4) = 4 := hL.2 (8, 4, 23, 4) (by decide)
theorem lm9 {m : Nat} {M : Mem} (hL : LayM m M) : mP M m 9 = some (m + 5) ∧ mK M (m + 5) = 23 ∧ mL M (m + 5) = 4 := hL.2 (9, 5, 23, 4) (by decide)
theorem lm14 {m : Nat} {M : Mem} (hL : LayM m M) : mP M m 14 = some (m + 6) ∧ mK M (m + 6) = 21 ∧ mL M (m + 6) = 260 := hL.2 (14, 6, 21, 260) (by decide)
theorem lm15 {m : Nat} {M : Mem} (hL : LayM m M) : mP M m 15 = some (m + 7) ∧ mK M (m + 7) = 21 ∧ mL M (m + 7) = 260 := hL.2 (15, 7, 21, 260) (by decide)
theorem lm16 {m : Nat} {M : Mem} (hL : LayM m M) : mP M m 16 = some (m + 8) ∧ mK M (m + 8) = 23 ∧ mL M (m + 8) = 4 := hL.2 (16, 8, 23, 4) (by decide)
theorem lm17 {m : Nat} {M : Mem} (hL : LayM m M) : mP M m 17 = some (m + 9) ∧ mK M (m + 9) = 23 ∧ mL M (m + 9) = 4 := hL.2 (17, 9, 23, 4) (by decide)
theorem lm20 {m : Nat} {M : Mem} (hL : LayM m M) : mP M m 20 = some (m + 10) ∧ mK M (m + 10) = 21 ∧ mL M (m + 10) = 140 := hL.2 (20, 10, 21, 140) (by decide)
theorem lm21 {m : Nat} {M : Mem} (hL : LayM m M) : mP M m 21 = some (m + 11) ∧ mK M (m + 11) = 21 ∧ mL M (m + 11) = 140 := hL.2 (21, 11, 21, 140) (by decide)
theorem lm22 {m : Nat} {M : Mem} (hL : LayM m M) : mP M m 22 = some (m + 12) ∧ mK M (m + 12) = 21 ∧ mL M (m + 12) = 140 := hL.2 (22, 12, 21, 140) (by decide)
theorem lm23 {m : Nat} {M : Mem} (hL : LayM m M) : mP M m 23 = some (m + 13) ∧ mK M (m + 13) = 21 ∧ mL M (m + 13) = 6 := hL.2 (23, 13, 21, 6) (by decide)
theorem lm36 {m : Nat} {M : Mem} (hL : LayM m M) : mP M m 36 = some (m + 14) ∧ mK M (m + 14) = 21 ∧ mL M (m + 14) = 4 := hL.2 (36, 14, 21, 4) (by decide)
theorem lm37 {m : Nat} {M : Mem} (hL : LayM m M) : mP M m 37 = some (m + 15) ∧ mK M (m + 15) = 21 ∧ mL M (m + 15) = 4 := hL.2 (37, 15, 21, 4) (by decide)
theorem lm39 {m : Nat} {M : Mem} (hL : LayM m M) : mP M m 39 = some (m + 16) ∧ mK M (m + 16) = 21 ∧ mL M (m + 16) = 260 := hL.2 (39, 16, 21, 260) (by decide)
section ModelLeaves
variable {n d m : Nat} {M : Mem} {X : Xr}
theorem x_push (hL : LayM m M) {o : Nat} (ho : X 0 19 = nI o) (h : o < 140) (w : Int32) : mR n (d + 1) 75 [.ref m, .int w] (wR m 17 M X) = some (.inl none, wR m 17 M (xs (xs X 10 o w) 0 19 (nI (o + 1)))) := by
  obtain ⟨h1, h2, h3⟩ := lm20 hL
  rw [eM_push]
  have hi : inA (nI o) 140 := inA_nI h (by decide)
  have hc : (nI o).toNatClampNeg = o := nI_clamp (by omega)
  simp only [fM_push_0, mK_wR, mP_wR, mL_wR, hL.1, h1, h2, h3, if_true, rzD_s, rzM_e, wR_at0 (K := 17) (by decide), ho, if_pos hi, hc, wR_set (K := 17) (r := 10) (by decide), wR_set0 (K := 17) (by decide), xs_row _ _ _ (show 0 ≠ 10 by decide), nI_1]
theorem x_emit (hL : LayM m M) {o : Nat} (ho : X 0 12 = nI o) (h : o < 260) (w a : Int32) : mR n (d + 1) 81 [.ref m, .int w, .int a] (wR m 17 M X) = some (.inl none, wR m 17 M (xs (xs (xs X 6 o w) 7 o a) 0 12 (nI (o + 1)))) := by
  obtain ⟨h1, h2, h3⟩ := lm14 hL
  obtain ⟨g1, g2, g3⟩ := lm15 hL
  rw [eM_emit]
  have hi : inA (nI o) 260 := inA_nI h (by decide)
  have hc : (nI o).toNatClampNeg = o := nI_clamp (by omega)
  simp only [fM_emit_0, mK_wR, mP_wR, mL_wR, hL.1, h1, h2, h3, g1, g2, g3, if_true, rzD_s, rzM_e, wR_at0 (K := 17) (by decide), ho, if_pos hi, hc, wR_set (K := 17) (r := 6) (by decide), wR_set (K := 17) (r := 7) (by decide), wR_set0 (K := 17) (by decide), xs_row _ _ _ (show 0 ≠ 6 by decide), xs_row _ _ _ (show 0 ≠ 7 by decide), nI_1]
theorem x_upper0 (hL : LayM m M) (ho : X 0 19 = nI 0) : mR n (d + 1) 85 [.ref m] (wR m 17 M X) = some (.inl (some (.int 0)), wR m 17 M X) := by
  rw [eM_upper]
  simp only [fM_upper_0, fM_upper_22, mK_wR, hL.1, if_true, wR_at0 (K := 17) (by decide), ho, nI_0]
theorem x_upper (hL : LayM m M) {o : Nat} (ho : X 0 19 = nI (o + 1)) (h : o < 140) : mR n (d + 1) 85 [.ref m] (wR m 17 M X) = some (.inl (some (.int (X 10 o))), wR m 17 M X) := by
  obtain ⟨h1, h2, h3⟩ := lm20 hL
  rw [eM_upper]
  have hi : inA (nI o) 140 := inA_nI h (by decide)
  have hc : (nI o).toNatClampNeg = o := nI_clamp (by omega)
  have h0 : ¬ nI (o + 1) = 0 := nI_ne0 (by omega) (by omega)
  simp only [fM_upper_0, fM_upper_22, mK_wR, mP_wR, mL_wR, hL.1, h1, h2, h3, if_true, rzD_s, wR_at0 (K := 17) (by decide), wR_at (K := 17) (r := 10) (by decide), ho, if_neg h0, nI_pred, if_pos hi, hc]
theorem x_close (hL : LayM m M) {o e : Nat} (ho : X 0 19 = nI (o + 1)) (he : X 0 24 = nI (e + 1)) : mR n (d + 1) 86 [.ref m] (wR m 17 M X) = some (.inl none, wR m 17 M (xs (xs X 0 19 (nI o)) 0 24 (nI e))) := by
  rw [eM_close]
  simp only [fM_close_0, mK_wR, hL.1, if_true, rzM_e, wR_at0 (K := 17) (by decide), ho, nI_pred, wR_set0 (K := 17) (by decide), xs_idx _ _ _ (show 24 ≠ 19 by decide), he]
end ModelLeaves
