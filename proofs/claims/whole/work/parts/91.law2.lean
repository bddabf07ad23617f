/-! the law's loop -/
/-- the reference's state in memory -/
def RfI (m : Nat) (M : Mem) (txt : List Nat) (s : Option (List Nat)) : Prop := LayM m M ∧ m + 17 ≤ mS M ∧ ∃ X : Xr, (∀ r, r < 17 → mI M (m + r) = X r) ∧ ModI X txt s
theorem wR_id {m : Nat} {M : Mem} {X : Xr} (h : ∀ r, r < 17 → mI M (m + r) = X r) : wR m 17 M X = M := by
  refine Prod.ext ?_ rfl
  funext b
  show (if m ≤ b ∧ b < m + 17 then X (b - m) else M.1 b) = M.1 b
  by_cases hb : m ≤ b ∧ b < m + 17
  · rw [if_pos hb, ← h (b - m) (by omega), show m + (b - m) = b by omega]; rfl
  · rw [if_neg hb]
theorem lay_kinds {m : Nat} {M : Mem} (h : LayM m M) : ∀ r, r < 17 → mK M (m + r) ≠ 4 := by
  intro r hr
  match r, hr with
  | 0, _ => rw [show m + 0 = m from rfl, h.1]; decide
  | 1, _ => rw [(lm2 h).2.1]; decide
  | 2, _ => rw [(lm6 h).2.1]; decide
  | 3, _ => rw [(lm7 h).2.1]; decide
  | 4, _ => rw [(lm8 h).2.1]; decide
  | 5, _ => rw [(lm9 h).2.1]; decide
  | 6, _ => rw [(lm14 h).2.1]; decide
  | 7, _ => rw [(lm15 h).2.1]; decide
  | 8, _ => rw [(lm16 h).2.1]; decide
  | 9, _ => rw [(lm17 h).2.1]; decide
  | 10, _ => rw [(lm20 h).2.1]; decide
  | 11, _ => rw [(lm21 h).2.1]; decide
  | 12, _ => rw [(lm22 h).2.1]; decide
  | 13, _ => rw [(lm23 h).2.1]; decide
  | 14, _ => rw [(lm36 h).2.1]; decide
  | 15, _ => rw [(lm37 h).2.1]; decide
  | 16, _ => rw [(lm39 h).2.1]; decide
  | r + 17, hr => exact absurd hr (by omega)
theorem lay_fr {m : Nat} {M M' : Mem} (h : LayM m M) (hf : ∀ r, r < 17 → mK M' (m + r) = mK M (m + r) ∧ mL M' (m + r) = mL M (m + r) ∧ mP M' (m + r) = mP M (m + r)) : LayM m M' := by
  have h0 := hf 0 (by decide)
  refine ⟨h0.1.trans h.1, fun x hx => ?_⟩
  obtain ⟨a1, a2, a3⟩ := h.2 x hx
  have hr : x.2.1 < 17 := by
    have : ∀ x ∈ layL, x.2.1 < 17 := by decide
    exact this x hx
  have hx2 := hf x.2.1 hr
  exact ⟨by rw [show mP M' m = mP M m from h0.2.2]; exact a1, hx2.1.trans a2, hx2.2.1.trans a3⟩
/-- all that holds between the law's steps -/
def LwI (n z : Nat) (M : Mem) (txt : List Nat) (s : Option (List Nat)) (R : Nat) : Prop := HcI n z M txt s ∧ RfI (z + 10) M txt s ∧ (mK M (z + 27) = 24 ∧ mL M (z + 27) = 1) ∧ Room M R
section LwS
variable {n z : Nat} {M M' : Mem} {txt txt' : List Nat} {s s' : Option (List Nat)}
/-- behind a call of the class -/
theorem rfi_fr {k : Nat} (hz : z + 28 ≤ mS M) (h : RfI (z + 10) M txt s) (hf : FrO z k M M') : RfI (z + 10) M' txt s := by
  obtain ⟨hL, hm, X, hX, hM⟩ := h
  obtain ⟨f1, f2, f3, f4, f5, f6⟩ := hf
  have hk := lay_kinds hL
  have g : ∀ r, r < 17 → mI M' (z + 10 + r) = mI M (z + 10 + r) ∧ mP M' (z + 10 + r) = mP M (z + 10 + r) := fun r hr => by
    have x := f2 (z + 10 + r) (by omega) (by omega) (hk r hr)
    exact ⟨x.1, x.2.1⟩
  exact ⟨lay_fr hL (fun r hr => ⟨(f1 _ (by omega)).1, (f1 _ (by omega)).2, (g r hr).2⟩), by omega, X, fun r hr => (g r hr).1.trans (hX r hr), hM⟩
theorem room_fr {k R : Nat} (h : Room M R) (hf : FrO z k M M') (hk : k ≤ R) : Room M' (R - k) := by
  obtain ⟨f1, f2, f3, f4, f5, f6⟩ := hf
  exact ⟨by rw [f3]; have := h.1; omega, by have := h.2; omega⟩
/-- behind a call of the reference -/
theorem hci_ref {X' : Xr} (h : HcI n z M txt s) (hL : LayM (z + 10) M) : HcI n z (wR (z + 10) 17 M X') txt s := by
  refine hci_fr h (fun c _ => ⟨rfl, rfl⟩) (Nat.le_refl _) (fun c hc hcc => ⟨rfl, fun _ _ => ?_⟩)
  refine wR_out (fun q => ?_)
  rcases hcc with h1 | h1
  · omega
  · exact lay_kinds hL (c - (z + 10)) (by omega) (by rw [show z + 10 + (c - (z + 10)) = c by omega]; exact h1)
theorem rfi_ref {X' : Xr} (hL : LayM (z + 10) M) (hm : z + 10 + 17 ≤ mS M) (h : ModI X' txt s) : RfI (z + 10) (wR (z + 10) 17 M X') txt s := ⟨hL, hm, X', fun r hr => wR_at hr, h⟩
theorem rzT_l (v : Option Value) (M : Mem) (k : Option Value → Mem → Rz) (kx : Nat → Mem → Rz) : rzT (some (.inl v, M)) k kx = k v M := rfl
theorem rzT_r (x : Nat) (M : Mem) (k : Option Value → Mem → Rz) (kx : Nat → Mem → Rz) : rzT (some (.inr x, M)) k kx = kx x M := rfl
/-- one step of both, on the reference's side -/
theorem ref_step {j : Nat} {args : List Value} {v : Option Value} {d : Nat} (hH : HcI n z M txt s) (hR : RfI (z + 10) M txt' s') (ho : mK M (z + 27) = 24 ∧ mL M (z + 27) = 1) {R : Nat} (hro : Room M R) (hop : ∀ X, ModI X txt' s' → LayM (z + 10) M → ∃ X', mR n d j args (wR (z + 10) 17 M X) = some (.inl v, wR (z + 10) 17 M X') ∧ ModI X' txt s) : ∃ M', mR n d j args M = some (.inl v, M') ∧ LwI n z M' txt s R ∧ mJ M' = mJ M ∧ mK M' = mK M ∧ mL M' = mL M := by
  obtain ⟨hL, hm, X, hX, hM⟩ := hR
  obtain ⟨X', e1, e2⟩ := hop X hM hL
  rw [wR_id hX] at e1
  exact ⟨_, e1, ⟨hci_ref hH hL, rfi_ref hL hm e2, ho, hro⟩, rfl, rfl, rfl⟩
end LwS
