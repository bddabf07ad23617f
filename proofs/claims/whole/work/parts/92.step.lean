/-! one step of the law -/
section LSt
variable {n z : Nat} {M : Mem} {txt txt' : List Nat} {s s' : Option (List Nat)}
theorem ref_step2 {j : Nat} {args : List Value} {v : Option Value} {t : Int32} {d : Nat} (hH : HcI n z M txt s) (hR : RfI (z + 10) M txt' s') (ho : mK M (z + 27) = 24 ∧ mL M (z + 27) = 1) {R : Nat} (hro : Room M R) (hop : ∀ X, ModI X txt' s' → LayM (z + 10) M → ∃ X', mR n (d + 1) j args (wR (z + 10) 17 M X) = some (.inl v, wR (z + 10) 17 M X') ∧ X' 0 0 = t ∧ ModI X' txt s) : ∃ M', mR n (d + 1) j args M = some (.inl v, M') ∧ mR n (d + 1) 66 [.ref (z + 10)] M' = some (.inl (some (.int t)), M') ∧ LwI n z M' txt s R ∧ mJ M' = mJ M ∧ mK M' (z + 10) = 5 := by
  obtain ⟨hL, hm, X, hX, hM⟩ := hR
  obtain ⟨X', e1, e2, e3⟩ := hop X hM hL
  rw [wR_id hX] at e1
  refine ⟨_, e1, ?_, ⟨hci_ref hH hL, rfi_ref hL hm e3, ho, hro⟩, rfl, hL.1⟩
  rw [R_thrown hL, e2]
theorem hci_setJ (h : HcI n z M txt s) (x : Int64) : HcI n z (setJ M (z + 27) 0 x) txt s := hci_fr h (fun c _ => ⟨rfl, rfl⟩) (Nat.le_refl _) (fun c _ _ => ⟨rfl, fun _ _ => rfl⟩)
theorem rfi_setJ (h : RfI (z + 10) M txt s) (x : Int64) : RfI (z + 10) (setJ M (z + 27) 0 x) txt s := by
  obtain ⟨hL, hm, X, hX, hM⟩ := h
  exact ⟨lay_fr hL (fun r _ => ⟨rfl, rfl, rfl⟩), hm, X, hX, hM⟩
theorem lw_setJ {R : Nat} (h : LwI n z M txt s R) (x : Int64) : LwI n z (setJ M (z + 27) 0 x) txt s R := by
  obtain ⟨h1, ⟨hL, hm, X, hX, hM⟩, h3, h4⟩ := h
  exact ⟨hci_fr h1 (fun c _ => ⟨rfl, rfl⟩) (Nat.le_refl _) (fun c _ _ => ⟨rfl, fun _ _ => rfl⟩), ⟨lay_fr hL (fun r _ => ⟨rfl, rfl, rfl⟩), hm, X, hX, hM⟩, h3, h4⟩
theorem modi_ans {X X' : Xr} (h : ModI X txt s) (hf : FrW X X') : ModI X' txt s := mod_w h hf
/-- the pieces behind a call of the class -/
theorem cls_parts {k R : Nat} {M1 : Mem} (h : LwI n z M txt s (R + 122)) (hf : FrO z k M M1) (hk : k ≤ 121) : RfI (z + 10) M1 txt s ∧ (mK M1 (z + 27) = 24 ∧ mL M1 (z + 27) = 1) ∧ Room M1 R ∧ mK M1 (z + 10) = 5 := by
  obtain ⟨h1, h2, h3, h4⟩ := h
  have hz := h1.2.2.1
  have hr := rfi_fr hz h2 hf
  have hx := hf.1 (z + 27) (by omega)
  refine ⟨hr, ⟨hx.1.trans h3.1, hx.2.trans h3.2⟩, ?_, hr.1.1⟩
  have := room_fr h4 hf (by omega)
  exact ⟨by have := this.1; omega, by have := this.2; omega⟩
theorem room_le {R R' : Nat} (h : Room M R) (hr : R' ≤ R) : Room M R' := ⟨by have := h.1; omega, by have := h.2; omega⟩
theorem lw_cond {N p : Nat} (hN : N ≤ 1536) (hp : p ≤ 1536) : (nI N - 3 < nI p) ↔ N < p + 3 := by
  rw [Int32.lt_iff_toInt_lt, show (3 : Int32) = nI 3 from rfl, pk_sub_toInt (by omega) (by omega), nI_toInt (by omega)]
  omega
theorem cmp_self (x : Int64) : lg_cmp x x = 0 := (lg_cmp_eq x x).mpr rfl
theorem L_read (hn : 26000000 ≤ n) {D d R : Nat} (h : LwI n z M txt s (R + 122)) : ∃ M1 t txt1 s1 x v, fL_read_0 n d (mR n (D + 999)) (some z) (some (z + 27)) M = some (.inl (some (.int t)), M1) ∧ HcI n z M1 txt1 s1 ∧ RfI (z + 10) M1 txt s ∧ (mK M1 (z + 27) = 24 ∧ mL M1 (z + 27) = 1) ∧ Room M1 R ∧ mK M1 (z + 10) = 5 ∧ (t = 0 → mJ M1 (z + 27) 0 = v.toInt64) ∧ (v : Int32) = x ∧ ∀ X, ModI X txt s → LayM (z + 10) M1 → ∃ X', mR n (D + 1000) 70 [.ref (z + 10)] (wR (z + 10) 17 M1 X) = some (.inl (some (.int x)), wR (z + 10) 17 M1 X') ∧ X' 0 0 = t ∧ ModI X' txt1 s1 := by
  obtain ⟨h1, h2, h3, h4⟩ := h
  have hkz := h1.1.1.1
  have hc := C_read (n := n) (D := D + 998) (by omega) (by omega) h1 (room_le h4 (by omega))
  cases hy : sent (nb txt) with
  | none =>
    obtain ⟨M1, e1, e2, e3⟩ := hc.1 hy
    have e1 : mR n (D + 999) 10 [.ref z] M = some (.inr 1, M1) := e1
    obtain ⟨p1, p2, p3, p4⟩ := cls_parts ⟨h1, h2, h3, h4⟩ e3 (by omega)
    refine ⟨M1, 1, txt, s, 0, 0, ?_, e2, p1, p2, p3, p4, fun q => absurd q (by decide), rfl, fun X hX hL => ?_⟩
    · simp only [fL_read_0, rzD_s, hkz, if_true, e1, rzT_r]
    · obtain ⟨X', g1, g2, g3, g4, g5⟩ := R_read0 (n := n) (D := D + 991) (by omega) hL hX.1 hX.2.1 hy
      refine ⟨X', g1, g3, ⟨by rw [g5 1 (by omega)]; exact hX.1.1, hX.1.2.1, fun i x hx => by rw [g4 1 (by omega)]; exact hX.1.2.2.1 i x hx, hX.1.2.2.2⟩, g2, ?_⟩
      have hsn := hX.2.2
      cases s with
      | none => exact (g5 3 (by omega)).trans hsn
      | some ts =>
        obtain ⟨a1, a2, y, a3, b1, b2, b3, b4, b5⟩ := hsn
        exact ⟨(g5 3 (by omega)).trans a1, a2, y, a3, (g5 4 (by omega)).trans b1, (g5 5 (by omega)).trans b2, fun i x hx => by rw [g4 2 (by omega), g4 3 (by omega)]; exact b3 i x hx, fun i x hx => by rw [g4 4 (by omega), g4 5 (by omega)]; exact b4 i x hx, (g5 10 (by omega)).trans b5⟩
  | some y =>
    obtain ⟨M1, e1, e2, e3⟩ := hc.2 y hy
    have e1 : mR n (D + 999) 10 [.ref z] M = some (.inl (some (.int (nI y.2.length))), M1) := e1
    obtain ⟨p1, p2, p3, p4⟩ := cls_parts ⟨h1, h2, h3, h4⟩ e3 (by omega)
    have hin0 : inA 0 1 := inA_nI (o := 0) (by decide) (by decide)
    refine ⟨setJ M1 (z + 27) 0 (nI y.2.length).toInt64, 0, [], some (nb txt), nI y.2.length, nI y.2.length, ?_, hci_setJ e2 _, rfi_setJ p1 _, p2, p3, p4, fun _ => by rw [mJ_setJ, fu_eq], rfl, fun X hX hL => ?_⟩
    · simp only [fL_read_0, rzD_s, hkz, if_true, e1, rzT_l, rzI_e, p2.1, p2.2, if_pos hin0, rzM_e]
      rfl
    · obtain ⟨X', g1, g2, g3, g4, g5, g6⟩ := R_read1 (n := n) (D := D + 991) (by omega) hL hX.1 hX.2.1 hy
      exact ⟨X', g1, g3, ⟨g4, by decide, fun i x hx => (by cases hx), fun x hx => (by cases hx)⟩, g2, g5, Nat.le_trans (nb_le txt) hX.1.2.1, y, hy, g6⟩
theorem L_holds (hn : 26000000 ≤ n) {D d R : Nat} (h : LwI n z M txt s (R + 122)) (x : Int32) : ∃ M1, fL_holds_0 n d (mR n (D + 999)) (some z) x (some (z + 27)) M = some (.inl (some (.int (aHold s x).1)), M1) ∧ HcI n z M1 txt s ∧ RfI (z + 10) M1 txt s ∧ (mK M1 (z + 27) = 24 ∧ mL M1 (z + 27) = 1) ∧ Room M1 R ∧ mK M1 (z + 10) = 5 ∧ ((aHold s x).1 = 0 → mJ M1 (z + 27) 0 = if (aHold s x).2 = 0 then 0 else 1) := by
  have hkz := h.1.1.1.1
  have hin0 : inA 0 1 := inA_nI (o := 0) (by decide) (by decide)
  obtain ⟨M1, c1, c2, c3, c4, c5, c6⟩ := C_holds (n := n) (D := D + 998) (by omega) (by omega) h.1 (room_le h.2.2.2 (by omega)) x
  obtain ⟨p1, p2, p3, p4⟩ := cls_parts h c2 (by omega)
  have e21 : ¬ (1 : Nat) = 2 := by decide
  rcases c6 with c | c | c
  · have e := c5 c
    have e : mR n (D + 999) 43 [.ref z, .int x] M = _ := e
    by_cases hz : (aHold s x).2 = 0
    · refine ⟨setJ M1 (z + 27) 0 0, ?_, hci_setJ c1 _, rfi_setJ p1 _, p2, p3, p4, fun _ => by rw [mJ_setJ, fu_eq, if_pos hz]⟩
      rw [c]
      simp only [fL_holds_0, rzD_s, hkz, if_true, e, rzT_l, rzI_e, if_pos hz, p2.1, p2.2, if_pos hin0, rzM_e]
      rfl
    · refine ⟨setJ M1 (z + 27) 0 1, ?_, hci_setJ c1 _, rfi_setJ p1 _, p2, p3, p4, fun _ => by rw [mJ_setJ, fu_eq, if_neg hz]⟩
      rw [c]
      simp only [fL_holds_0, rzD_s, hkz, if_true, e, rzT_l, rzI_e, if_neg hz, p2.1, p2.2, if_pos hin0, rzM_e]
      rfl
  · have e := c3 c
    have e : mR n (D + 999) 43 [.ref z, .int x] M = _ := e
    refine ⟨M1, ?_, c1, p1, p2, p3, p4, fun q => absurd (c.symm.trans q) (by decide)⟩
    rw [c]
    simp only [fL_holds_0, rzD_s, hkz, if_true, e, rzT_r]
  · have e := c4 c
    have e : mR n (D + 999) 43 [.ref z, .int x] M = _ := e
    refine ⟨M1, ?_, c1, p1, p2, p3, p4, fun q => absurd (c.symm.trans q) (by decide)⟩
    rw [c]
    simp only [fL_holds_0, rzD_s, hkz, if_true, e, rzT_r, if_neg e21]
theorem L_ways (hn : 26000000 ≤ n) {D d R : Nat} (h : LwI n z M txt s (R + 122)) (x : Int32) : ∃ M1, fL_ways_0 n d (mR n (D + 999)) (some z) x (some (z + 27)) M = some (.inl (some (.int (aWays s x).1)), M1) ∧ HcI n z M1 txt s ∧ RfI (z + 10) M1 txt s ∧ (mK M1 (z + 27) = 24 ∧ mL M1 (z + 27) = 1) ∧ Room M1 R ∧ mK M1 (z + 10) = 5 ∧ ((aWays s x).1 = 0 → mJ M1 (z + 27) 0 = (aWays s x).2.toInt64) := by
  have hkz := h.1.1.1.1
  have hin0 : inA 0 1 := inA_nI (o := 0) (by decide) (by decide)
  obtain ⟨M1, c1, c2, c3, c4, c5, c6⟩ := C_ways (n := n) (D := D + 998) (by omega) (by omega) h.1 (room_le h.2.2.2 (by omega)) x
  obtain ⟨p1, p2, p3, p4⟩ := cls_parts h c2 (by omega)
  have e21 : ¬ (1 : Nat) = 2 := by decide
  rcases c6 with c | c | c
  · have e := c5 c
    have e : mR n (D + 999) 64 [.ref z, .int x] M = _ := e
    refine ⟨setJ M1 (z + 27) 0 (aWays s x).2.toInt64, ?_, hci_setJ c1 _, rfi_setJ p1 _, p2, p3, p4, fun _ => by rw [mJ_setJ, fu_eq]⟩
    rw [c]
    simp only [fL_ways_0, rzD_s, hkz, if_true, e, rzT_l, rzI_e, p2.1, p2.2, if_pos hin0, rzM_e]
    rfl
  · have e := c3 c
    have e : mR n (D + 999) 64 [.ref z, .int x] M = _ := e
    refine ⟨M1, ?_, c1, p1, p2, p3, p4, fun q => absurd (c.symm.trans q) (by decide)⟩
    rw [c]
    simp only [fL_ways_0, rzD_s, hkz, if_true, e, rzT_r]
  · have e := c4 c
    have e : mR n (D + 999) 64 [.ref z, .int x] M = _ := e
    refine ⟨M1, ?_, c1, p1, p2, p3, p4, fun q => absurd (c.symm.trans q) (by decide)⟩
    rw [c]
    simp only [fL_ways_0, rzD_s, hkz, if_true, e, rzT_r, if_neg e21]
theorem L_fails (hn : 26000000 ≤ n) {D d R : Nat} (h : LwI n z M txt s (R + 122)) : ∃ M1, fL_fails_0 n d (mR n (D + 999)) (some z) (some (z + 27)) M = some (.inl (some (.int (aFail s).1)), M1) ∧ HcI n z M1 txt s ∧ RfI (z + 10) M1 txt s ∧ (mK M1 (z + 27) = 24 ∧ mL M1 (z + 27) = 1) ∧ Room M1 R ∧ mK M1 (z + 10) = 5 ∧ ((aFail s).1 = 0 → mJ M1 (z + 27) 0 = (aFail s).2.toInt64) := by
  have hkz := h.1.1.1.1
  have hin0 : inA 0 1 := inA_nI (o := 0) (by decide) (by decide)
  obtain ⟨M1, c1, c2, c3, c5, c6⟩ := C_fails (n := n) (D := D + 998) (by omega) (by omega) h.1 (room_le h.2.2.2 (by omega))
  obtain ⟨p1, p2, p3, p4⟩ := cls_parts h c2 (by omega)
  rcases c6 with c | c
  · have e := c5 c
    have e : mR n (D + 999) 63 [.ref z] M = _ := e
    refine ⟨setJ M1 (z + 27) 0 (aFail s).2.toInt64, ?_, hci_setJ c1 _, rfi_setJ p1 _, p2, p3, p4, fun _ => by rw [mJ_setJ, fu_eq]⟩
    rw [c]
    simp only [fL_fails_0, rzD_s, hkz, if_true, e, rzT_l, rzI_e, p2.1, p2.2, if_pos hin0, rzM_e]
    rfl
  · have e := c3 c
    have e : mR n (D + 999) 63 [.ref z] M = _ := e
    refine ⟨M1, ?_, c1, p1, p2, p3, p4, fun q => absurd (c.symm.trans q) (by decide)⟩
    rw [c]
    simp only [fL_fails_0, rzD_s, hkz, if_true, e, rzT_r]
end LSt
