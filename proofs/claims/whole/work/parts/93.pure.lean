/-! the law, whole -/
section LPu
variable {n z : Nat} {M : Mem} {txt : List Nat} {s : Option (List Nat)}
theorem law_step (hn : 26000000 ≤ n) {D d N p w R : Nat} {sc : Nat → Int32} (hN : N ≤ 1536) (hp : p + 3 ≤ N) (h : LwI n z M txt s (R + 122)) : ∃ M' txt' s', fL_law_23 n d (mR n (D + 1000)) (mR n (D + 999)) sc N (w + 1) z (z + 10) (z + 27) (nI p) M = fL_law_23 n d (mR n (D + 1000)) (mR n (D + 999)) sc N w z (z + 10) (z + 27) (nI (p + 3)) M' ∧ LwI n z M' txt' s' R := by
  have hcond : ¬ (nI N - 3 < nI p) := fun q => by have := (lw_cond hN (by omega)).mp q; omega
  have i0 : inA (nI p) N := inA_nI (by omega) (by omega)
  have i1 : inA (nI p + 1) N := by rw [nI_1]; exact inA_nI (by omega) (by omega)
  have i2 : inA (nI p + 2) N := by rw [show (2 : Int32) = nI 2 from rfl, nI_add]; exact inA_nI (by omega) (by omega)
  have h3 : nI p + 3 = nI (p + 3) := nI_add p 3
  have hkz := h.1.1.1.1
  have hkm := h.2.1.1.1
  have hj0 : inA 0 1 := inA_nI (o := 0) (by decide) (by decide)
  have hc0 : (0 : Int32).toNatClampNeg = 0 := rfl
  rw [fL_law_23, if_neg hcond, if_pos i0]
  by_cases c0 : (sc (nI p).toNatClampNeg &&& 7) = 0
  · rw [if_pos c0, if_pos i1, if_pos i2, if_pos hkz]
    generalize ((((sc (nI p + 1).toNatClampNeg).toInt64) <<< ((32 : Int32).toInt64 &&& 63)) ||| (((sc (nI p + 2).toNatClampNeg).toInt64) &&& 4294967295)) = L
    obtain ⟨M1, e1, e2, e3⟩ := C_write (n := n) (D := D + 998) (by omega) h.1 L
    have e1 : mR n (D + 1000) 5 [.ref z, .long L] M = _ := e1
    obtain ⟨p1, p2, p3, p4⟩ := cls_parts h e3 (by omega)
    obtain ⟨M2, g1, g2, -⟩ := ref_step (d := D + 1000) (j := 67) (args := [.ref (z + 10), .long L]) (v := some (.int (b2i (wOk L txt)))) e2 p1 p2 p3 (fun X hX hL => by
      obtain ⟨X', q1, q2, q3⟩ := R_write (n := n) (D := D + 999) (by omega) hL hX L
      exact ⟨X', q1, q3⟩)
    refine ⟨M2, _, _, ?_, g2⟩
    simp only [e1, rzC_l, rzI_e, if_pos i1, if_pos i2, p4, if_true, g1, fL_law_370, h3]
  · rw [if_neg c0]
    by_cases c1 : (sc (nI p).toNatClampNeg &&& 7) = 1
    · rw [if_pos c1, if_pos hkz]
      obtain ⟨M1, e1, e2, e3⟩ := C_wipe (n := n) (D + 999) h.1
      have e1 : mR n (D + 1000) 8 [.ref z] M = _ := e1
      obtain ⟨p1, p2, p3, p4⟩ := cls_parts h e3 (by omega)
      obtain ⟨M2, g1, g2, -⟩ := ref_step (d := D + 1000) (j := 68) (args := [.ref (z + 10)]) (v := some (.int (nI txt.length))) e2 p1 p2 p3 (fun X hX hL => by
        obtain ⟨X', q1, q2, q3⟩ := R_wipe (n := n) (d := D + 999) hL hX
        exact ⟨X', q1, q3⟩)
      refine ⟨M2, _, _, ?_, g2⟩
      simp only [e1, rzC_l, rzI_e, p4, if_true, g1, fL_law_370, h3]
    · rw [if_neg c1]
      by_cases c2 : (sc (nI p).toNatClampNeg &&& 7) = 2
      · rw [if_pos c2]
        obtain ⟨M1, t, txt1, s1, x, v, e1, e2, p1, p2, p3, p4, e3, e4, e5⟩ := L_read (d := d - 1) (D := D) hn h
        obtain ⟨M2, g1, g2, g3, g4, g5⟩ := ref_step2 (d := D + 999) (j := 70) (args := [.ref (z + 10)]) (v := some (.int x)) (t := t) e2 p1 p2 p3 e5
        have g1 : mR n (D + 1000) 70 [.ref (z + 10)] M1 = _ := g1
        have g2 : mR n (D + 1000) 66 [.ref (z + 10)] M2 = _ := g2
        refine ⟨M2, _, _, ?_, g3⟩
        simp only [e1, rzC_l, rzI_e, p4, if_true, g1, g5, g2]
        by_cases ht : t = 0
        · have hv : mJ M2 (z + 27) 0 = x.toInt64 := by rw [g4, e3 ht, e4]
          simp only [if_pos ht, g3.2.2.1.1, g3.2.2.1.2, if_true, if_pos hj0, hc0, hv, cmp_self, fL_law_191, fL_law_370, h3]
        · simp only [if_neg ht, fL_law_191, fL_law_370, h3]
      · rw [if_neg c2]
        by_cases c3 : (sc (nI p).toNatClampNeg &&& 7) = 3
        · rw [if_pos c3, if_pos i1]
          generalize sc (nI p + 1).toNatClampNeg = a
          obtain ⟨M1, e1, e2, p1, p2, p3, p4, e3⟩ := L_holds (d := d - 1) (D := D) hn h a
          obtain ⟨M2, g1, g2, g3, g4, g5⟩ := ref_step2 (d := D + 999) (j := 94) (args := [.ref (z + 10), .int a]) (v := some (.int (aHold s a).2)) (t := (aHold s a).1) e2 p1 p2 p3 (fun X hX hL => by
            obtain ⟨X', q1, q2, q3⟩ := R_holds (n := n) (d := D + 996) hn hL hX.2.2 a
            exact ⟨X', q1, q2, mod_w hX q3⟩)
          have g1 : mR n (D + 1000) 94 [.ref (z + 10), .int a] M1 = _ := g1
          have g2 : mR n (D + 1000) 66 [.ref (z + 10)] M2 = _ := g2
          refine ⟨M2, _, _, ?_, g3⟩
          simp only [e1, rzC_l, rzI_e, if_pos i1, p4, if_true, g1, g5, g2]
          by_cases ht : (aHold s a).1 = 0
          · have hv := e3 ht
            rw [← g4] at hv
            by_cases hz : (aHold s a).2 = 0
            · rw [if_pos hz] at hv
              simp only [if_pos ht, if_pos hz, g3.2.2.1.1, g3.2.2.1.2, if_true, if_pos hj0, hc0, hv, cmp_self, fL_law_248, fL_law_254, fL_law_370, h3]
            · rw [if_neg hz] at hv
              simp only [if_pos ht, if_neg hz, g3.2.2.1.1, g3.2.2.1.2, if_true, if_pos hj0, hc0, hv, cmp_self, fL_law_248, fL_law_254, fL_law_370, h3]
          · simp only [if_neg ht, fL_law_254, fL_law_370, h3]
        · rw [if_neg c3]
          by_cases c4 : (sc (nI p).toNatClampNeg &&& 7) = 4
          · rw [if_pos c4]
            obtain ⟨M1, e1, e2, p1, p2, p3, p4, e3⟩ := L_fails (d := d - 1) (D := D) hn h
            obtain ⟨M2, g1, g2, g3, g4, g5⟩ := ref_step2 (d := D + 999) (j := 104) (args := [.ref (z + 10)]) (v := some (.int (aFail s).2)) (t := (aFail s).1) e2 p1 p2 p3 (fun X hX hL => by
              obtain ⟨X', q1, q2, q3⟩ := R_fails (n := n) (d := D + 996) hn hL hX.2.2
              exact ⟨X', q1, q2, mod_w hX q3⟩)
            have g1 : mR n (D + 1000) 104 [.ref (z + 10)] M1 = _ := g1
            have g2 : mR n (D + 1000) 66 [.ref (z + 10)] M2 = _ := g2
            refine ⟨M2, _, _, ?_, g3⟩
            simp only [e1, rzC_l, rzI_e, p4, if_true, g1, g5, g2]
            by_cases ht : (aFail s).1 = 0
            · have hv := e3 ht
              rw [← g4] at hv
              simp only [if_pos ht, g3.2.2.1.1, g3.2.2.1.2, if_true, if_pos hj0, hc0, hv, cmp_self, fL_law_298, fL_law_370, h3]
            · simp only [if_neg ht, fL_law_298, fL_law_370, h3]
          · rw [if_neg c4]
            by_cases c5 : (sc (nI p).toNatClampNeg &&& 7) = 5
            · rw [if_pos c5, if_pos i1]
              generalize sc (nI p + 1).toNatClampNeg = a
              obtain ⟨M1, e1, e2, p1, p2, p3, p4, e3⟩ := L_ways (d := d - 1) (D := D) hn h a
              obtain ⟨M2, g1, g2, g3, g4, g5⟩ := ref_step2 (d := D + 999) (j := 105) (args := [.ref (z + 10), .int a]) (v := some (.int (aWays s a).2)) (t := (aWays s a).1) e2 p1 p2 p3 (fun X hX hL => by
                obtain ⟨X', q1, q2, q3⟩ := R_ways (n := n) (d := D + 996) hn hL hX.2.2 a
                exact ⟨X', q1, q2, mod_w hX q3⟩)
              have g1 : mR n (D + 1000) 105 [.ref (z + 10), .int a] M1 = _ := g1
              have g2 : mR n (D + 1000) 66 [.ref (z + 10)] M2 = _ := g2
              refine ⟨M2, _, _, ?_, g3⟩
              simp only [e1, rzC_l, rzI_e, if_pos i1, p4, if_true, g1, g5, g2]
              by_cases ht : (aWays s a).1 = 0
              · have hv := e3 ht
                rw [← g4] at hv
                simp only [if_pos ht, g3.2.2.1.1, g3.2.2.1.2, if_true, if_pos hj0, hc0, hv, cmp_self, fL_law_354, fL_law_370, h3]
              · simp only [if_neg ht, fL_law_354, fL_law_370, h3]
            · rw [if_neg c5]
              by_cases c6 : (sc (nI p).toNatClampNeg &&& 7) = 6
              · rw [if_pos c6, if_pos hkz]
                have e1 := C_length (n := n) (D + 999) h.1
                have e1 : mR n (D + 1000) 9 [.ref z] M = _ := e1
                obtain ⟨M2, g1, g2, -⟩ := ref_step (d := D + 1000) (j := 69) (args := [.ref (z + 10)]) (v := some (.int (nI txt.length))) h.1 h.2.1 h.2.2.1 (room_le (R' := R) h.2.2.2 (by omega)) (fun X hX hL => ⟨_, R_length (n := n) (d := D + 999) hL hX, mod_w hX (frw_0 0)⟩)
                refine ⟨M2, _, _, ?_, g2⟩
                simp only [e1, rzC_l, rzI_e, hkm, if_true, g1, fL_law_370, h3]
              · rw [if_neg c6]
                exact ⟨M, txt, s, by rw [fL_law_370, h3], h.1, h.2.1, h.2.2.1, room_le h.2.2.2 (by omega)⟩
theorem law_loop (hn : 26000000 ≤ n) {D d N : Nat} {sc : Nat → Int32} (hN : N ≤ 1536) : ∀ (j p w : Nat) (M : Mem) (txt : List Nat) (s : Option (List Nat)), N < p + 3 * j + 3 → p ≤ 1536 → j < w → LwI n z M txt s (122 * j) → ∃ M', fL_law_23 n d (mR n (D + 1000)) (mR n (D + 999)) sc N w z (z + 10) (z + 27) (nI p) M = some (.inl (some (.int 1)), M') := by
  intro j
  induction j with
  | zero =>
    intro p w M txt s hp hp2 hw h
    obtain ⟨w, rfl⟩ : ∃ w', w = w' + 1 := ⟨w - 1, by omega⟩
    refine ⟨M, ?_⟩
    rw [fL_law_23, if_pos ((lw_cond hN hp2).mpr (by omega))]
    rfl
  | succ j ih =>
    intro p w M txt s hp hp2 hw h
    obtain ⟨w, rfl⟩ : ∃ w', w = w' + 1 := ⟨w - 1, by omega⟩
    by_cases hc : p + 3 ≤ N
    · obtain ⟨M1, txt1, s1, e1, e2⟩ := law_step (D := D) (d := d) (w := w) (sc := sc) (R := 122 * j) hn hN hc (by rw [show 122 * j + 122 = 122 * (j + 1) by omega]; exact h)
      obtain ⟨M2, f1⟩ := ih (p + 3) w M1 txt1 s1 (by omega) (by omega) (by omega) e2
      exact ⟨M2, by rw [e1, f1]⟩
    · refine ⟨M, ?_⟩
      rw [fL_law_23, if_pos ((lw_cond hN hp2).mpr (by omega))]
      rfl
end LPu
