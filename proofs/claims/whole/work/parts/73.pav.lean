/-! the parser: variables, numbers, rows of pieces -/
section PaV
variable {n d p sg bd rw : Nat} {M : Mem} {T : List Nat} {i qn mk : Nat} {b : Bd}
theorem ix_loop (D : Nat) (C : Cx) (x4 : Int32) (M : Mem) (w : Nat) : fT_indexOfChar_7 n D C (w + 7) (some (mC M 5)) 6 x4 0 M = some (.inl (some (.int (if (105 : Int32) = x4 then 0 else if (106 : Int32) = x4 then 1 else if (107 : Int32) = x4 then 2 else if (88 : Int32) = x4 then 3 else if (89 : Int32) = x4 then 4 else if (90 : Int32) = x4 then 5 else -1))), M) := by
  rw [fT_indexOfChar_7, if_neg (show ¬ (6 : Int32) ≤ 0 by decide), rzD_s, if_pos rfl, if_pos (show inA (0 : Int32) 6 from inA_nI (o := 0) (by decide) (by decide)), show sVar.getD (0 : Int32).toNatClampNeg 0 = 105 from rfl]
  by_cases h0 : (105 : Int32) = x4
  · rw [if_pos h0, if_pos h0]
  · rw [if_neg h0, if_neg h0]
    rw [fT_indexOfChar_7, if_neg (show ¬ (6 : Int32) ≤ 0 + 1 by decide), rzD_s, if_pos rfl, if_pos (show inA (0 + 1 : Int32) 6 from inA_nI (o := 1) (by decide) (by decide)), show sVar.getD (0 + 1 : Int32).toNatClampNeg 0 = 106 from rfl]
    by_cases h1 : (106 : Int32) = x4
    · rw [if_pos h1, if_pos h1]; rfl
    · rw [if_neg h1, if_neg h1]
      rw [fT_indexOfChar_7, if_neg (show ¬ (6 : Int32) ≤ 0 + 1 + 1 by decide), rzD_s, if_pos rfl, if_pos (show inA (0 + 1 + 1 : Int32) 6 from inA_nI (o := 2) (by decide) (by decide)), show sVar.getD (0 + 1 + 1 : Int32).toNatClampNeg 0 = 107 from rfl]
      by_cases h2 : (107 : Int32) = x4
      · rw [if_pos h2, if_pos h2]; rfl
      · rw [if_neg h2, if_neg h2]
        rw [fT_indexOfChar_7, if_neg (show ¬ (6 : Int32) ≤ 0 + 1 + 1 + 1 by decide), rzD_s, if_pos rfl, if_pos (show inA (0 + 1 + 1 + 1 : Int32) 6 from inA_nI (o := 3) (by decide) (by decide)), show sVar.getD (0 + 1 + 1 + 1 : Int32).toNatClampNeg 0 = 88 from rfl]
        by_cases h3 : (88 : Int32) = x4
        · rw [if_pos h3, if_pos h3]; rfl
        · rw [if_neg h3, if_neg h3]
          rw [fT_indexOfChar_7, if_neg (show ¬ (6 : Int32) ≤ 0 + 1 + 1 + 1 + 1 by decide), rzD_s, if_pos rfl, if_pos (show inA (0 + 1 + 1 + 1 + 1 : Int32) 6 from inA_nI (o := 4) (by decide) (by decide)), show sVar.getD (0 + 1 + 1 + 1 + 1 : Int32).toNatClampNeg 0 = 89 from rfl]
          by_cases h4 : (89 : Int32) = x4
          · rw [if_pos h4, if_pos h4]; rfl
          · rw [if_neg h4, if_neg h4]
            rw [fT_indexOfChar_7, if_neg (show ¬ (6 : Int32) ≤ 0 + 1 + 1 + 1 + 1 + 1 by decide), rzD_s, if_pos rfl, if_pos (show inA (0 + 1 + 1 + 1 + 1 + 1 : Int32) 6 from inA_nI (o := 5) (by decide) (by decide)), show sVar.getD (0 + 1 + 1 + 1 + 1 + 1 : Int32).toNatClampNeg 0 = 90 from rfl]
            by_cases h5 : (90 : Int32) = x4
            · rw [if_pos h5, if_pos h5]; rfl
            · rw [if_neg h5, if_neg h5]
              rw [fT_indexOfChar_7, if_pos (show (6 : Int32) ≤ 0 + 1 + 1 + 1 + 1 + 1 + 1 by decide)]
theorem ix_val : ∀ c, c < 127 → (if (105 : Int32) = nI c then (0 : Int32) else if (106 : Int32) = nI c then 1 else if (107 : Int32) = nI c then 2 else if (88 : Int32) = nI c then 3 else if (89 : Int32) = nI c then 4 else if (90 : Int32) = nI c then 5 else -1) = oI (varO c) := by decide +kernel
theorem ix_i8 : ∀ c, c < 127 → (nI c).toInt8.toInt32 = nI c := by decide +kernel
theorem x_indexOf (hn : 7 ≤ n) {c : Nat} (hc : c < 127) (M : Mem) : mR n (d + 5) 24 [.ref (mC M 1), .int (nI c)] M = some (.inl (some (.int (oI (varO c)))), M) := by
  have e3 : mR n (d + 2) 3 [.ref (mC M 1)] M = some (.inl (some (.int 0)), M) := by
    rw [eS_coder, fS_coder_0, if_neg (by decide), if_pos rfl]
    rfl
  have e2 : mR n (d + 3) 2 [.ref (mC M 1)] M = some (.inl (some (.int 6)), M) := by
    rw [eS_length]
    simp only [fS_length_0, if_true, e3, rzC_l, rzI_e]
    rfl
  have e26 : mR n (d + 3) 26 [.ref (mC M 1)] M = some (.inl (some (.int 1)), M) := by
    rw [eS_isLatin1, fS_isLatin1_0, if_neg (by decide), if_pos rfl, if_pos rfl]
    rfl
  have c0 : ¬ nI c < 0 := nI_pos (by omega)
  have c255 : ¬ (255 : Int32) < nI c := nI_nlt (b := c) (a := 255) (by omega) (by decide)
  have e28 : mR n (d + 2) 28 [.int (nI c)] M = some (.inl (some (.int 1)), M) := by
    rw [eT_canEncode, fT_canEncode_0, if_neg c0, if_neg c255]
    rfl
  have e29 : mR n (d + 2) 29 [va_rf (some (mC M 5)), .int (nI c), .int 0, .int 6] M = some (.inl (some (.int (oI (varO c)))), M) := by
    obtain ⟨w, rfl⟩ : ∃ w, n = w + 7 := ⟨n - 7, by omega⟩
    rw [eT_indexOfChar, fT_indexOfChar_0, ix_i8 c hc, ix_loop, ix_val c hc]
  have n1 : ¬ (1 : Int32) = 0 := by decide
  have i0 : (if (0 : Int32) < 0 then (0 : Int32) else 0) = 0 := by decide
  have i6 : (if (6 : Int32) < 6 then (6 : Int32) else 6) = 6 := by decide
  have lt6 : (0 : Int32) < 6 := by decide
  have e27 : mR n (d + 3) 27 [.ref (mC M 5), .int (nI c), .int 0, .int 6] M = some (.inl (some (.int (oI (varO c)))), M) := by
    show mR n (d + 3) 27 [va_rf (some (mC M 5)), .int (nI c), .int 0, .int 6] M = _
    rw [eT_indexOf, fT_indexOf_0, e28, rzC_l, rzI_e, if_neg n1, rzD_s, if_pos rfl, i0, i6, if_pos lt6, e29, rzC_l, rzI_e]
  have e25 : mR n (d + 4) 25 [.ref (mC M 1), .int (nI c), .int 0] M = some (.inl (some (.int (oI (varO c)))), M) := by
    rw [eS_indexOf2, fS_indexOf2_0, if_pos rfl, e26, rzC_l, rzI_e, if_neg n1, if_pos rfl, if_pos rfl, e2, rzC_l, rzI_e, e27, rzC_l, rzI_e]
    rfl
  rw [eS_indexOf, fS_indexOf_0, if_pos rfl, e25, rzC_l, rzI_e]
/-- a variable that is bound -/
theorem x_bv (hn : 7 ≤ n) (hd : 8 ≤ d) (h : PaS p sg bd rw M T i qn mk b) {c : Nat} (hc : c < 127) : (∀ v, varO c = some v → (b v).isSome = true → mR n (d + 6) 41 [.ref p, .int (nI c)] M = some (.inl (some (.int (nI v))), M)) ∧ ((∀ v, varO c = some v → (b v).isSome = false) → Thr p bd rw mk M (mR n (d + 6) 41 [.ref p, .int (nI c)] M)) := by
  have hP := h
  obtain ⟨⟨k1, -, -, -, k5, k6, k7, -⟩, -, -, hb, -⟩ := h
  have hix := x_indexOf (n := n) (d := d) hn hc M
  rw [eP_boundVariable]
  cases hv : varO c with
  | none =>
    rw [hv] at hix
    have hix : mR n (d + 5) 24 [.ref (mC M 1), .int (nI c)] M = some (.inl (some (.int (-1))), M) := hix
    refine ⟨fun v q => (by cases q), fun _ => ?_⟩
    have hl : (-1 : Int32) < 0 := by decide
    simp only [fP_boundVariable_0, fP_boundVariable_33, fP_boundVariable_34, if_true, hix, rzC_l, rzI_e, if_pos hl]
    exact thr_c (x_insist0 (n := n) (d := d + 4) (by omega) hP)
  | some v =>
    rw [hv] at hix
    have hix : mR n (d + 5) 24 [.ref (mC M 1), .int (nI c)] M = some (.inl (some (.int (nI v))), M) := hix
    have hv6 := varO_lt hv
    have h0 : ¬ nI v < 0 := nI_pos (by omega)
    have h6 : ¬ nI 6 ≤ nI v := nI_ge hv6 (by decide)
    have hin : inA (nI v) 6 := inA_nI hv6 (by decide)
    have hcl : (nI v).toNatClampNeg = v := nI_clamp (by omega)
    have hbv := hb v hv6
    refine ⟨fun v' q hs => ?_, fun q => ?_⟩
    · cases q
      rw [hs] at hbv
      have hbv : mI M bd v = 1 := hbv
      have n1 : ¬ (1 : Int32) = 0 := by decide
      simp only [fP_boundVariable_0, fP_boundVariable_33, fP_boundVariable_34, if_true, hix, rzC_l, rzI_e, if_neg h0, k1, k5, rzD_s, k6, k7, if_neg h6, if_pos hin, hcl, hbv, if_neg n1, x_insist1, rzV_e]
    · rw [q v rfl] at hbv
      have hbv : mI M bd v = 0 := hbv
      simp only [fP_boundVariable_0, fP_boundVariable_33, fP_boundVariable_34, if_true, hix, rzC_l, rzI_e, if_neg h0, k1, k5, rzD_s, k6, k7, if_neg h6, if_pos hin, hcl, hbv]
      exact thr_c (x_insist0 (n := n) (d := d + 4) (by omega) hP)
theorem x_isDec {c : Nat} (hc : c < 1000) (M : Mem) : mR n (d + 1) 34 [.int (nI c)] M = some (.inl (some (.int (b2i (isDg c)))), M) := by
  have h48 : (nI c < 48) ↔ c < 48 := nI_ltI (b := 48) (by omega) (by decide)
  have h57 : (57 < nI c) ↔ 57 < c := nI_ltI (a := 57) (by decide) (by omega)
  rw [eP_isDecimal]
  unfold fP_isDecimal_0 fP_isDecimal_16 fP_isDecimal_17 isDg
  by_cases c1 : c < 48
  · rw [if_pos (h48.mpr c1), decide_eq_false (show ¬ 48 ≤ c by omega)]; rfl
  · rw [if_neg (fun q => c1 (h48.mp q)), decide_eq_true (show 48 ≤ c by omega)]
    by_cases c2 : 57 < c
    · rw [if_pos (h57.mpr c2), decide_eq_false (show ¬ c ≤ 57 by omega)]; rfl
    · rw [if_neg (fun q => c2 (h57.mp q)), decide_eq_true (show c ≤ 57 by omega)]; rfl
theorem hd_lt (h : PaS p sg bd rw M T i qn mk b) : (T.drop i).headD 0 < 127 := by
  cases hd : T.drop i with
  | nil => exact (by decide : 0 < 127)
  | cons y r => exact Nat.lt_of_le_of_lt (h.2.2.2.2.2.2.2.2.2 y (List.mem_of_mem_drop (by rw [hd]; exact List.mem_cons_self))).2 (by decide)
theorem dg_0 : isDg 0 = false := by decide
theorem num_nd {l : List Nat} (h : isDg (l.headD 0) = false) : l.takeWhile isDg = [] ∧ l.dropWhile isDg = l := by
  cases l with
  | nil => exact ⟨rfl, rfl⟩
  | cons x r =>
    have h : isDg x = false := h
    exact ⟨by rw [List.takeWhile_cons, if_neg (by rw [h]; decide)], by rw [List.dropWhile_cons, if_neg (by rw [h]; decide)]⟩
theorem num_d {l : List Nat} (h : isDg (l.headD 0) = true) : ∃ r, l = l.headD 0 :: r ∧ l.tail = r ∧ l.takeWhile isDg = l.headD 0 :: r.takeWhile isDg ∧ l.dropWhile isDg = r.dropWhile isDg := by
  cases l with
  | nil => exact absurd h (by decide)
  | cons x r =>
    have h : isDg x = true := h
    exact ⟨r, rfl, rfl, by rw [List.takeWhile_cons, if_pos h]; rfl, by rw [List.dropWhile_cons, if_pos h]⟩
/-- the digits of a number -/
theorem x_num4 (hd : 8 ≤ d) (D : Nat) : ∀ (j k v w i : Nat) (M : Mem), k + j = 3 → j < w → PaS p sg bd rw M T i qn mk b →
    ((1 ≤ k + ((T.drop i).takeWhile isDg).length ∧ k + ((T.drop i).takeWhile isDg).length ≤ 3) → ∃ M' i', fP_number_4 n D (mR n (d + 3)) w p (nI v) (nI k) M = some (.inl (some (.int (nI (((T.drop i).takeWhile isDg).foldl (fun v c => 10 * v + (c - 48)) v)))), M') ∧ PaS p sg bd rw M' T i' qn mk b ∧ T.drop i' = (T.drop i).dropWhile isDg ∧ ∀ k0 k, FrK p bd rw k0 k M M') ∧
    (¬ (1 ≤ k + ((T.drop i).takeWhile isDg).length ∧ k + ((T.drop i).takeWhile isDg).length ≤ 3) → Thr p bd rw mk M (fP_number_4 n D (mR n (d + 3)) w p (nI v) (nI k) M)) := by
  have e38 : ∀ (k v i : Nat) (M : Mem), k ≤ 3 → PaS p sg bd rw M T i qn mk b → (isDg ((T.drop i).headD 0) = false → 0 < k → fP_number_38 n D (mR n (d + 3)) p (nI v) (nI k) M = some (.inl (some (.int (nI v))), M)) ∧ ((isDg ((T.drop i).headD 0) = true ∨ k = 0) → Thr p bd rw mk M (fP_number_38 n D (mR n (d + 3)) p (nI v) (nI k) M)) := by
    intro k v i M hk h
    have hpk := x_peek (n := n) (d := d + 2) h
    have hdc := x_isDec (n := n) (d := d + 2) (Nat.lt_trans (hd_lt h) (by decide)) M
    have h1 := h.1.1
    refine ⟨fun h0 hk0 => ?_, fun h0 => ?_⟩
    · rw [h0] at hdc
      have hdc : mR n (d + 3) 34 [.int (nI ((T.drop i).headD 0))] M = some (.inl (some (.int 0)), M) := hdc
      simp only [fP_number_38, fP_number_57, if_neg (nI_nle hk0 (by omega)), h1, if_true, hpk, rzC_l, rzI_e, hdc, x_insist1, rzV_e]
    · by_cases hk0 : k = 0
      · subst hk0
        have hz : nI 0 ≤ 0 := by decide
        simp only [fP_number_38, fP_number_56, fP_number_57, if_pos hz]
        exact thr_c (x_insist0 (n := n) (d := d + 2) (by omega) h)
      · rw [h0.resolve_right hk0] at hdc
        have hdc : mR n (d + 3) 34 [.int (nI ((T.drop i).headD 0))] M = some (.inl (some (.int 1)), M) := hdc
        have n1 : ¬ (1 : Int32) = 0 := by decide
        simp only [fP_number_38, fP_number_56, fP_number_57, if_neg (nI_nle (show 0 < k by omega) (by omega)), h1, if_true, hpk, rzC_l, rzI_e, hdc, if_neg n1]
        exact thr_c (x_insist0 (n := n) (d := d + 2) (by omega) h)
  intro j
  induction j with
  | zero =>
    intro k v w i M hk hw h
    obtain ⟨w, rfl⟩ : ∃ w', w = w' + 1 := ⟨w - 1, by omega⟩
    have hk3 : k = 3 := by omega
    subst hk3
    obtain ⟨a1, a2⟩ := e38 3 v i M (by omega) h
    have h3 : (3 : Int32) ≤ nI 3 := by decide
    rw [fP_number_4, if_pos h3]
    cases hdg : isDg ((T.drop i).headD 0) with
    | false =>
      obtain ⟨t1, t2⟩ := num_nd hdg
      rw [t1, t2]
      exact ⟨fun _ => ⟨M, i, a1 hdg (by omega), h, rfl, fun k0 k => frk_refl⟩, fun q => absurd q (by simp)⟩
    | true =>
      obtain ⟨r, t0, t1, t2, t3⟩ := num_d hdg
      rw [t2]
      exact ⟨fun q => absurd q (by simp), fun _ => a2 (Or.inl hdg)⟩
  | succ j ih =>
    intro k v w i M hk hw h
    obtain ⟨w, rfl⟩ : ∃ w', w = w' + 1 := ⟨w - 1, by omega⟩
    have h3 : ¬ (3 : Int32) ≤ nI k := nI_ge (b := 3) (by omega) (by decide)
    have hpk := x_peek (n := n) (d := d + 2) h
    have hdc := x_isDec (n := n) (d := d + 2) (Nat.lt_trans (hd_lt h) (by decide)) M
    have h1 := h.1.1
    obtain ⟨a1, a2⟩ := e38 k v i M (by omega) h
    rw [fP_number_4, if_neg h3]
    cases hdg : isDg ((T.drop i).headD 0) with
    | false =>
      rw [hdg] at hdc
      have hdc : mR n (d + 3) 34 [.int (nI ((T.drop i).headD 0))] M = some (.inl (some (.int 0)), M) := hdc
      obtain ⟨t1, t2⟩ := num_nd hdg
      simp only [h1, if_true, hpk, rzC_l, rzI_e, hdc, t1, t2]
      refine ⟨fun q => ⟨M, i, a1 hdg (by have := q.1; simp at this; omega), h, rfl, fun k0 k => frk_refl⟩, fun q => a2 (Or.inr ?_)⟩
      simp only [List.length_nil] at q
      omega
    | true =>
      rw [hdg] at hdc
      have hdc : mR n (d + 3) 34 [.int (nI ((T.drop i).headD 0))] M = some (.inl (some (.int 1)), M) := hdc
      have n1 : ¬ (1 : Int32) = 0 := by decide
      obtain ⟨r, t0, t1, t2, t3⟩ := num_d hdg
      obtain ⟨M1, i1, f1, f2, f3, f4⟩ := x_next (n := n) (d := d + 1) h
      have h4857 := dg_le hdg
      have hval : 10 * nI v + (nI ((T.drop i).headD 0) - 48) = nI (10 * v + ((T.drop i).headD 0 - 48)) := by
        rw [show (48 : Int32) = nI 48 from rfl, pk_sub h4857.1, show (10 : Int32) = nI 10 from rfl, pk_mul, nI_add]
      obtain ⟨b1, b2⟩ := ih (k + 1) (10 * v + ((T.drop i).headD 0 - 48)) w i1 M1 (by omega) (by omega) f2
      rw [f3, t1] at b1 b2
      simp only [h1, if_true, hpk, rzC_l, rzI_e, hdc, if_neg n1, f1, nI_1, hval, t2, t3, List.length_cons, List.foldl_cons]
      refine ⟨fun q => ?_, fun q => ?_⟩
      · obtain ⟨M', i', g1, g2, g3, g4⟩ := b1 (by omega)
        exact ⟨M', i', g1, g2, g3, fun k0 k => (f4 k0 0).trans (g4 k0 k) (Nat.le_refl _) (by omega)⟩
      · exact (b2 (by omega)).frm (f4 mk 0) (Nat.le_refl _) (by omega)
/-- number -/
theorem x_number (hn : 7 ≤ n) (hd : 8 ≤ d) (h : PaS p sg bd rw M T i qn mk b) : (∀ y, pN (T.drop i) = some y → ∃ M' i', mR n (d + 4) 35 [.ref p] M = some (.inl (some (.int (nI y.1))), M') ∧ PaS p sg bd rw M' T i' qn mk b ∧ T.drop i' = y.2 ∧ ∀ k0 k, FrK p bd rw k0 k M M') ∧ (pN (T.drop i) = none → Thr p bd rw mk M (mR n (d + 4) 35 [.ref p] M)) := by
  obtain ⟨a1, a2⟩ := x_num4 (n := n) (qn := qn) (mk := mk) (b := b) hd (d + 3) 3 0 0 n i M (by omega) (by omega) h
  rw [eP_number]
  unfold fP_number_0 pN
  rw [Nat.zero_add] at a1 a2
  refine ⟨fun y q => ?_, fun q => ?_⟩
  · split at q
    · rename_i hc
      cases q
      exact a1 hc
    · cases q
  · split at q
    · cases q
    · rename_i hc
      exact a2 hc
end PaV
/-! a row of pieces that grows -/
/-- the loop of a row: the piece wh over all, z the last of them -/
def LpS (sgn p sg bd rw : Nat) (M : Mem) (T : List Nat) (i qn mk : Nat) (b : Bd) (mk0 jw wh a1 jz z : Nat) : Prop := PaS p sg bd rw M T i qn mk b ∧ (mP M rw jw = some wh ∧ mk0 ≤ jw ∧ jw < mk) ∧ (mP M rw jz = some z ∧ mk0 ≤ jz ∧ jz < mk ∧ jz ≠ jw) ∧ (mK M wh = 4 ∧ mI M wh 0 = nI sgn ∧ mP M wh 3 = some a1 ∧ mP M wh 4 = none) ∧ mP M z 4 = none
section RowG
variable {sgn p sg bd rw : Nat} {M : Mem} {T : List Nat} {i qn mk : Nat} {b : Bd} {mk0 jw wh a1 jz z : Nat}
theorem row_iter {M2 : Mem} {i2 qn2 mk2 k a2 : Nat} {F G : Nat → Prop} (h : LpS sgn p sg bd rw M T i qn mk b mk0 jw wh a1 jz z) (hF : FpS rw M mk0 mk F) (hFw : ¬ F wh) (hFz : F z) (hfr : FrK p bd rw mk k M M2) (h2 : PaS p sg bd rw M2 T i2 qn2 mk2 b) (hmk : mk ≤ mk2) (hG : FpS rw M2 mk mk2 G) (hGa : G a2) (ha2 : mP M2 a2 4 = none) {M3 : Mem} (hM3 : M3 = setP M2 z 4 (some a2)) :
    ∃ jz', LpS sgn p sg bd rw M3 T i2 qn2 mk2 b mk0 jw wh a1 jz' a2 ∧ AgN F z M M3 ∧ AgN G a2 M2 M3 ∧ (∀ x, F x → ¬ G x) ∧ FpS rw M3 mk0 mk2 (fU F G) ∧ ¬ fU F G wh ∧ FrK p bd rw mk0 k M M3 ∧ mK M2 z = 4 ∧ mP M3 z 4 = some a2 := by
  obtain ⟨hP, ⟨w1, w2, w3⟩, ⟨z1, z2, z3, z4⟩, ⟨u1, u2, u3, u4⟩, hz⟩ := h
  have hm2 : mk2 ≤ 120 := h2.2.2.2.2.2.2.1.2.2.1
  have hr : RowI rw M := hP.2.2.2.2.1
  have hr2 : RowI rw M2 := h2.2.2.2.2.1
  have hm : mk ≤ 120 := hP.2.2.2.2.2.2.1.2.2.1
  have k1 : AgZ F M M2 := frk_keep hr hP.kinds hm hF hfr
  have kw : AgZ (fS1 wh) M M2 := frk_keep hr hP.kinds hm (fps_wid (fps_1 w1) (Nat.zero_le _) (by omega)) hfr
  have z1' : mP M2 rw jz = some z := hfr.2.2.2.2.1 jz z z1
  have w1' : mP M2 rw jw = some wh := hfr.2.2.2.2.1 jw wh w1
  obtain ⟨p1, p2⟩ := nd_setP (f := 4) h2 (show jz < mk2 by omega) z1' (some a2)
  rw [← hM3] at p1 p2
  obtain ⟨j, j1, j2, j3⟩ := hG a2 hGa
  have hnz : ∀ x, x ≠ z → mP M3 x = mP M2 x := fun x hx => by rw [hM3, mP_setP, fu_row _ _ hx]
  have hzf : ∀ f, f ≠ 4 → mP M3 z f = mP M2 z f := fun f hf => by rw [hM3, mP_setP, fu_ne _ _ (fun q => hf q.2)]
  have hI3 : mI M3 = mI M2 := by rw [hM3]; rfl
  have hK3 : mK M3 = mK M2 := by rw [hM3]; rfl
  have hzk : mK M2 z = 4 := (hr2.1 jz z (by omega) z1').1
  have hwz : wh ≠ z := fun q => hFw (q ▸ hFz)
  have haz : a2 ≠ z := fun q => by
    have := hr2.2 j jz z (by omega) (by omega) (by rw [← q]; exact j3) z1'
    omega
  have hrz : rw ≠ z := fun q => by
    have := h2.kinds.2.2
    rw [q, hzk] at this
    exact absurd this (by decide)
  have hF2 : FpS rw M2 mk0 mk F := fps_mono hF hfr
  have hdis : ∀ x, F x → ¬ G x := fps_dis hr2 hF2 hG (Or.inl (Nat.le_refl _)) hm hm2
  have hfr3 : ∀ k0 k', k0 ≤ jz → FrK p bd rw k0 k' M2 M3 := p2
  obtain ⟨x1, x2, x3, x4⟩ := kw wh rfl
  refine ⟨j, ⟨p1, ⟨by rw [hnz rw hrz]; exact w1', w2, by omega⟩, ⟨by rw [hnz rw hrz]; exact j3, by omega, j2, by omega⟩, ⟨by rw [hK3]; exact x1.trans u1, by rw [hI3, x2]; exact u2, by rw [hnz wh hwz]; exact x3.trans u3, by rw [hnz wh hwz]; exact x4.trans u4⟩, by rw [hnz a2 haz]; exact ha2⟩, fun c hc => ?_, fun c hc => ?_, hdis, ?_, ?_, (hfr.mono (show mk0 ≤ mk by omega) (Nat.le_refl _)).trans (hfr3 mk0 0 (by omega)) (Nat.le_refl _) (Nat.le_refl _), hzk, by rw [hM3, mP_setP, fu_eq]⟩
  · obtain ⟨q1, q2, q3, q4⟩ := k1 c hc
    refine ⟨by rw [hK3]; exact q1, by rw [hI3]; exact q2, ?_, fun hcz => by rw [hnz c hcz]; exact q4⟩
    by_cases hcz : c = z
    · rw [hcz, hzf 3 (by decide), ← hcz]; exact q3
    · rw [hnz c hcz]; exact q3
  · have hcz : c ≠ z := fun q => hdis z hFz (q ▸ hc)
    exact ⟨by rw [hK3], by rw [hI3], by rw [hnz c hcz], fun _ => by rw [hnz c hcz]⟩
  · have hF3 : FpS rw M3 mk0 mk F := fps_mono hF2 (hfr3 mk0 0 (by omega))
    have hG3 : FpS rw M3 mk mk2 G := fps_mono hG (hfr3 mk0 0 (by omega))
    exact fps_u (fps_wid hF3 (Nat.le_refl _) hmk) (fps_wid hG3 (by omega) (Nat.le_refl _))
  · intro q
    rcases q with q | q
    · exact hFw q
    · obtain ⟨j', e1, e2, e3⟩ := hG wh q
      have := hr2.2 j' jw wh (by omega) (by omega) e3 w1'
      omega
end RowG
