/-! the parser: things, parts and sums -/
theorem pS_cl : ∀ (k w : Nat) (acc : Od × Dn) (d : Nat) (b : Bd) (ts : List Nat) (y : (Od × Dn) × List Nat), pS k w acc d b ts = some y → y.1.1.length + 2 * y.2.length ≤ (if w < 3 then 0 else acc.1.length) + 2 * ts.length := by
  intro k
  induction k with
  | zero => intro w acc d b ts y h; cases h
  | succ k ih =>
    intro w acc d b ts y h
    unfold pS at h
    split at h
    · rename_i hw
      rw [if_pos (by omega)]
      split at h
      · cases ts with
        | nil => cases h
        | cons c r =>
          simp only at h
          split at h
          · obtain ⟨z, h1, h2⟩ := Option.bind_eq_some_iff.mp h
            have := ih _ _ _ _ _ _ h1
            rw [if_pos (by decide)] at this
            have h3 := cx_len h2
            obtain ⟨e1, e2⟩ := cx_some h2
            rw [e1]
            simp only [List.length_cons]
            omega
          · split at h
            · obtain ⟨z, h1, h2⟩ := Option.bind_eq_some_iff.mp h
              have := ih _ _ _ _ _ _ h1
              rw [if_pos (by decide)] at this
              cases h2
              simp only [List.length_append, List.length_cons, List.length_nil]
              omega
            · split at h
              · cases h; simp only [List.length_cons, List.length_nil]; omega
              · split at h
                · cases h; simp only [List.length_cons, List.length_nil]; omega
                · obtain ⟨q, h1, h2⟩ := Option.bind_eq_some_iff.mp h
                  cases h2
                  simp only [List.length_cons, List.length_nil]
                  omega
      · cases h
    · split at h
      · rw [if_pos (by omega)]
        obtain ⟨z, h1, h2⟩ := Option.bind_eq_some_iff.mp h
        have a1 := ih _ _ _ _ _ _ h1
        have a2 := ih _ _ _ _ _ _ h2
        rw [if_pos (by decide)] at a1
        rw [if_neg (by decide)] at a2
        omega
      · split at h
        · rw [if_pos (by omega)]
          obtain ⟨z, h1, h2⟩ := Option.bind_eq_some_iff.mp h
          have a1 := ih _ _ _ _ _ _ h1
          have a2 := ih _ _ _ _ _ _ h2
          rw [if_pos (by decide)] at a1
          rw [if_neg (by decide)] at a2
          omega
        · rw [if_neg (by omega)]
          split at h
          · cases ts with
            | nil => cases h; simp
            | cons c r =>
              simp only at h
              split at h
              · obtain ⟨z, h1, h2⟩ := Option.bind_eq_some_iff.mp h
                have a1 := ih _ _ _ _ _ _ h1
                have a2 := ih _ _ _ _ _ _ h2
                rw [if_pos (by decide)] at a1
                rw [if_neg (by decide)] at a2
                simp only [List.length_append, List.length_cons, List.length_nil] at a2 ⊢
                omega
              · cases h; exact Nat.le_refl _
          · cases ts with
            | nil => cases h; simp
            | cons c r =>
              simp only at h
              split at h
              · obtain ⟨z, h1, h2⟩ := Option.bind_eq_some_iff.mp h
                have a1 := ih _ _ _ _ _ _ h1
                have a2 := ih _ _ _ _ _ _ h2
                rw [if_pos (by decide)] at a1
                rw [if_neg (by decide)] at a2
                simp only [List.length_append, List.length_cons, List.length_nil] at a2 ⊢
                omega
              · cases h; exact Nat.le_refl _
theorem pT_cl {k d : Nat} {b : Bd} {ts : List Nat} {y : (Od × Dn) × List Nat} (h : pT k d b ts = some y) : y.1.1.length + 2 * y.2.length ≤ 2 * ts.length := by
  unfold pT at h
  cases ts with
  | nil => cases h
  | cons c r =>
    simp only at h
    split at h
    · cases h; simp only [List.length_cons, List.length_nil]; omega
    · split at h
      · obtain ⟨z, h1, h2⟩ := Option.bind_eq_some_iff.mp h
        have := pS_cl _ _ _ _ _ _ _ h1
        rw [if_pos (by decide)] at this
        cases h2
        simp only [List.length_append, List.length_cons, List.length_nil]
        omega
      · obtain ⟨q, h1, h2⟩ := Option.bind_eq_some_iff.mp h
        cases h2
        simp only [List.length_cons, List.length_nil]
        omega
theorem pP_cl {k d : Nat} {b : Bd} {ts : List Nat} {y : (Od × Dn) × List Nat} (h : pP k d b ts = some y) : y.1.1.length + 2 * y.2.length ≤ 2 * ts.length := by
  unfold pP at h
  cases ts with
  | nil => cases h
  | cons c r =>
    simp only at h
    split at h
    · obtain ⟨z, h1, h2⟩ := Option.bind_eq_some_iff.mp h
      have hl := pN_len h1
      unfold pM at h2
      cases hz : z.2 with
      | nil =>
        rw [hz] at h2
        cases h2
        simp only [List.length_cons, List.length_nil]
        omega
      | cons c2 r2 =>
        rw [hz] at h2 hl
        simp only at h2
        split at h2
        · obtain ⟨t, g1, g2⟩ := Option.bind_eq_some_iff.mp h2
          have := pT_cl g1
          cases g2
          simp only [List.length_append, List.length_cons, List.length_nil] at hl ⊢
          omega
        · cases h2
          simp only [List.length_cons, List.length_nil] at hl ⊢
          omega
    · exact pT_cl h
theorem hsgn_cl (neg : Bool) (x : Od × Dn) : (hsgn neg x).1.length ≤ x.1.length + 1 ∧ (neg = false → (hsgn neg x).1.length = x.1.length) := by
  unfold hsgn
  cases neg
  · exact ⟨by simp, fun _ => by simp⟩
  · exact ⟨by simp, fun h => (by cases h)⟩
theorem pZr_cl : ∀ (k f d : Nat) (b : Bd) (acc : Od × Dn) (ts : List Nat) (y : (Od × Dn) × List Nat), pZr k f d b acc ts = some y → y.1.1.length + 2 * y.2.length ≤ acc.1.length + 2 * ts.length := by
  intro k
  induction k with
  | zero => intro f d b acc ts y h; cases h
  | succ k ih =>
    intro f d b acc ts y h
    unfold pZr at h
    cases ts with
    | nil => cases h; simp
    | cons c r =>
      simp only at h
      split at h
      · obtain ⟨z, h1, h2⟩ := Option.bind_eq_some_iff.mp h
        have a1 := pP_cl h1
        have a2 := ih _ _ _ _ _ _ h2
        have a3 := (hsgn_cl (decide (c = 45)) z.1).1
        simp only [List.length_append, List.length_cons, List.length_nil] at a2 ⊢
        omega
      · cases h; exact Nat.le_refl _
theorem pZ_cl {k d : Nat} {b : Bd} {ts : List Nat} {y : (Od × Dn) × List Nat} (h : pZ k d b ts = some y) : y.1.1.length + 2 * y.2.length ≤ 2 * ts.length := by
  unfold pZ at h
  cases ts with
  | nil => cases h
  | cons c r =>
    simp only at h
    obtain ⟨z, h1, h2⟩ := Option.bind_eq_some_iff.mp h
    have a1 := pP_cl h1
    have a2 := pZr_cl _ _ _ _ _ _ _ h2
    obtain ⟨a3, a4⟩ := hsgn_cl (decide (c = 45)) z.1
    by_cases hc : c = 45
    · rw [if_pos hc] at a1
      simp only [List.length_cons]
      omega
    · rw [if_neg hc] at a1
      rw [decide_eq_false hc] at a4 a2
      have := a4 rfl
      omega
/-- sums are small -/
def PBt (b : Bd) (c : Od) (D : Dn) : Prop := 1 ≤ c.length ∧ ∀ sz e, sz ≤ 4 → EvR sz b e → -8 ≤ (D sz e).toInt ∧ (D sz e).toInt ≤ 8
def PBz (b : Bd) (c : Od) (D : Dn) : Prop := c.length ≤ 500 → ∀ sz e, sz ≤ 4 → EvR sz b e → -(8000 * (c.length : Int)) ≤ (D sz e).toInt ∧ (D sz e).toInt ≤ 8000 * (c.length : Int)
theorem vx_b {v : Nat} {t : Int} (hv : v ≤ 999) (h1 : -8 ≤ t) (h2 : t ≤ 8) : -8000 ≤ (v : Int) * t ∧ (v : Int) * t ≤ 8000 := by
  have h : t = -8 ∨ t = -7 ∨ t = -6 ∨ t = -5 ∨ t = -4 ∨ t = -3 ∨ t = -2 ∨ t = -1 ∨ t = 0 ∨ t = 1 ∨ t = 2 ∨ t = 3 ∨ t = 4 ∨ t = 5 ∨ t = 6 ∨ t = 7 ∨ t = 8 := by omega
  rcases h with rfl | rfl | rfl | rfl | rfl | rfl | rfl | rfl | rfl | rfl | rfl | rfl | rfl | rfl | rfl | rfl | rfl <;> omega
theorem i32_mul_b {v : Nat} {x : Int32} (hv : v ≤ 999) (h1 : -8 ≤ x.toInt) (h2 : x.toInt ≤ 8) : -8000 ≤ (nI v * x).toInt ∧ (nI v * x).toInt ≤ 8000 := by
  have h3 : (nI v).toInt = (v : Int) := nI_toInt (by omega)
  have h5 := vx_b hv h1 h2
  have h4 : (nI v * x).toInt = (v : Int) * x.toInt := by
    rw [Int32.toInt_mul, h3]
    exact Int.bmod_eq_of_le (by omega) (by omega)
  rw [h4]
  exact h5
theorem i32_add_t {x y : Int32} (h : -1000000000 ≤ x.toInt ∧ x.toInt ≤ 1000000000) (g : -1000000000 ≤ y.toInt ∧ y.toInt ≤ 1000000000) : (x + y).toInt = x.toInt + y.toInt := by
  rw [Int32.toInt_add]
  exact Int.bmod_eq_of_le (by omega) (by omega)
theorem i32_sub_t {x y : Int32} (h : -1000000000 ≤ x.toInt ∧ x.toInt ≤ 1000000000) (g : -1000000000 ≤ y.toInt ∧ y.toInt ≤ 1000000000) : (x - y).toInt = x.toInt - y.toInt := by
  rw [Int32.toInt_sub]
  exact Int.bmod_eq_of_le (by omega) (by omega)
theorem i32_neg_t {x : Int32} (h : -1000000000 ≤ x.toInt ∧ x.toInt ≤ 1000000000) : (-x).toInt = -x.toInt := by
  rw [Int32.toInt_neg]
  exact Int.bmod_eq_of_le (by omega) (by omega)
theorem pb_cl (b : Bd) : ClZ b (PIn b) (PBt b) (PBz b) := by
  refine ⟨pin_cl b, ⟨by decide, fun sz e hs hR => ?_⟩, fun c D h => ⟨len1, fun sz e hs hR => ?_⟩, fun q c hq => ⟨by simp, fun sz e hs hR => ?_⟩, fun c D h hl sz e hs hR => ?_, fun v hv hl sz e hs hR => ?_, fun v c D hv h hl sz e hs hR => ?_, fun c D h hl sz e hs hR => ?_, fun c1 D1 c2 D2 h1 h2 hl sz e hs hR => ?_⟩
  · have : (nI sz).toInt = (sz : Int) := nI_toInt (by omega)
    show -8 ≤ (nI sz).toInt ∧ (nI sz).toInt ≤ 8
    rw [this]
    omega
  · obtain ⟨k, hk, hx⟩ := in16 hs (h sz e hs hR)
    have hc : ∀ k, k < 16 → -8 ≤ (hcount (nI k)).toInt ∧ (hcount (nI k)).toInt ≤ 8 := by decide +kernel
    show -8 ≤ (hcount (D sz e)).toInt ∧ (hcount (D sz e)).toInt ≤ 8
    rw [hx]
    exact hc k hk
  · obtain ⟨v, -, h3, hb⟩ := vrN_b hq
    exact (hR v q hb).2 h3
  · have := h.2 sz e hs hR
    have h1 := h.1
    omega
  · have : (nI v).toInt = (v : Int) := nI_toInt (by omega)
    show -(8000 * (([(13, v)] : Od).length : Int)) ≤ (nI v).toInt ∧ (nI v).toInt ≤ 8000 * (([(13, v)] : Od).length : Int)
    rw [this]
    simp only [List.length_cons, List.length_nil]
    omega
  · have h8 := h.2 sz e hs hR
    have := i32_mul_b hv h8.1 h8.2
    show -(8000 * ((c ++ [(16, v)] : Od).length : Int)) ≤ (nI v * D sz e).toInt ∧ (nI v * D sz e).toInt ≤ 8000 * ((c ++ [(16, v)] : Od).length : Int)
    simp only [List.length_append, List.length_cons, List.length_nil]
    omega
  · simp only [List.length_append, List.length_cons, List.length_nil] at hl
    have := h (by omega) sz e hs hR
    show -(8000 * ((c ++ [(17, 0)] : Od).length : Int)) ≤ (-(D sz e)).toInt ∧ (-(D sz e)).toInt ≤ 8000 * ((c ++ [(17, 0)] : Od).length : Int)
    rw [i32_neg_t (by omega)]
    simp only [List.length_append, List.length_cons, List.length_nil]
    omega
  · simp only [List.length_append, List.length_cons, List.length_nil] at hl
    have g1 := h1 (by omega) sz e hs hR
    have g2 := h2 (by omega) sz e hs hR
    show -(8000 * ((c1 ++ c2 ++ [(18, 0)] : Od).length : Int)) ≤ (D1 sz e + D2 sz e).toInt ∧ (D1 sz e + D2 sz e).toInt ≤ 8000 * ((c1 ++ c2 ++ [(18, 0)] : Od).length : Int)
    rw [i32_add_t (by omega) (by omega)]
    simp only [List.length_append, List.length_cons, List.length_nil]
    omega
/-- a comparison with 0 of both sums in one -/
theorem lt_sub {x y : Int32} (h : -1000000000 ≤ x.toInt ∧ x.toInt ≤ 1000000000) (g : -1000000000 ≤ y.toInt ∧ y.toInt ≤ 1000000000) : x < y ↔ ¬ 0 ≤ x - y := by
  rw [Int32.le_iff_toInt_le, Int32.lt_iff_toInt_lt, i32_sub_t h g, Int32.toInt_zero]
  omega
theorem eq_sub {x y : Int32} : x = y ↔ x - y = 0 := ⟨fun h => by rw [h, Int32.sub_self], fun h => by rw [← Int32.sub_add_cancel x y, h, Int32.zero_add]⟩
/-! things -/
section PTh
variable {n W V p sg bd rw : Nat} {T : List Nat} {b : Bd}
theorem par_thing (hn : 200 ≤ n) {k d i qn mk D : Nat} {M : Mem} (hd : d ≤ 12) (hk : 3 * (T.drop i).length ≤ k + 2) (hP : PaS p sg bd rw M T i qn mk b) (hD : hS d ≤ D) : SpG p sg bd rw mk M T mk b (T.drop i) (pT k d b (T.drop i)) (fun _ => qn) (fun x F M' a => EvA n (eSd d) W V F M' b a x.2) (mR n (D + 1) 39 [.ref p, .int (nI d)] M) := by
  have hA0 := (par_sets (n := n) (W := W) (V := V) (p := p) (sg := sg) (bd := bd) (rw := rw) (T := T) (b := b) hn k).1
  unfold hS at hD
  obtain ⟨D, rfl⟩ : ∃ D', D = D' + 19 := ⟨D - 19, by omega⟩
  obtain ⟨M1, i', f1, f2, f3, f4⟩ := x_next (n := n) (d := D + 17) hP
  have f1 : mR n (D + 19) 19 [.ref p] M = some (.inl (some (.int (nI ((T.drop i).headD 0)))), M1) := f1
  have hc127 := hd_lt hP
  have hmk : mk ≤ 120 := hP.2.2.2.2.2.2.1.2.2.1
  have hfit : fits .char (.int (nI ((T.drop i).headD 0))) = true := fits_ch (by omega)
  obtain ⟨c, hcE⟩ : ∃ c, c = (T.drop i).headD 0 := ⟨_, rfl⟩
  rw [← hcE] at f1 hc127 hfit
  have hx : ∀ (kk : Nat), kk < 1000 → ∀ x : Int32, x = nI kk → (nI c = x ↔ c = kk) := fun kk hkk x hx => cq (by omega) kk hkk hx
  have e39 : mR n (D + 19 + 1) 39 [.ref p, .int (nI d)] M = fP_thing_0 n (D + 19) (mR n (D + 19)) p (nI d) M := eP_thing n (D + 19) p (nI d) M
  rw [e39]
  have hlt : ∀ y, pT k d b (T.drop i) = some y → y.2.length < (T.drop i).length := fun y q => pT_len q
  by_cases hmk2 : mk < 120
  · obtain ⟨M2, a, g1, g2, g3, g4, g5⟩ := x_make (n := n) (d := D + 17) f2 hmk2 hfit
    have g1 : mR n (D + 19) 20 [.ref p, .int (nI c)] M1 = some (.inl (some (.ref a)), M2) := g1
    obtain ⟨u1, u2, u3, u4, u5, u6⟩ := g5
    have hfr2 : FrK p bd rw mk 1 M M2 := (f4 mk 0).trans g3 (Nat.le_refl _) (Nat.le_refl _)
    have tlen : (T.drop i).tail.length = (T.drop i).length - 1 := List.length_tail
    have cons : c ≠ 0 → T.drop i = c :: T.drop i' := fun h0 => by rw [f3]; exact hd_cons h0 hcE.symm
    have clen : c ≠ 0 → (T.drop i).length = (T.drop i').length + 1 := fun h0 => by
      have := congrArg List.length (cons h0)
      simpa using this
    simp only [fP_thing_0, hP.1.1, if_true, f1, rzC_l, rzI_e, f2.1.1, g1, rzP_s, g2.1.1]
    by_cases c35 : c = 35
    · rw [if_pos ((hx 35 (by decide) 35 rfl).mpr c35)]
      have hcs := cons (by omega)
      have hcl := clen (by omega)
      have hg : pT k d b (T.drop i) = (pS k 0 sv0 (d + 1) b (T.drop i')).bind fun y => some ((y.1.1 ++ [(11, 0)], fun n e => hcount (y.1.2 n e)), y.2) := by
        rw [hcs, c35]; rfl
      rw [hg]
      have hA := hA0 sv0 (d + 1) i' qn (mk + 1) (D + 19) M2 (by omega) (by omega) g2 (by unfold hS; omega)
      have hA : SpG p sg bd rw (mk + 1) M2 T (mk + 1) b (T.drop i') (pS k 0 sv0 (d + 1) b (T.drop i')) (fun _ => qn) (fun x F M' a => EvS n (eSd (d + 1)) W V F M' b a x.2) (mR n (D + 19) 40 [.ref p, .int (nI d + 1)] M2) := by rw [nI_1]; exact hA
      cases hsub : pS k 0 sv0 (d + 1) b (T.drop i') with
      | none =>
        refine ⟨fun _ => ?_, fun y q => (by cases q)⟩
        exact (thrg_c (hA.1 hsub)).at hfr2 (by omega) (by omega)
      | some y =>
        rcases hA.2 y hsub with ⟨M3, a1, i3, mk3, F, t1, t2, t3, t4, t5, t6, t7, t8, t9⟩ | ⟨hb1, hb2⟩
        · have ka : AgZ (fS1 a) M2 M3 := frk_keep g2.2.2.2.2.1 g2.kinds (by omega) (fps_1 g4) t4
          obtain ⟨v1, v2, v3, v4⟩ := ka a rfl
          have g4' : mP M3 rw mk = some a := t4.2.2.2.2.1 mk a g4
          have hna : ¬ F a := fun q => by
            obtain ⟨j, j1, j2, j3⟩ := t6 a q
            have := t2.2.2.2.2.1.2 j mk a (by have := t2.2.2.2.2.2.2.1.2.2.1; omega) (by omega) j3 g4'
            omega
          obtain ⟨w1, w2⟩ := nd_setP (f := 3) t2 (show mk < mk3 by omega) g4' (some a1)
          have haF : ∀ x, F x → x ≠ a := fun x hx q => hna (q ▸ hx)
          have hagF : AgN F a1 M3 (setP M3 a 3 (some a1)) := fun x hx => ⟨rfl, rfl, by rw [mP_setP, fu_row _ _ (haF x hx)], fun _ => by rw [mP_setP, fu_row _ _ (haF x hx)]⟩
          have hka : mK M3 a = 4 := v1.trans u1
          simp only [t1, rzC_l, rzP_s, rzD_s, hka, if_true, rzM_e, fP_thing_62, Option.bind_some]
          refine ⟨fun q => (by cases q), fun y' q => ?_⟩
          cases q
          refine Or.inl ⟨_, a, i3, mk3, fU (fS1 a) F, rfl, w1, t3, (hfr2.trans t4 (by omega) (Nat.le_refl _)).trans (w2 mk 0 (Nat.le_refl _)) (Nat.le_refl _) (by omega), ⟨by omega, by simp only; omega⟩, ?_, Or.inl rfl, ?_, ?_⟩
          · exact fps_mono (fps_u (fps_wid (fps_1 g4') (Nat.le_refl _) (by omega)) (fps_wid t6 (by omega) (Nat.le_refl _))) (w2 mk 0 (Nat.le_refl _))
          · rw [mP_setP, fu_ne _ _ (fun q => (by cases q.2))]; exact v4.trans u6
          · have hev := eva_c (n := n) (W := W) (V := V) (M := setP M3 a 3 (some a1)) (b := b) (H := eSd (d + 1)) (F := F) (a := a) (a1 := a1) (D := y.1.2) hka (by show mI M3 a 0 = 35; rw [v2, u2, c35]; rfl) (by rw [mP_setP, fu_eq]) (t9.fr hagF) hna (pS_ind (pin_cl b) _ 0 sv0 (d + 1) _ y hsub (by omega))
            exact hev.mono (by unfold eSd; omega)
        · have hth := (thrg_c (f := fun v_32 M_33 => (rzP v_32 fun r_36 => (rzD (some a) fun a_37 => (if mK M_33 a_37 = 4 then (rzM (setP M_33 a_37 3 r_36) fun M_40 => (fP_thing_62 n (D + 19) (mR n (D + 19)) (some a) M_40)) else none)))) hb2).at hfr2 (by omega) (k2 := 121 - mk) (by omega)
          refine ⟨fun _ => hth, fun y' q => Or.inr ⟨?_, hth⟩⟩
          cases q
          simp only
          omega
    · rw [if_neg (fun q => c35 ((hx 35 (by decide) 35 rfl).mp q))]
      by_cases c110 : c = 110
      · rw [if_pos ((hx 110 (by decide) 110 rfl).mpr c110)]
        have hcs := cons (by omega)
        have hcl := clen (by omega)
        have hg : pT k d b (T.drop i) = some (([(15, 0)], fun n _ => nI n), T.drop i') := by rw [hcs, c110]; rfl
        rw [hg]
        refine ⟨fun q => (by cases q), fun y' q => ?_⟩
        cases q
        exact Or.inl ⟨M2, a, i', mk + 1, fS1 a, rfl, g2, rfl, hfr2.mono (Nat.le_refl _) (by omega), ⟨by omega, by simp only; omega⟩, fps_1 g4, rfl, u6, (eva_n u1 (by rw [u2, c110]; rfl)).mono (by unfold eSd; omega)⟩
      · rw [if_neg (fun q => c110 ((hx 110 (by decide) 110 rfl).mp q))]
        obtain ⟨bv1, bv2⟩ := x_bv (n := n) (d := D + 13) (by omega) (by omega) g2 hc127
        have bv1 : ∀ v, varO c = some v → (b v).isSome = true → mR n (D + 19) 41 [.ref p, .int (nI c)] M2 = some (.inl (some (.int (nI v))), M2) := bv1
        have bv2 : _ → Thr p bd rw (mk + 1) M2 (mR n (D + 19) 41 [.ref p, .int (nI c)] M2) := bv2
        have hgn : vrN b c = none → pT k d b (T.drop i) = none := fun hv => by
          cases hts : T.drop i with
          | nil => rfl
          | cons x r =>
            rw [hts] at hcE
            have hcE : c = x := hcE
            unfold pT
            rw [← hcE]
            simp only [if_neg c110, if_neg c35, hv]
            rfl
        by_cases hvb : ∃ v, varO c = some v ∧ (b v).isSome = true
        · obtain ⟨v, hv, hbv⟩ := hvb
          have hv6 := varO_lt hv
          have hc0 : c ≠ 0 := fun q => by rw [q] at hv; cases hv
          have hcs := cons hc0
          have hcl := clen hc0
          obtain ⟨q, hq⟩ := Option.isSome_iff_exists.mp hbv
          obtain ⟨w1, w2⟩ := nd_setI (f := 2) g2 (show mk < mk + 1 by omega) g4 (nI v)
          have hv2 : mI (setI M2 a 2 (nI v)) a 2 = nI v := by rw [mI_setI, fu_eq]
          have hl3 : ((3 : Int32) ≤ nI v) ↔ 3 ≤ v := nI_leI (a := 3) (by decide) (by omega)
          have hka : mK (setI M2 a 2 (nI v)) a = 4 := u1
          simp only [bv1 v hv hbv, rzC_l, rzI_e, rzD_s, u1, if_true, rzM_e, hka, hv2, fP_thing_59, fP_thing_62]
          by_cases h3 : 3 ≤ v
          · rw [if_pos (hl3.mpr h3)]
            have hvr : vrN b c = none := by unfold vrN; rw [hv]; simp only [Option.bind_some]; rw [if_neg (by omega)]
            rw [hgn hvr]
            refine ⟨fun _ => ?_, fun y' q => (by cases q)⟩
            have hth := x_insist0 (n := n) (d := D + 18) (by omega) w1
            exact (thr_g (thr_c hth) (Nat.le_refl _) (Nat.le_refl _)).at (hfr2.trans (w2 mk 0 (Nat.le_refl _)) (Nat.le_refl _) (Nat.le_refl _)) (by omega) (by omega)
          · rw [if_neg (fun q => h3 (hl3.mp q)), x_insist1, rzC_l, rzV_e]
            have hvr : vrN b c = some q := by unfold vrN; rw [hv]; simp only [Option.bind_some]; rw [if_pos (by omega), hq]
            have hg : pT k d b (T.drop i) = some (([(14, q)], fun _ e => e q), T.drop i') := by
              rw [hcs]
              unfold pT
              simp only [if_neg c110, if_neg c35, hvr]
              rfl
            rw [hg]
            refine ⟨fun q => (by cases q), fun y' q => ?_⟩
            cases q
            refine Or.inl ⟨_, a, i', mk + 1, fS1 a, rfl, w1, rfl, hfr2.trans (w2 mk 0 (Nat.le_refl _)) (Nat.le_refl _) (by omega), ⟨by omega, by simp only; omega⟩, fps_mono (fps_1 g4) (w2 mk 0 (Nat.le_refl _)), rfl, u6, ?_⟩
            refine (eva_v (ch := c) hka ?_ (by omega) ⟨c35, ?_, c110⟩ hv2 hv6 hq).mono (H' := eSd d) (by unfold eSd; omega)
            · rw [mI_setI, fu_ne _ _ (fun q => (by cases q.2))]; exact u2
            · intro q; rw [q] at hv; cases hv
        · have hth := bv2 (fun v hv => by
            cases hbv : (b v).isSome with
            | false => rfl
            | true => exact absurd ⟨v, hv, hbv⟩ hvb)
          have hvr : vrN b c = none := by
            cases hq : vrN b c with
            | none => rfl
            | some q => obtain ⟨v, e1, -, e3⟩ := vrN_b hq; exact absurd ⟨v, e1, by rw [e3]; rfl⟩ hvb
          rw [hgn hvr]
          refine ⟨fun _ => ?_, fun y' q => (by cases q)⟩
          exact (thr_g (thr_c hth) (Nat.le_refl _) (Nat.le_refl _)).at hfr2 (by omega) (by omega)
  · have hmt := x_make_t (n := n) (d := D + 17) (by omega) f2 hmk2 (nI c)
    have hmt : Thr p bd rw mk M1 (mR n (D + 19) 20 [.ref p, .int (nI c)] M1) := hmt
    have hth : ThrG p bd rw mk (121 - mk) M (fP_thing_0 n (D + 19) (mR n (D + 19)) p (nI d) M) := by
      simp only [fP_thing_0, hP.1.1, if_true, f1, rzC_l, rzI_e, f2.1.1]
      exact (thr_g (thr_c hmt) (Nat.le_refl _) (Nat.le_refl _)).at (f4 mk 0) (Nat.le_refl _) (by omega)
    refine ⟨fun _ => hth, fun y q => Or.inr ⟨?_, hth⟩⟩
    have := hlt y q
    omega
end PTh
