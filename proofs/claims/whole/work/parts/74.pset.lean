/-! the parser: sets -/
def hS (d : Nat) : Nat := 6 * (14 - d) + 30
def eSd (d : Nat) : Nat := 5 * (14 - d) + 2
def ThrG (p bd rw base k : Nat) (M : Mem) (res : Rz) : Prop := ∃ M', res = some (.inr 1, M') ∧ FrK p bd rw base k M M' ∧ RowI rw M'
theorem thr_g {p bd rw mk base k : Nat} {M : Mem} {res : Rz} (h : Thr p bd rw mk M res) (hb : base ≤ mk) (hk : 121 - mk ≤ k) : ThrG p bd rw base k M res := by
  obtain ⟨M', e1, e2, e3⟩ := h
  exact ⟨M', e1, e2.mono hb hk, e3⟩
theorem ThrG.at {p bd rw base base' k k' k2 : Nat} {M M1 : Mem} {res : Rz} (h : ThrG p bd rw base' k' M1 res) (hf : FrK p bd rw base k M M1) (hb : base ≤ base') (hk : k + k' ≤ k2) : ThrG p bd rw base k2 M res := by
  obtain ⟨M', e1, e2, e3⟩ := h
  exact ⟨M', e1, hf.trans e2 hb hk, e3⟩
theorem thrg_c {p bd rw base k : Nat} {M : Mem} {c : Rz} {f : Option Value → Mem → Rz} (h : ThrG p bd rw base k M c) : ThrG p bd rw base k M (rzC c f) := by
  obtain ⟨M', e1, e2⟩ := h
  exact ⟨M', by rw [e1, rzC_r], e2⟩
/-- a piece comes out: R says what it is -/
def OkG (p sg bd rw base : Nat) (M : Mem) (T : List Nat) (qn mk : Nat) (b : Bd) (ts rest : List Nat) (R : (Nat → Prop) → Mem → Nat → Prop) (res : Rz) : Prop := ∃ M' a i' mk' F, res = some (.inl (some (.ref a)), M') ∧ PaS p sg bd rw M' T i' qn mk' b ∧ T.drop i' = rest ∧ FrK p bd rw base (mk' - mk) M M' ∧ (mk ≤ mk' ∧ mk' + rest.length ≤ mk + ts.length) ∧ FpS rw M' base mk' F ∧ F a ∧ mP M' a 4 = none ∧ R F M' a
/-- too many pieces -/
def Big (p bd rw base mk : Nat) (M : Mem) (ts rest : List Nat) (res : Rz) : Prop := 120 < mk + (ts.length - rest.length) ∧ ThrG p bd rw base (121 - mk) M res
def SpG {α : Type} (p sg bd rw base : Nat) (M : Mem) (T : List Nat) (mk : Nat) (b : Bd) (ts : List Nat) (g : Option (α × List Nat)) (qf : α → Nat) (R : α → (Nat → Prop) → Mem → Nat → Prop) (res : Rz) : Prop := (g = none → ThrG p bd rw base (121 - mk) M res) ∧ ∀ y, g = some y → OkG p sg bd rw base M T (qf y.1) mk b ts y.2 (R y.1) res ∨ Big p bd rw base mk M ts y.2 res
theorem itm {α : Type} {p sg bd rw base : Nat} {M : Mem} {T : List Nat} {mk : Nat} {b : Bd} {ts : List Nat} {g : Option (α × List Nat)} {qf : α → Nat} {R : α → (Nat → Prop) → Mem → Nat → Prop} {c : Rz} (h : SpG p sg bd rw base M T mk b ts g qf R c) : SpG p sg bd rw base M T mk b ts g qf R (rzC c fun v M => rzP v fun r => some (.inl (some (va_rf r)), M)) := by
  refine ⟨fun q => thrg_c (h.1 q), fun y q => ?_⟩
  rcases h.2 y q with h | ⟨h1, h2⟩
  · obtain ⟨M', a, i', mk', F, e1, e2⟩ := h
    exact Or.inl ⟨M', a, i', mk', F, by rw [e1, rzC_l, rzP_s]; rfl, e2⟩
  · exact Or.inr ⟨h1, thrg_c h2⟩
/-- within all the elements -/
def PIn (b : Bd) (_ : Od) (D : Dn) : Prop := ∀ sz e, sz ≤ 4 → EvR sz b e → hfull sz &&& D sz e = D sz e
theorem i32_aor (a b c : Int32) : a &&& (b ||| c) = (a &&& b) ||| (a &&& c) := by
  rw [← Int32.toBitVec_inj]
  simp only [Int32.toBitVec_and, Int32.toBitVec_or]
  ext i hi
  simp [Bool.and_or_distrib_left]
theorem pin_cl (b : Bd) : ClS b (PIn b) := by
  have hz : ∀ s, s < 5 → hfull s &&& 0 = 0 := by decide +kernel
  refine ⟨fun sz e hs hR => hz sz (by omega), fun sz e hs hR => Int32.and_self, fun q c hq sz e hs hR => ?_, fun c D h sz e hs hR => ?_, fun c1 D1 c2 D2 h1 h2 sz e hs hR => ?_, fun c1 D1 c2 D2 h1 h2 sz e hs hR => ?_⟩
  · obtain ⟨v, -, h3, hb⟩ := vrS_b hq
    exact (hR v q hb).1 h3
  · show hfull sz &&& (hfull sz &&& hnot (D sz e)) = _
    rw [← Int32.and_assoc, Int32.and_self]
  · show hfull sz &&& (D1 sz e &&& D2 sz e) = _
    rw [← Int32.and_assoc, h1 sz e hs hR]
  · show hfull sz &&& (D1 sz e ||| D2 sz e) = _
    rw [i32_aor, h1 sz e hs hR, h2 sz e hs hR]
/-- a row's text, without the sign before the next -/
def tlc (c : Nat) (ts : List Nat) : List Nat := if ts.headD 0 = c then ts.tail else ts
theorem tlc_le (c : Nat) (ts : List Nat) : (tlc c ts).length ≤ ts.length := by
  unfold tlc
  split
  · rw [List.length_tail]; omega
  · exact Nat.le_refl _
theorem tlc_lt {c : Nat} (hc : c ≠ 0) {ts : List Nat} (h : ts.headD 0 = c) : (tlc c ts).length + 1 = ts.length := by
  unfold tlc
  rw [if_pos h]
  cases ts with
  | nil => exact absurd h.symm hc
  | cons x r => rfl
section PSets
variable (n W V p sg bd rw : Nat) (T : List Nat) (b : Bd)
def A0 (k : Nat) : Prop := ∀ (acc : Od × Dn) (d i qn mk D : Nat) (M : Mem), d ≤ 13 → 3 * (T.drop i).length + 1 ≤ k → PaS p sg bd rw M T i qn mk b → hS d ≤ D → SpG p sg bd rw mk M T mk b (T.drop i) (pS k 0 acc d b (T.drop i)) (fun _ => qn) (fun x F M' a => EvS n (eSd d) W V F M' b a x.2) (mR n D 40 [.ref p, .int (nI d)] M)
def A1 (k : Nat) : Prop := ∀ (acc : Od × Dn) (d i qn mk D : Nat) (M : Mem), d ≤ 13 → 3 * (T.drop i).length + 2 ≤ k → PaS p sg bd rw M T i qn mk b → hS d + 2 ≤ D → SpG p sg bd rw mk M T mk b (T.drop i) (pS k 1 acc d b (T.drop i)) (fun _ => qn) (fun x F M' a => EvS n (eSd d + 2) W V F M' b a x.2) (mR n D 13 [.ref p, .int 42, .int (nI d)] M)
def A2 (k : Nat) : Prop := ∀ (acc : Od × Dn) (d i qn mk D : Nat) (M : Mem), d ≤ 13 → 3 * (T.drop i).length + 3 ≤ k → PaS p sg bd rw M T i qn mk b → hS d + 4 ≤ D → SpG p sg bd rw mk M T mk b (T.drop i) (pS k 2 acc d b (T.drop i)) (fun _ => qn) (fun x F M' a => EvS n (eSd d + 4) W V F M' b a x.2) (mR n D 13 [.ref p, .int 43, .int (nI d)] M)
def B3 (k : Nat) : Prop := ∀ (acc : Od × Dn) (d i qn mk D D0 : Nat) (M : Mem) (mk0 jw wh a1 jz z mo w : Nat) (F : Nat → Prop), d ≤ 13 → 3 * (T.drop i).length + 1 ≤ k → LpS 42 p sg bd rw M T i qn mk b mk0 jw wh a1 jz z → FpS rw M mk0 mk F → ¬ F wh → F z → SgM n (eSd d) W V F M b a1 z (mo + 1) acc.2 → PIn b acc.1 acc.2 → mo ≤ i → 122 ≤ w + mo → hS d + 1 ≤ D →
  SpG p sg bd rw mk0 M T mk b (tlc 42 (T.drop i)) (pS k 3 acc d b (T.drop i)) (fun _ => qn) (fun x F M' a => EvS n (eSd d + 2) W V F M' b a x.2) (fP_row_36 n D0 (mR n D) w p 42 (nI d) (some wh) (some z) (nI mo) M)
def B4 (k : Nat) : Prop := ∀ (acc : Od × Dn) (d i qn mk D D0 : Nat) (M : Mem) (mk0 jw wh a1 jz z mo w : Nat) (F : Nat → Prop), d ≤ 13 → 3 * (T.drop i).length + 1 ≤ k → LpS 43 p sg bd rw M T i qn mk b mk0 jw wh a1 jz z → FpS rw M mk0 mk F → ¬ F wh → F z → SgU n (eSd d + 2) W V F M b a1 z (mo + 1) acc.2 → mo ≤ i → 122 ≤ w + mo → hS d + 3 ≤ D →
  SpG p sg bd rw mk0 M T mk b (tlc 43 (T.drop i)) (pS k 4 acc d b (T.drop i)) (fun _ => qn) (fun x F M' a => EvS n (eSd d + 4) W V F M' b a x.2) (fP_row_36 n D0 (mR n D) w p 43 (nI d) (some wh) (some z) (nI mo) M)
end PSets
section PSetsP
variable {n W V p sg bd rw : Nat} {T : List Nat} {b : Bd}
/-- a single -/
theorem par_A0 (hn : 200 ≤ n) {k : Nat} (h0 : A0 n W V p sg bd rw T b k) (h2 : A2 n W V p sg bd rw T b k) : A0 n W V p sg bd rw T b (k + 1) := by
  intro acc d i qn mk D M hd hk hP hD
  unfold hS at hD
  obtain ⟨D, rfl⟩ : ∃ D', D = D' + 20 := ⟨D - 20, by omega⟩
  have e40 : mR n (D + 20) 40 [.ref p, .int (nI d)] M = fP_single_0 n (D + 19) (mR n (D + 19)) p (nI d) M := eP_single n (D + 19) p (nI d) M
  rw [e40]
  by_cases hd12 : d ≤ 12
  · have hlt : ¬ (12 : Int32) < nI d := nI_nlt (a := 12) (by omega) (by decide)
    have i1 : mR n (D + 19) 16 [.int 1] M = some (.inl none, M) := x_insist1 M
    obtain ⟨M1, i', f1, f2, f3, f4⟩ := x_next (n := n) (d := D + 17) hP
    have f1 : mR n (D + 19) 19 [.ref p] M = some (.inl (some (.int (nI ((T.drop i).headD 0)))), M1) := f1
    have hx10 : ∀ (kk : Nat), kk < 1000 → ∀ x : Int32, x = nI kk → (nI ((T.drop i).headD 0) = x ↔ (T.drop i).headD 0 = kk) := fun kk hkk x hx => cq (Nat.lt_trans (hd_lt hP) (by decide)) kk hkk hx
    have hc127 := hd_lt hP
    have hfit : fits .char (.int (nI ((T.drop i).headD 0))) = true := fits_ch (by omega)
    have hs0 : ∀ res, fP_single_0 n (D + 19) (mR n (D + 19)) p (nI d) M = res → True := fun _ _ => trivial
    have hstep : fP_single_0 n (D + 19) (mR n (D + 19)) p (nI d) M = if nI ((T.drop i).headD 0) = 40 then (rzC (mR n (D + 19) 13 [.ref p, .int 43, .int (nI d + 1)] M1) fun v_50 M_51 => (rzP v_50 fun r_54 => (if mK M_51 p = 2 then (rzC (mR n (D + 19) 31 [.ref p, .int 41] M_51) fun v_56 M_57 => (rzI v_56 fun x_60 => (rzC (mR n (D + 19) 16 [.int x_60] M_57) fun v_61 M_62 => (rzV v_61 (some (.inl (some (va_rf r_54)), M_62)))))) else none))) else (rzC (mR n (D + 19) 20 [.ref p, .int (nI ((T.drop i).headD 0))] M1) fun v_13 M_14 => (rzP v_13 fun r_17 => (if nI ((T.drop i).headD 0) = 45 then (if mK M_14 p = 2 then (rzC (mR n (D + 19) 40 [.ref p, .int (nI d + 1)] M_14) fun v_38 M_39 => (rzP v_38 fun r_42 => (rzD r_17 fun a_43 => (if mK M_39 a_43 = 4 then (rzM (setP M_39 a_43 3 r_42) fun M_46 => (fP_single_109 n (D + 19) (mR n (D + 19)) r_17 M_46)) else none)))) else none) else (if nI ((T.drop i).headD 0) = 48 then (fP_single_109 n (D + 19) (mR n (D + 19)) r_17 M_14) else (if nI ((T.drop i).headD 0) = 49 then (fP_single_109 n (D + 19) (mR n (D + 19)) r_17 M_14) else (if mK M_14 p = 2 then (rzC (mR n (D + 19) 41 [.ref p, .int (nI ((T.drop i).headD 0))] M_14) fun v_22 M_23 => (rzI v_22 fun x_26 => (rzD r_17 fun a_27 => (if mK M_23 a_27 = 4 then (rzM (setI M_23 a_27 2 x_26) fun M_30 => (rzD r_17 fun a_33 => (if mK M_30 a_33 = 4 then (if (mI M_30 a_33 2) < 3 then (fP_single_106 n (D + 19) (mR n (D + 19)) r_17 0 M_30) else (fP_single_106 n (D + 19) (mR n (D + 19)) r_17 1 M_30)) else none))) else none)))) else none)))))) := by
      rw [fP_single_0, if_neg hlt, fP_single_11]
      simp only [i1, rzC_l, rzV_e, hP.1.1, if_true, f1, rzI_e, f2.1.1]
    rw [hstep]
    have hmk : mk ≤ 120 := hP.2.2.2.2.2.2.1.2.2.1
    have hT : T.length ≤ 120 := hP.2.2.2.2.2.2.1.2.1
    cases hts : T.drop i with
    | nil =>
      rw [hts] at hx10 f3 hfit hc127
      have q0 : ¬ nI (([] : List Nat).headD 0) = 40 := fun q => absurd ((hx10 40 (by decide) 40 rfl).mp q) (by decide)
      have q45 : ¬ nI (([] : List Nat).headD 0) = 45 := fun q => absurd ((hx10 45 (by decide) 45 rfl).mp q) (by decide)
      have q48 : ¬ nI (([] : List Nat).headD 0) = 48 := fun q => absurd ((hx10 48 (by decide) 48 rfl).mp q) (by decide)
      have q49 : ¬ nI (([] : List Nat).headD 0) = 49 := fun q => absurd ((hx10 49 (by decide) 49 rfl).mp q) (by decide)
      have hg : pS (k + 1) 0 acc d b [] = none := by unfold pS; rw [if_pos rfl, if_pos hd12]
      rw [hg, if_neg q0]
      refine ⟨fun _ => ?_, fun y q => (by cases q)⟩
      by_cases hmk2 : mk < 120
      · obtain ⟨M2, a, g1, g2, g3, g4, g5⟩ := x_make (n := n) (d := D + 17) f2 hmk2 hfit
        have g1 : mR n (D + 19) 20 [.ref p, .int (nI (([] : List Nat).headD 0))] M1 = some (.inl (some (.ref a)), M2) := g1
        have hbv := (x_bv (n := n) (d := D + 13) (by omega) (by omega) g2 (c := ([] : List Nat).headD 0) (by decide)).2 (fun v hv => (by cases hv))
        have hbv : Thr p bd rw (mk + 1) M2 (mR n (D + 19) 41 [.ref p, .int (nI (([] : List Nat).headD 0))] M2) := hbv
        simp only [g1, rzC_l, rzP_s, if_neg q45, if_neg q48, if_neg q49, g2.1.1, if_true]
        exact (thr_g (thr_c hbv) (Nat.le_refl _) (Nat.le_refl _)).at ((f4 mk 0).trans g3 (Nat.le_refl _) (Nat.le_refl _)) (by omega) (by omega)
      · have := x_make_t (n := n) (d := D + 17) (by omega) f2 hmk2 (nI (([] : List Nat).headD 0))
        exact (thr_g (thr_c this) (Nat.le_refl _) (Nat.le_refl _)).at (f4 mk 0) (Nat.le_refl _) (by omega)
    | cons c r =>
      rw [hts] at hx10 f3 hfit hc127 hk
      have f3 : T.drop i' = r := f3
      have hc127 : c < 127 := hc127
      have hfit : fits .char (.int (nI c)) = true := hfit
      have hx10 : ∀ (kk : Nat), kk < 1000 → ∀ x : Int32, x = nI kk → (nI c = x ↔ c = kk) := hx10
      have hh : (c :: r).headD 0 = c := rfl
      rw [hh]
      have hlen : (c :: r).length = r.length + 1 := rfl
      by_cases c40 : c = 40
      · rw [if_pos ((hx10 40 (by decide) 40 rfl).mpr c40)]
        have hg : pS (k + 1) 0 acc d b (c :: r) = (pS k 2 acc (d + 1) b r).bind (cx 41) := by
          rw [pS]; simp only [if_pos hd12, if_pos c40, if_true]
        rw [hg]
        have hA := h2 acc (d + 1) i' qn mk (D + 19) M1 (by omega) (by rw [f3]; omega) f2 (by unfold hS; omega)
        rw [f3] at hA
        have hA : SpG p sg bd rw mk M1 T mk b r (pS k 2 acc (d + 1) b r) (fun _ => qn) (fun x F M' a => EvS n (eSd (d + 1) + 4) W V F M' b a x.2) (mR n (D + 19) 13 [.ref p, .int 43, .int (nI d + 1)] M1) := by rw [nI_1]; exact hA
        cases hsub : pS k 2 acc (d + 1) b r with
        | none =>
          refine ⟨fun _ => ?_, fun y q => (by cases q)⟩
          exact (thrg_c (hA.1 hsub)).at (f4 mk 0) (Nat.le_refl _) (by omega)
        | some y =>
          have hyl := (pS_len k 2 acc (d + 1) b r y hsub).1
          rcases hA.2 y hsub with ⟨M2, a, i2, mk2, F, g1, g2, g3, g4, g5, g6, g7, g8, g9⟩ | ⟨hb1, hb2⟩
          · simp only [g1, rzC_l, rzP_s, g2.1.1, if_true, Option.bind_some]
            obtain ⟨M3, i3, t1, t2, t3, t4⟩ := x_take (n := n) (d := D + 16) g2 (c := 41) (by decide) (x := 41) rfl
            have t1 : mR n (D + 19) 31 [.ref p, .int 41] M2 = _ := t1
            rw [g3] at t1 t3
            simp only [t1, rzC_l, rzI_e]
            by_cases h41 : y.2.headD 0 = 41
            · rw [if_pos h41] at t3
              rw [decide_eq_true h41, show b2i true = 1 from rfl, x_insist1, rzC_l, rzV_e]
              have hcx : cx 41 y = some (y.1, y.2.tail) := by
                unfold cx
                cases hy2 : y.2 with
                | nil => rw [hy2] at h41; exact absurd h41 (by decide)
                | cons t r2 => rw [hy2] at h41; have h41 : t = 41 := h41; simp [h41]
              rw [hcx]
              refine ⟨fun q => (by cases q), fun y' q => ?_⟩
              cases q
              have htl : y.2.tail.length + 1 = y.2.length := by
                cases hy2 : y.2 with
                | nil => rw [hy2] at h41; exact absurd h41 (by decide)
                | cons t r2 => rfl
              refine Or.inl ⟨M3, a, i3, mk2, F, rfl, t2, t3, ((f4 mk 0).trans g4 (Nat.le_refl _) (Nat.le_refl _)).trans (t4 mk 0) (Nat.le_refl _) (by omega), ⟨g5.1, by simp only [hlen]; omega⟩, fps_mono g6 (t4 mk 0), g7, ?_, ?_⟩
              · have := frk_keep g2.2.2.2.2.1 g2.kinds g2.2.2.2.2.2.2.1.2.2.1 g6 (t4 mk2 0) a g7
                rw [this.2.2.2]; exact g8
              · have := frk_keep g2.2.2.2.2.1 g2.kinds g2.2.2.2.2.2.2.1.2.2.1 g6 (t4 mk2 0)
                exact (g9.fr (agz_n this)).mono (by unfold eSd; omega)
            · rw [decide_eq_false h41, show b2i false = 0 from rfl]
              have hcx : cx 41 y = none := by
                unfold cx
                cases hy2 : y.2 with
                | nil => rfl
                | cons t r2 => rw [hy2] at h41; have h41 : ¬ t = 41 := h41; simp [h41]
              rw [hcx]
              refine ⟨fun _ => ?_, fun y' q => (by cases q)⟩
              have hth := x_insist0 (n := n) (d := D + 18) (by omega) t2
              exact (thr_g (thr_c hth) (Nat.le_refl _) (Nat.le_refl _)).at (((f4 mk 0).trans g4 (Nat.le_refl _) (Nat.le_refl _)).trans (t4 mk 0) (Nat.le_refl _) (Nat.le_refl _)) g5.1 (by have := g2.2.2.2.2.2.2.1.2.2.1; omega)
          · have hth := (thrg_c (f := fun v_50 M_51 => (rzP v_50 fun r_54 => (if mK M_51 p = 2 then (rzC (mR n (D + 19) 31 [.ref p, .int 41] M_51) fun v_56 M_57 => (rzI v_56 fun x_60 => (rzC (mR n (D + 19) 16 [.int x_60] M_57) fun v_61 M_62 => (rzV v_61 (some (.inl (some (va_rf r_54)), M_62)))))) else none))) hb2).at (f4 mk 0) (Nat.le_refl _) (k2 := 121 - mk) (by omega)
            refine ⟨fun _ => hth, fun y' q => Or.inr ⟨?_, hth⟩⟩
            have := cx_len (show cx 41 y = some y' from q)
            simp only [hlen]
            omega
      · rw [if_neg (fun q => c40 ((hx10 40 (by decide) 40 rfl).mp q))]
        by_cases hmk2 : mk < 120
        · obtain ⟨M2, a, g1, g2, g3, g4, g5⟩ := x_make (n := n) (d := D + 17) f2 hmk2 hfit
          have g1 : mR n (D + 19) 20 [.ref p, .int (nI c)] M1 = some (.inl (some (.ref a)), M2) := g1
          obtain ⟨u1, u2, u3, u4, u5, u6⟩ := g5
          have hfr2 : FrK p bd rw mk 1 M M2 := (f4 mk 0).trans g3 (Nat.le_refl _) (Nat.le_refl _)
          simp only [g1, rzC_l, rzP_s, g2.1.1, if_true]
          by_cases c45 : c = 45
          · rw [if_pos ((hx10 45 (by decide) 45 rfl).mpr c45)]
            have hg : pS (k + 1) 0 acc d b (c :: r) = (pS k 0 acc (d + 1) b r).bind fun y => some ((y.1.1 ++ [(9, 0)], fun n e => hfull n &&& hnot (y.1.2 n e)), y.2) := by
              rw [pS]; simp only [if_pos hd12, if_neg c40, if_pos c45, if_true]
            rw [hg]
            have hA := h0 acc (d + 1) i' qn (mk + 1) (D + 19) M2 (by omega) (by rw [f3]; omega) g2 (by unfold hS; omega)
            rw [f3] at hA
            have hA : SpG p sg bd rw (mk + 1) M2 T (mk + 1) b r (pS k 0 acc (d + 1) b r) (fun _ => qn) (fun x F M' a => EvS n (eSd (d + 1)) W V F M' b a x.2) (mR n (D + 19) 40 [.ref p, .int (nI d + 1)] M2) := by rw [nI_1]; exact hA
            cases hsub : pS k 0 acc (d + 1) b r with
            | none =>
              refine ⟨fun _ => ?_, fun y q => (by cases q)⟩
              exact (thrg_c (hA.1 hsub)).at hfr2 (by omega) (by omega)
            | some y =>
              have hyl := (pS_len k 0 acc (d + 1) b r y hsub).1
              rcases hA.2 y hsub with ⟨M3, a1, i3, mk3, F, t1, t2, t3, t4, t5, t6, t7, t8, t9⟩ | ⟨hb1, hb2⟩
              · have ka : AgZ (fS1 a) M2 M3 := frk_keep g2.2.2.2.2.1 g2.kinds (by omega) (fps_1 g4) t4
                obtain ⟨v1, v2, v3, v4⟩ := ka a rfl
                have g4' : mP M3 rw mk = some a := t4.2.2.2.2.1 mk a g4
                have hna : ¬ F a := fun q => by
                  obtain ⟨j, j1, j2, j3⟩ := t6 a q
                  have := t2.2.2.2.2.1.2 j mk a (by have := t2.2.2.2.2.2.2.1.2.2.1; omega) (by omega) j3 g4'
                  omega
                obtain ⟨w1, w2⟩ := nd_setP (f := 3) t2 (show mk < mk3 by omega) g4' (some a1)
                have haF : ∀ x, F x → x ≠ a := fun x hx q => hna (q ▸ hx)
                have hagF : AgN F a1 M3 (setP M3 a 3 (some a1)) := fun x hx => ⟨rfl, rfl, by rw [mP_setP, fu_row _ _ (haF x hx)], fun _ => by rw [mP_setP, fu_row _ _ (haF x hx)]⟩
                have hka : mK M3 a = 4 := v1.trans u1
                simp only [t1, rzC_l, rzP_s, rzD_s, hka, if_true, rzM_e, fP_single_109, Option.bind_some]
                refine ⟨fun q => (by cases q), fun y' q => ?_⟩
                cases q
                refine Or.inl ⟨_, a, i3, mk3, fU (fS1 a) F, rfl, w1, t3, (hfr2.trans t4 (by omega) (Nat.le_refl _)).trans (w2 mk 0 (Nat.le_refl _)) (Nat.le_refl _) (by omega), ⟨by omega, by simp only [hlen]; omega⟩, ?_, Or.inl rfl, ?_, ?_⟩
                · exact fps_mono (fps_u (fps_wid (fps_1 g4') (Nat.le_refl _) (by omega)) (fps_wid t6 (by omega) (Nat.le_refl _))) (w2 mk 0 (Nat.le_refl _))
                · rw [mP_setP, fu_ne _ _ (fun q => (by cases q.2))]; exact v4.trans u6
                · have hev := ev_neg (n := n) (W := W) (V := V) (M := setP M3 a 3 (some a1)) (b := b) (H := eSd (d + 1)) (F := F) (a := a) (a1 := a1) (D := y.1.2) hka (by show mI M3 a 0 = 45; rw [v2, u2, c45]; rfl) (by rw [mP_setP, fu_eq]) (t9.fr hagF) hna
                  exact hev.mono (by unfold eSd; omega)
              · have hth := (thrg_c (f := fun v_38 M_39 => (rzP v_38 fun r_42 => (rzD (some a) fun a_43 => (if mK M_39 a_43 = 4 then (rzM (setP M_39 a_43 3 r_42) fun M_46 => (fP_single_109 n (D + 19) (mR n (D + 19)) (some a) M_46)) else none)))) hb2).at hfr2 (by omega) (k2 := 121 - mk) (by omega)
                refine ⟨fun _ => hth, fun y' q => Or.inr ⟨?_, hth⟩⟩
                cases q
                simp only [hlen]
                omega
          · rw [if_neg (fun q => c45 ((hx10 45 (by decide) 45 rfl).mp q))]
            have okl : ∀ (D2 : Dn) (cd : Od) (H : Nat), H ≤ eSd d → EvS n H W V (fS1 a) M2 b a D2 → pS (k + 1) 0 acc d b (c :: r) = some ((cd, D2), r) → SpG p sg bd rw mk M T mk b (c :: r) (pS (k + 1) 0 acc d b (c :: r)) (fun _ => qn) (fun x F M' a => EvS n (eSd d) W V F M' b a x.2) (some (.inl (some (va_rf (some a))), M2)) := by
              intro D2 cd H hH hev hg
              rw [hg]
              refine ⟨fun q => (by cases q), fun y' q => ?_⟩
              cases q
              exact Or.inl ⟨M2, a, i', mk + 1, fS1 a, rfl, g2, f3, hfr2.mono (Nat.le_refl _) (by omega), ⟨by omega, by simp only [hlen]; omega⟩, fps_1 g4, rfl, u6, hev.mono hH⟩
            by_cases c48 : c = 48
            · rw [if_pos ((hx10 48 (by decide) 48 rfl).mpr c48)]
              refine okl _ [(23, 0)] 1 (by unfold eSd; omega) (ev_0 u1 (by rw [u2, c48]; rfl)) ?_
              rw [pS]; simp only [if_pos hd12, if_neg c40, if_neg c45, if_pos c48, if_true]
            · rw [if_neg (fun q => c48 ((hx10 48 (by decide) 48 rfl).mp q))]
              by_cases c49 : c = 49
              · rw [if_pos ((hx10 49 (by decide) 49 rfl).mpr c49)]
                refine okl _ [(24, 0)] 1 (by unfold eSd; omega) (ev_1 u1 (by rw [u2, c49]; rfl)) ?_
                rw [pS]; simp only [if_pos hd12, if_neg c40, if_neg c45, if_neg c48, if_pos c49, if_true]
              · rw [if_neg (fun q => c49 ((hx10 49 (by decide) 49 rfl).mp q))]
                have hg : pS (k + 1) 0 acc d b (c :: r) = (vrS b c).bind fun q => some (([(14, q)], fun _ e => e q), r) := by
                  rw [pS]; simp only [if_pos hd12, if_neg c40, if_neg c45, if_neg c48, if_neg c49, if_true]
                obtain ⟨bv1, bv2⟩ := x_bv (n := n) (d := D + 13) (by omega) (by omega) g2 hc127
                have bv1 : ∀ v, varO c = some v → (b v).isSome = true → mR n (D + 19) 41 [.ref p, .int (nI c)] M2 = some (.inl (some (.int (nI v))), M2) := bv1
                have bv2 : _ → Thr p bd rw (mk + 1) M2 (mR n (D + 19) 41 [.ref p, .int (nI c)] M2) := bv2
                by_cases hvb : ∃ v, varO c = some v ∧ (b v).isSome = true
                · obtain ⟨v, hv, hbv⟩ := hvb
                  have hv6 := varO_lt hv
                  obtain ⟨q, hq⟩ := Option.isSome_iff_exists.mp hbv
                  obtain ⟨w1, w2⟩ := nd_setI (f := 2) g2 (show mk < mk + 1 by omega) g4 (nI v)
                  have hv2 : mI (setI M2 a 2 (nI v)) a 2 = nI v := by rw [mI_setI, fu_eq]
                  have hl3 : (nI v < 3) ↔ v < 3 := nI_ltI (b := 3) (by omega) (by decide)
                  have hka : mK (setI M2 a 2 (nI v)) a = 4 := u1
                  simp only [bv1 v hv hbv, rzC_l, rzI_e, rzD_s, u1, if_true, rzM_e, hka, hv2, fP_single_106, fP_single_109]
                  by_cases h3 : v < 3
                  · rw [if_pos (hl3.mpr h3)]
                    have hvr : vrS b c = none := by unfold vrS; rw [hv]; simp only [Option.bind_some]; rw [if_neg (by omega)]
                    rw [hg, hvr]
                    refine ⟨fun _ => ?_, fun y' q => (by cases q)⟩
                    have hth := x_insist0 (n := n) (d := D + 18) (by omega) w1
                    exact (thr_g (thr_c hth) (Nat.le_refl _) (Nat.le_refl _)).at (hfr2.trans (w2 mk 0 (Nat.le_refl _)) (Nat.le_refl _) (Nat.le_refl _)) (by omega) (by omega)
                  · rw [if_neg (fun q => h3 (hl3.mp q)), x_insist1, rzC_l, rzV_e]
                    have hvr : vrS b c = some q := by unfold vrS; rw [hv]; simp only [Option.bind_some]; rw [if_pos (by omega), hq]
                    rw [hg, hvr]
                    refine ⟨fun q => (by cases q), fun y' q => ?_⟩
                    cases q
                    refine Or.inl ⟨_, a, i', mk + 1, fS1 a, rfl, w1, f3, hfr2.trans (w2 mk 0 (Nat.le_refl _)) (Nat.le_refl _) (by omega), ⟨by omega, by simp only [hlen]; omega⟩, fps_mono (fps_1 g4) (w2 mk 0 (Nat.le_refl _)), rfl, u6, ?_⟩
                    refine (ev_v (ch := c) hka ?_ (by omega) ⟨?_, ?_, c45, c48, c49⟩ hv2 hv6 hq).mono (H' := eSd d) (by unfold eSd; omega)
                    · rw [mI_setI, fu_ne _ _ (fun q => (by cases q.2))]; exact u2
                    · intro q; rw [q] at hv; cases hv
                    · intro q; rw [q] at hv; cases hv
                · have hth := bv2 (fun v hv => by
                    cases hbv : (b v).isSome with
                    | false => rfl
                    | true => exact absurd ⟨v, hv, hbv⟩ hvb)
                  have hvr : vrS b c = none := by
                    cases hq : vrS b c with
                    | none => rfl
                    | some q => obtain ⟨v, e1, -, e3⟩ := vrS_b hq; exact absurd ⟨v, e1, by rw [e3]; rfl⟩ hvb
                  rw [hg, hvr]
                  refine ⟨fun _ => ?_, fun y' q => (by cases q)⟩
                  exact (thr_g (thr_c hth) (Nat.le_refl _) (Nat.le_refl _)).at hfr2 (by omega) (by omega)
        · have hth := (thr_g (thr_c (f := fun v_13 M_14 => (rzP v_13 fun r_17 => (if nI c = 45 then (if mK M_14 p = 2 then (rzC (mR n (D + 19) 40 [.ref p, .int (nI d + 1)] M_14) fun v_38 M_39 => (rzP v_38 fun r_42 => (rzD r_17 fun a_43 => (if mK M_39 a_43 = 4 then (rzM (setP M_39 a_43 3 r_42) fun M_46 => (fP_single_109 n (D + 19) (mR n (D + 19)) r_17 M_46)) else none)))) else none) else (if nI c = 48 then (fP_single_109 n (D + 19) (mR n (D + 19)) r_17 M_14) else (if nI c = 49 then (fP_single_109 n (D + 19) (mR n (D + 19)) r_17 M_14) else (if mK M_14 p = 2 then (rzC (mR n (D + 19) 41 [.ref p, .int (nI c)] M_14) fun v_22 M_23 => (rzI v_22 fun x_26 => (rzD r_17 fun a_27 => (if mK M_23 a_27 = 4 then (rzM (setI M_23 a_27 2 x_26) fun M_30 => (rzD r_17 fun a_33 => (if mK M_30 a_33 = 4 then (if (mI M_30 a_33 2) < 3 then (fP_single_106 n (D + 19) (mR n (D + 19)) r_17 0 M_30) else (fP_single_106 n (D + 19) (mR n (D + 19)) r_17 1 M_30)) else none))) else none)))) else none)))))) (x_make_t (n := n) (d := D + 17) (by omega) f2 hmk2 (nI c))) (Nat.le_refl _) (Nat.le_refl _)).at (f4 mk 0) (Nat.le_refl _) (k2 := 121 - mk) (by omega)
          refine ⟨fun _ => hth, fun y q => Or.inr ⟨?_, hth⟩⟩
          have := (pS_len (k + 1) 0 acc d b (c :: r) y q).2.1 (by decide)
          simp only [hlen] at this ⊢
          omega
  · have hlt : (12 : Int32) < nI d := nI_lt (a := 12) (by omega) (by omega)
    have hg : pS (k + 1) 0 acc d b (T.drop i) = none := by unfold pS; rw [if_pos rfl, if_neg hd12]
    rw [hg]
    refine ⟨fun _ => ?_, fun y q => (by cases q)⟩
    rw [fP_single_0, if_pos hlt, fP_single_11]
    exact thr_g (thr_c (x_insist0 (n := n) (d := D + 18) (by omega) hP)) (Nat.le_refl _) (Nat.le_refl _)
end PSetsP
