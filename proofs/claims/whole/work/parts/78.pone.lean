/-! the parser: comparisons -/
section PCo
variable {n W V p sg bd rw : Nat} {M : Mem} {T : List Nat} {i qn mk : Nat} {b : Bd}
/-- a fresh piece with no parts yet -/
theorem sums_0 {H a : Nat} {x : Int32} (h : PaS p sg bd rw M T i qn (mk + 1) b) (ha : mP M rw mk = some a) (hf : Fresh M a x) : SumS n H W V p sg bd rw M T i qn (mk + 1) b mk mk a 0 (fun _ => False) (fun _ _ => 0) :=
  ⟨h, ⟨ha, Nat.le_refl _, by omega⟩, hf.1, fun c hc => hc.elim, fun q => q, by rw [hf.2.2.2.2.1]; exact chz_0, Nat.zero_le _⟩
/-- ints of the piece over a sum are set -/
theorem sums_setI {H base jw wh L : Nat} {F : Nat → Prop} {D0 : Dn} {f : Nat} {x : Int32} (h : SumS n H W V p sg bd rw M T i qn mk b base jw wh L F D0) : SumS n H W V p sg bd rw (setI M wh f x) T i qn mk b base jw wh L F D0 ∧ ∀ k, FrK p bd rw base k M (setI M wh f x) := by
  obtain ⟨hP, ⟨w1, w2, w3⟩, hwk, hF, hFw, hCh, hLm⟩ := h
  obtain ⟨p1, p2⟩ := nd_setI (f := f) hP w3 w1 x
  have kF : AgZ F M (setI M wh f x) := fun c hc => ⟨rfl, by rw [mI_setI, fu_row _ _ (show c ≠ wh from fun q => hFw (q ▸ hc))], rfl, rfl⟩
  exact ⟨⟨p1, ⟨w1, w2, w3⟩, hwk, hF, hFw, hCh.fr kF, hLm⟩, fun k => p2 base k w2⟩
theorem par_cmp (hn : 200 ≤ n) {k d D : Nat} (hd : d ≤ 12) (hk : 3 * (T.drop i).length ≤ k + 2) (hD : hS d + 4 ≤ D) (hP : PaS p sg bd rw M T i qn mk b) : SpG p sg bd rw mk M T mk b (T.drop i) ((pZ k d b (T.drop i)).bind fun y => pR k d b y.1 y.2) (fun _ => qn) (fun x F M' a => EvF n (eSd d + 2) W V F M' b a x.2 ∧ ∃ ch, mI M' a 0 = nI ch ∧ ch < 127 ∧ ch ≠ 65 ∧ ch ≠ 69) (mR n (D + 1) 42 [.ref p, .int (nI d)] M) := by
  obtain ⟨D, rfl⟩ : ∃ D', D = D' + 20 := ⟨D - 20, by unfold hS at hD; omega⟩
  have hmk : mk ≤ 120 := hP.2.2.2.2.2.2.1.2.2.1
  have hT : T.length ≤ 120 := hP.2.2.2.2.2.2.1.2.1
  have e42 : mR n (D + 20 + 1) 42 [.ref p, .int (nI d)] M = fP_comparisonOfSums_0 n (D + 20) (mR n (D + 20)) p (nI d) M := eP_comparisonOfSums n (D + 20) p (nI d) M
  rw [e42]
  have hRl : ∀ y y', pZ k d b (T.drop i) = some y → pR k d b y.1 y.2 = some y' → y'.2.length < y.2.length ∧ y.2.length < (T.drop i).length := fun y y' h1 h2 => ⟨pR_len h2, (pZ_len h1).1⟩
  by_cases hmk2 : mk < 120
  · obtain ⟨M1, wh, g1, g2, g3, g4, g5⟩ := x_make (n := n) (d := D + 18) hP hmk2 (x := 0) (fits_ch (x := 0) (by decide))
    have g1 : mR n (D + 20) 20 [.ref p, .int 0] M = some (.inl (some (.ref wh)), M1) := g1
    have hS0 := sums_0 (n := n) (W := W) (V := V) (H := eSd d) g2 g4 g5
    have hZ := par_sum (n := n) (k := k) (D := D + 19) hn hd hk (by omega) 1 hS0
    have hZ : SpV n (eSd d) W V p sg bd rw M1 T qn (mk + 1) b mk mk wh (T.drop i) (pZ k d b (T.drop i)) _ (mR n (D + 20) 37 [.ref p, va_rf (some wh), .int 1, .int (nI d)] M1) := hZ
    simp only [fP_comparisonOfSums_0, hP.1.1, if_true, g1, rzC_l, rzP_s, g2.1.1]
    cases hsub : pZ k d b (T.drop i) with
    | none =>
      refine ⟨fun _ => (thrg_c (hZ.1 hsub)).at g3 (Nat.le_refl _) (by omega), fun y q => (by cases q)⟩
    | some y =>
      rw [Option.bind_some]
      rcases hZ.2 y hsub with ⟨M2, i2, mk2, F2, L2, t1, t2, t3, t4, t5, t6, t7⟩ | ⟨hb1, hb2⟩
      · have hP2 := t2.1
        have hm2 : mk2 ≤ 120 := hP2.2.2.2.2.2.2.1.2.2.1
        obtain ⟨M3, i3, n1, n2, n3, n4⟩ := x_next (n := n) (d := D + 18) hP2
        have n1 : mR n (D + 20) 19 [.ref p] M2 = some (.inl (some (.int (nI ((T.drop i2).headD 0)))), M3) := n1
        rw [t3] at n1 n3
        obtain ⟨s3, s3i, s3p⟩ := sums_mv t2 n2 (n4 mk2 0)
        obtain ⟨s4, s4f⟩ := sums_setI (f := 0) (x := nI (y.2.headD 0)) s3
        have hc127 : y.2.headD 0 < 127 := by rw [← t3]; exact hd_lt hP2
        have hfit : fits .char (.int (nI (y.2.headD 0))) = true := fits_ch (by omega)
        have hk3 : mK M3 wh = 4 := s3.2.2.1
        have hk4 : mK (setI M3 wh 0 (nI (y.2.headD 0))) wh = 4 := hk3
        have hs4 : mI (setI M3 wh 0 (nI (y.2.headD 0))) wh 0 = nI (y.2.headD 0) := by rw [mI_setI, fu_eq]
        have hfr4 : FrK p bd rw mk (mk2 - mk) M (setI M3 wh 0 (nI (y.2.headD 0))) := ((g3.trans t4 (Nat.le_refl _) (Nat.le_refl _)).trans (n4 mk 0) (Nat.le_refl _) (Nat.le_refl _)).trans (s4f 0) (Nat.le_refl _) (by omega)
        have hx : ∀ (kk : Nat), kk < 1000 → ∀ x : Int32, x = nI kk → (nI (y.2.headD 0) = x ↔ y.2.headD 0 = kk) := fun kk hkk x hx => cq (by omega) kk hkk hx
        simp only [t1, rzC_l, rzV_e, hP2.1.1, if_true, n1, rzI_e, rzD_s, hk3, hfit, rzM_e, hk4, hs4]
        by_cases hc : y.2.headD 0 = 60 ∨ y.2.headD 0 = 61
        · have hcons : y.2 = y.2.headD 0 :: y.2.tail := hd_cons (by omega) rfl
          have hyl := congrArg List.length hcons
          simp only [List.length_cons] at hyl
          have hgo : ∀ (R : Rz), R = fP_comparisonOfSums_44 n (D + 20) (mR n (D + 20)) p (nI d) (some wh) 1 (setI M3 wh 0 (nI (y.2.headD 0))) → SpG p sg bd rw mk M T mk b (T.drop i) (pR k d b y.1 y.2) (fun _ => qn) (fun x F M' a => EvF n (eSd d + 2) W V F M' b a x.2 ∧ ∃ ch, mI M' a 0 = nI ch ∧ ch < 127 ∧ ch ≠ 65 ∧ ch ≠ 69) R := by
            intro R hR
            have i1 : mR n (D + 20) 16 [.int 1] (setI M3 wh 0 (nI (y.2.headD 0))) = _ := x_insist1 _
            have hZ2 := par_sum (n := n) (k := k) (D := D + 19) hn hd (by rw [n3]; have := (pZ_len hsub).1; omega) (by omega) (-1) s4
            rw [n3] at hZ2
            have hZ2 : SpV n (eSd d) W V p sg bd rw (setI M3 wh 0 (nI (y.2.headD 0))) T qn mk2 b mk mk wh y.2.tail (pZ k d b y.2.tail) _ (mR n (D + 20) 37 [.ref p, va_rf (some wh), .int (-1), .int (nI d)] (setI M3 wh 0 (nI (y.2.headD 0)))) := hZ2
            rw [hR, fP_comparisonOfSums_44, i1, rzC_l, rzV_e, if_pos s4.1.1.1]
            obtain ⟨Qf, hQf⟩ : ∃ Qf : (Od × Dn) → Od × DF, (pR k d b y.1 y.2 = (pZ k d b y.2.tail).bind fun z => some (Qf z.1, z.2)) ∧ (y.2.headD 0 = 60 → ∀ z sz e, (Qf z).2 sz e = decide (y.1.2 sz e < z.2 sz e)) ∧ (y.2.headD 0 = 61 → ∀ z sz e, (Qf z).2 sz e = decide (y.1.2 sz e = z.2 sz e)) := by
              by_cases c60 : y.2.headD 0 = 60
              · refine ⟨fun z => (y.1.1 ++ z.1 ++ [(19, 0)], fun n e => decide (y.1.2 n e < z.2 n e)), ?_, fun _ z sz e => rfl, fun q => absurd (c60.symm.trans q) (by decide)⟩
                refine (congrArg (pR k d b y.1) hcons).trans ?_
                unfold pR
                simp only [if_pos c60]
              · have c61 := hc.resolve_left c60
                refine ⟨fun z => (y.1.1 ++ z.1 ++ [(20, 0)], fun n e => decide (y.1.2 n e = z.2 n e)), ?_, fun q => absurd q c60, fun _ z sz e => rfl⟩
                refine (congrArg (pR k d b y.1) hcons).trans ?_
                unfold pR
                simp only [if_neg c60, if_pos c61]
            rw [hQf.1]
            cases hsub2 : pZ k d b y.2.tail with
            | none => exact ⟨fun _ => (thrg_c (hZ2.1 hsub2)).at hfr4 (Nat.le_refl _) (by omega), fun y q => (by cases q)⟩
            | some z =>
              rcases hZ2.2 z hsub2 with ⟨M5, i5, mk5, F5, L5, v1, v2, v3, v4, v5, v6, v7⟩ | ⟨hb1, hb2⟩
              · refine ⟨fun q => (by cases q), fun y' q => ?_⟩
                cases q
                have hsgn5 : mI M5 wh 0 = nI (y.2.headD 0) := by rw [v6]; exact hs4
                have hnx : mP M5 wh 4 = none := by
                  rw [v7]
                  show mP M3 wh 4 = none
                  rw [s3p, t7]
                  exact g5.2.2.2.2.2
                obtain ⟨hP5, ⟨w1, w2, w3⟩, hwk, hF5, hFw5, hCh5, hLm5⟩ := v2
                have hm5 : mk5 ≤ 120 := hP5.2.2.2.2.2.2.1.2.2.1
                refine Or.inl ⟨M5, wh, i5, mk5, fU (fS1 wh) F5, by rw [v1, rzC_l, rzV_e]; rfl, hP5, v3, hfr4.trans v4 (Nat.le_refl _) (by omega), ⟨by omega, ?_⟩, fps_u (fps_wid (fps_1 w1) w2 (by omega)) hF5, Or.inl rfl, hnx, ?_, ⟨_, hsgn5, by omega, by omega, by omega⟩⟩
                · have e1 := t5.2
                  have e2 := v5.2
                  simp only at e1 e2 ⊢
                  omega
                · have hcl1 := pZ_cl hsub
                  have hcl2 := pZ_cl hsub2
                  have hlen := (pZ_len hsub).1
                  have hdl : (T.drop i).length ≤ 120 := by rw [List.length_drop]; omega
                  have hDe : (fun sz e => (0 + 1 * y.1.2 sz e) + (-1) * z.1.2 sz e) = fun sz e => y.1.2 sz e - z.1.2 sz e := by
                    funext sz e
                    rw [Int32.zero_add, Int32.one_mul, Int32.neg_mul, Int32.one_mul]
                    exact (Int32.sub_eq_add_neg _ _).symm
                  replace hCh5 : ChZ n (eSd d) W V F5 M5 b (mP M5 wh 3) L5 (fun sz e => y.1.2 sz e - z.1.2 sz e) := (congrArg (ChZ n (eSd d) W V F5 M5 b (mP M5 wh 3) L5) hDe).mp hCh5
                  refine f_sum hwk hsgn5 (by omega) rfl hCh5 hFw5 (by omega) (fun sz e hs hR => ⟨fun c60 => ?_, fun c61 => ?_, fun c58 => absurd c58 (by omega)⟩)
                  · have b1 := pZ_ind (pb_cl b) hsub (by omega) sz e hs hR
                    have b2 := pZ_ind (pb_cl b) hsub2 (by omega) sz e hs hR
                    show (Qf z.1).2 sz e = true ↔ ¬ 0 ≤ y.1.2 sz e - z.1.2 sz e
                    rw [hQf.2.1 c60, decide_eq_true_iff]
                    exact lt_sub (by omega) (by omega)
                  · show (Qf z.1).2 sz e = true ↔ y.1.2 sz e - z.1.2 sz e = 0
                    rw [hQf.2.2 c61, decide_eq_true_iff]
                    exact eq_sub
              · refine ⟨fun q => (by cases q), fun y' q => Or.inr ⟨?_, (thrg_c hb2).at hfr4 (Nat.le_refl _) (by omega)⟩⟩
                cases q
                have e1 := t5.2
                simp only at e1 ⊢
                omega
          rcases hc with c60 | c61
          · rw [if_pos ((hx 60 (by decide) 60 rfl).mpr c60)]
            exact hgo _ rfl
          · rw [if_neg (fun q => by have := (hx 60 (by decide) 60 rfl).mp q; omega), if_pos ((hx 61 (by decide) 61 rfl).mpr c61)]
            exact hgo _ rfl
        · have hg : pR k d b y.1 y.2 = none := by
            unfold pR
            cases hts : y.2 with
            | nil => rfl
            | cons c r =>
              rw [hts] at hc
              have hc : ¬ (c = 60 ∨ c = 61) := hc
              simp only [if_neg (fun q => hc (Or.inl q)), if_neg (fun q => hc (Or.inr q))]
          rw [if_neg (fun q => hc (Or.inl ((hx 60 (by decide) 60 rfl).mp q))), if_neg (fun q => hc (Or.inr ((hx 61 (by decide) 61 rfl).mp q))), hg]
          refine ⟨fun _ => ?_, fun y' q => (by cases q)⟩
          have hth := x_insist0 (n := n) (d := D + 19) (by omega) s4.1
          rw [fP_comparisonOfSums_44]
          exact (thr_g (thr_c hth) (Nat.le_refl _) (Nat.le_refl _)).at hfr4 (by have := t5.1; omega) (by omega)
      · refine ⟨fun _ => (thrg_c hb2).at g3 (Nat.le_refl _) (by omega), fun y' q => Or.inr ⟨?_, (thrg_c hb2).at g3 (Nat.le_refl _) (by omega)⟩⟩
        have := hRl y y' hsub q
        omega
  · have hmt := x_make_t (n := n) (d := D + 18) (by omega) hP hmk2 0
    have hmt : Thr p bd rw mk M (mR n (D + 20) 20 [.ref p, .int 0] M) := hmt
    have hth : ThrG p bd rw mk (121 - mk) M (fP_comparisonOfSums_0 n (D + 20) (mR n (D + 20)) p (nI d) M) := by
      simp only [fP_comparisonOfSums_0, hP.1.1, if_true]
      exact thr_g (thr_c hmt) (Nat.le_refl _) (Nat.le_refl _)
    refine ⟨fun _ => hth, fun y' q => Or.inr ⟨?_, hth⟩⟩
    obtain ⟨y, e1, e2⟩ := Option.bind_eq_some_iff.mp q
    have := hRl y y' e1 e2
    omega
/-- a number and what it divides -/
theorem par_div (hn : 200 ≤ n) {k d D v : Nat} {r : List Nat} (hd : d ≤ 12) (hk : 3 * (T.drop i).length ≤ k + 2) (hD : hS d + 4 ≤ D) (hP : PaS p sg bd rw M T i qn mk b) (hN : pN (T.drop i) = some (v, r)) (hcol : coln r = true) : SpG p sg bd rw mk M T mk b (T.drop i) (pD k d b v r.tail) (fun _ => qn) (fun x F M' a => EvF n (eSd d + 2) W V F M' b a x.2 ∧ ∃ ch, mI M' a 0 = nI ch ∧ ch < 127 ∧ ch ≠ 65 ∧ ch ≠ 69) (mR n (D + 1) 36 [.ref p, .int (nI d)] M) := by
  obtain ⟨D, rfl⟩ : ∃ D', D = D' + 20 := ⟨D - 20, by unfold hS at hD; omega⟩
  have hmk : mk ≤ 120 := hP.2.2.2.2.2.2.1.2.2.1
  have hv999 := pN_le hN
  have hNl := pN_len hN
  have hNl : r.length < (T.drop i).length := hNl
  have hv999 : v ≤ 999 := hv999
  obtain ⟨M1, i1, s1, s2, s3, s4⟩ := (x_number (n := n) (d := D + 16) (by omega) (by omega) hP).1 _ hN
  have s1 : mR n (D + 20) 35 [.ref p] M = some (.inl (some (.int (nI v))), M1) := s1
  have s3 : T.drop i1 = r := s3
  have hr58 : r = 58 :: r.tail := by
    cases r with
    | nil => cases hcol
    | cons c r => have : c = 58 := of_decide_eq_true hcol; rw [this]; rfl
  have hrl := congrArg List.length hr58
  simp only [List.length_cons] at hrl
  have e36 : mR n (D + 20 + 1) 36 [.ref p, .int (nI d)] M = fP_divided_0 n (D + 20) (mR n (D + 20)) p (nI d) M := eP_divided n (D + 20) p (nI d) M
  rw [e36]
  simp only [fP_divided_0, hP.1.1, if_true, s1, rzC_l, rzI_e, fP_divided_14]
  have hv0 : nI v = 0 ↔ v = 0 := cq (by omega) 0 (by decide) rfl
  by_cases v0 : v = 0
  · rw [if_pos (hv0.mpr v0)]
    have hg : pD k d b v r.tail = none := if_pos v0
    rw [hg]
    refine ⟨fun _ => ?_, fun y q => (by cases q)⟩
    exact (thr_g (thr_c (x_insist0 (n := n) (d := D + 19) (by omega) s2)) (Nat.le_refl _) (Nat.le_refl _)).at (s4 mk 0) (Nat.le_refl _) (by omega)
  · rw [if_neg (fun q => v0 (hv0.mp q))]
    have i1' : mR n (D + 20) 16 [.int 1] M1 = some (.inl none, M1) := x_insist1 M1
    obtain ⟨M2, i2, n1, n2, n3, n4⟩ := x_next (n := n) (d := D + 18) s2
    have n1 : mR n (D + 20) 19 [.ref p] M1 = some (.inl (some (.int (nI ((T.drop i1).headD 0)))), M2) := n1
    rw [s3] at n1 n3
    have hh : r.headD 0 = 58 := by rw [hr58]; rfl
    rw [hh] at n1
    simp only [i1', rzC_l, rzV_e, s2.1.1, if_true, n1, rzI_e, n2.1.1]
    have hfr2 : FrK p bd rw mk 0 M M2 := (s4 mk 0).trans (n4 mk 0) (Nat.le_refl _) (Nat.le_refl _)
    have hg : pD k d b v r.tail = (pZ k d b r.tail).bind fun y => some ((y.1.1 ++ [(21, v)], fun n e => decide (y.1.2 n e - y.1.2 n e / nI v * nI v = 0)), y.2) := if_neg v0
    rw [hg]
    by_cases hmk2 : mk < 120
    · obtain ⟨M3, wh, g1, g2, g3, g4, g5⟩ := x_make (n := n) (d := D + 18) n2 hmk2 (x := nI 58) (fits_ch (x := 58) (by decide))
      have g1 : mR n (D + 20) 20 [.ref p, .int (nI 58)] M2 = some (.inl (some (.ref wh)), M3) := g1
      have hS0 := sums_0 (n := n) (W := W) (V := V) (H := eSd d) g2 g4 g5
      obtain ⟨s5, s5f⟩ := sums_setI (f := 1) (x := nI v) hS0
      have hZ := par_sum (n := n) (k := k) (D := D + 19) hn hd (by rw [n3]; omega) (by omega) 1 s5
      rw [n3] at hZ
      have hZ : SpV n (eSd d) W V p sg bd rw (setI M3 wh 1 (nI v)) T qn (mk + 1) b mk mk wh r.tail (pZ k d b r.tail) _ (mR n (D + 20) 37 [.ref p, va_rf (some wh), .int 1, .int (nI d)] (setI M3 wh 1 (nI v))) := hZ
      have hk3 : mK M3 wh = 4 := g5.1
      have hp4 : mK (setI M3 wh 1 (nI v)) p = 2 := s5.1.1.1
      have hfr4 : FrK p bd rw mk 1 M (setI M3 wh 1 (nI v)) := (hfr2.trans g3 (Nat.le_refl _) (Nat.le_refl _)).trans (s5f 0) (Nat.le_refl _) (by omega)
      simp only [g1, rzC_l, rzP_s, rzD_s, hk3, if_true, rzM_e, hp4]
      cases hsub : pZ k d b r.tail with
      | none => exact ⟨fun _ => (thrg_c (hZ.1 hsub)).at hfr4 (Nat.le_refl _) (by omega), fun y q => (by cases q)⟩
      | some z =>
        rcases hZ.2 z hsub with ⟨M5, i5, mk5, F5, L5, v1, v2, v3, v4, v5, v6, v7⟩ | ⟨hb1, hb2⟩
        · refine ⟨fun q => (by cases q), fun y' q => ?_⟩
          cases q
          have hsgn5 : mI M5 wh 0 = nI 58 := by
            rw [v6, mI_setI, fu_ne _ _ (fun q => (by cases q.2))]; exact g5.2.1
          have hnum5 : mI M5 wh 1 = nI v := by rw [v6, mI_setI, fu_eq]
          have hnx : mP M5 wh 4 = none := by
            rw [v7]
            exact g5.2.2.2.2.2
          obtain ⟨hP5, ⟨w1, w2, w3⟩, hwk, hF5, hFw5, hCh5, hLm5⟩ := v2
          have hm5 : mk5 ≤ 120 := hP5.2.2.2.2.2.2.1.2.2.1
          refine Or.inl ⟨M5, wh, i5, mk5, fU (fS1 wh) F5, by rw [v1, rzC_l, rzV_e]; rfl, hP5, v3, hfr4.trans v4 (Nat.le_refl _) (by omega), ⟨by omega, ?_⟩, fps_u (fps_wid (fps_1 w1) w2 (by omega)) hF5, Or.inl rfl, hnx, ?_, ⟨_, hsgn5, by omega, by omega, by omega⟩⟩
          · have e2 := v5.2
            simp only at e2 ⊢
            omega
          · have hDe : (fun sz e => 0 + 1 * z.1.2 sz e) = fun sz e => z.1.2 sz e := by
              funext sz e
              rw [Int32.zero_add, Int32.one_mul]
            replace hCh5 : ChZ n (eSd d) W V F5 M5 b (mP M5 wh 3) L5 (fun sz e => z.1.2 sz e) := (congrArg (ChZ n (eSd d) W V F5 M5 b (mP M5 wh 3) L5) hDe).mp hCh5
            refine f_sum hwk hsgn5 (by omega) rfl hCh5 hFw5 (by omega) (fun sz e hs hR => ⟨fun c60 => absurd c60 (by decide), fun c61 => absurd c61 (by decide), fun _ => ?_⟩)
            rw [hnum5]
            exact ⟨fun q => v0 (hv0.mp q), decide_eq_true_iff⟩
        · refine ⟨fun q => (by cases q), fun y' q => Or.inr ⟨?_, (thrg_c hb2).at hfr4 (Nat.le_refl _) (by omega)⟩⟩
          cases q
          simp only
          omega
    · have hmt := x_make_t (n := n) (d := D + 18) (by omega) n2 hmk2 (nI 58)
      have hmt : Thr p bd rw mk M2 (mR n (D + 20) 20 [.ref p, .int (nI 58)] M2) := hmt
      refine ⟨fun _ => (thr_g (thr_c hmt) (Nat.le_refl _) (Nat.le_refl _)).at hfr2 (Nat.le_refl _) (by omega), fun y' q => Or.inr ⟨?_, (thr_g (thr_c hmt) (Nat.le_refl _) (Nat.le_refl _)).at hfr2 (Nat.le_refl _) (by omega)⟩⟩
      obtain ⟨z, e1, e2⟩ := Option.bind_eq_some_iff.mp q
      have := (pZ_len e1).1
      cases e2
      simp only
      omega
/-- does a divisor come -/
theorem x_swd (hn : 200 ≤ n) {D : Nat} (hP : PaS p sg bd rw M T i qn mk b) : (isDg ((T.drop i).headD 0) = false → mR n (D + 20) 33 [.ref p] M = some (.inl (some (.int 0)), M)) ∧ (isDg ((T.drop i).headD 0) = true → pN (T.drop i) = none → Thr p bd rw mk M (mR n (D + 20) 33 [.ref p] M)) ∧ (∀ y, isDg ((T.drop i).headD 0) = true → pN (T.drop i) = some y → ∃ M', mR n (D + 20) 33 [.ref p] M = some (.inl (some (.int (b2i (coln y.2)))), M') ∧ PaS p sg bd rw M' T i qn mk b ∧ ∀ k0 k, FrK p bd rw k0 k M M') := by
  have hpk := x_peek (n := n) (d := D + 18) hP
  have hdc := x_isDec (n := n) (d := D + 18) (Nat.lt_trans (hd_lt hP) (by decide)) M
  have hpk : mR n (D + 19) 17 [.ref p] M = _ := hpk
  have hdc : mR n (D + 19) 34 [.int (nI ((T.drop i).headD 0))] M = _ := hdc
  obtain ⟨nu1, nu2⟩ := x_number (n := n) (d := D + 15) (by omega) (by omega) hP
  have nu2 : pN (T.drop i) = none → Thr p bd rw mk M (mR n (D + 19) 35 [.ref p] M) := nu2
  have e33 : mR n (D + 20) 33 [.ref p] M = fP_startsWithDivisor_0 n (D + 19) (mR n (D + 19)) p M := eP_startsWithDivisor n (D + 19) p M
  have n1 : ¬ (1 : Int32) = 0 := by decide
  rw [e33]
  refine ⟨fun h0 => ?_, fun h0 hN => ?_, fun y h0 hN => ?_⟩
  · rw [h0] at hdc
    have hdc : mR n (D + 19) 34 [.int (nI ((T.drop i).headD 0))] M = some (.inl (some (.int 0)), M) := hdc
    simp only [fP_startsWithDivisor_0, hP.1.1, if_true, hpk, rzC_l, rzI_e, hdc, fbb0]
  · rw [h0] at hdc
    have hdc : mR n (D + 19) 34 [.int (nI ((T.drop i).headD 0))] M = some (.inl (some (.int 1)), M) := hdc
    simp only [fP_startsWithDivisor_0, hP.1.1, if_true, hpk, rzC_l, rzI_e, hdc, if_neg n1]
    exact thr_c (nu2 hN)
  · rw [h0] at hdc
    have hdc : mR n (D + 19) 34 [.int (nI ((T.drop i).headD 0))] M = some (.inl (some (.int 1)), M) := hdc
    obtain ⟨M1, i1, s1, s2, s3, s4⟩ := nu1 y hN
    have s1 : mR n (D + 19) 35 [.ref p] M = some (.inl (some (.int (nI y.1))), M1) := s1
    have hpk1 := x_peek (n := n) (d := D + 18) s2
    have hpk1 : mR n (D + 19) 17 [.ref p] M1 = _ := hpk1
    rw [s3] at hpk1
    obtain ⟨p1, p2⟩ := pa_at s2 (i' := i) hP.2.2.2.2.2.2.1.1
    refine ⟨_, ?_, p1, fun k0 k => (s4 k0 0).trans (p2 k0 k) (Nat.le_refl _) (by omega)⟩
    have hh : y.2.headD 0 < 127 := by rw [← s3]; exact hd_lt s2
    have hq := cq (ch := y.2.headD 0) (by omega) 58 (by decide) (x := 58) rfl
    have hcol : coln y.2 = decide (y.2.headD 0 = 58) := by
      cases hts : y.2 with
      | nil => rfl
      | cons c r => rfl
    rw [hcol]
    simp only [fP_startsWithDivisor_0, hP.1.1, if_true, hpk, rzC_l, rzI_e, hdc, if_neg n1, s1, s2.1.1, hpk1, hP.2.1.2.1, fP_startsWithDivisor_36, rzM_e, fbb0, fbb1]
    by_cases c58 : y.2.headD 0 = 58
    · rw [if_pos (hq.mpr c58), decide_eq_true c58]; rfl
    · rw [if_neg (fun q => c58 (hq.mp q)), decide_eq_false c58]; rfl
end PCo
