/-! the parser: a single formula -/
section POn
variable {n W V p sg bd rw : Nat} {T : List Nat}
theorem par_not (hn : 200 ≤ n) {k : Nat} (h0 : C0 n W V p sg bd rw T k) {acc : FvT} {d i mk D : Nat} {b : Bd} {M : Mem} {r : List Nat} (hd : d ≤ 12) (hts : T.drop i = 33 :: r) (hk : 3 * r.length + 1 ≤ k) (hP : PaS p sg bd rw M T i acc.2.length mk b) (hbq : ∀ v q, b v = some q → q < acc.2.length) (hq4 : acc.2.length ≤ 4) (hD : hFo (d + 1) ≤ D) : SpG p sg bd rw mk M T mk b (T.drop i) ((pF k 0 acc (d + 1) b r).bind fun y => some (((y.1.1.1 ++ [(3, 0)], fun n e => !(y.1.1.2.1 n e), none), y.1.2), y.2)) (fun y => y.2.length) (RF n (eFd d) W V b) (mR n (D + 1) 18 [.ref p, .int (nI d)] M) := by
  obtain ⟨D, rfl⟩ : ∃ D', D = D' + 20 := ⟨D - 20, by unfold hFo at hD; omega⟩
  have hlen : (T.drop i).length = r.length + 1 := by rw [hts]; rfl
  have hmk : mk ≤ 120 := hP.2.2.2.2.2.2.1.2.2.1
  obtain ⟨M1, i', f1, f2, f3, f4⟩ := x_next (n := n) (d := D + 18) hP
  have f1 : mR n (D + 20) 19 [.ref p] M = some (.inl (some (.int (nI ((T.drop i).headD 0)))), M1) := f1
  rw [hts] at f1 f3
  have f1 : mR n (D + 20) 19 [.ref p] M = some (.inl (some (.int (nI 33))), M1) := f1
  have f3 : T.drop i' = r := f3
  rw [eP_not]
  by_cases hmk2 : mk < 120
  · obtain ⟨M2, a, g1, g2, g3, g4, g5⟩ := x_make (n := n) (d := D + 18) f2 hmk2 (x := nI 33) (fits_ch (by decide))
    have g1 : mR n (D + 20) 20 [.ref p, .int (nI 33)] M1 = some (.inl (some (.ref a)), M2) := g1
    obtain ⟨u1, u2, u3, u4, u5, u6⟩ := g5
    have hfr2 : FrK p bd rw mk 1 M M2 := (f4 mk 0).trans g3 (Nat.le_refl _) (Nat.le_refl _)
    simp only [fP_not_0, hP.1.1, if_true, f1, rzC_l, rzI_e, f2.1.1, g1, rzP_s, g2.1.1]
    have hA := h0 acc (d + 1) i' (mk + 1) (D + 20) b M2 (by omega) (by rw [f3]; omega) g2 hbq hq4 hD
    rw [f3] at hA
    have hA : SpG p sg bd rw (mk + 1) M2 T (mk + 1) b r (pF k 0 acc (d + 1) b r) (fun y => y.2.length) (RF n (eFd (d + 1)) W V b) (mR n (D + 20) 15 [.ref p, .int (nI d + 1)] M2) := by rw [nI_1]; exact hA
    cases hsub : pF k 0 acc (d + 1) b r with
    | none => exact ⟨fun _ => (thrg_c (hA.1 hsub)).at hfr2 (by omega) (by omega), fun y q => (by cases q)⟩
    | some y =>
      rcases hA.2 y hsub with ⟨M3, a1, i3, mk3, F, t1, t2, t3, t4, t5, t6, t7, t8, t9⟩ | ⟨hb1, hb2⟩
      · have ka : AgZ (fS1 a) M2 M3 := frk_keep g2.2.2.2.2.1 g2.kinds (by omega) (fps_1 g4) t4
        obtain ⟨v1, v2, v3, v4⟩ := ka a rfl
        have g4' : mP M3 rw mk = some a := t4.2.2.2.2.1 mk a g4
        have hna : ¬ F a := fun q => by
          obtain ⟨j, j1, j2, j3⟩ := t6 a q
          have := t2.2.2.2.2.1.2 j mk a (by have := t2.2.2.2.2.2.2.1.2.2.1; omega) (by omega) j3 g4'
          omega
        obtain ⟨w1, w2⟩ := nd_setP (f := 3) t2 (show mk < mk3 by omega) g4' (some a1)
        have haF : ∀ x, F x → x ≠ a := fun x hx q => hna (q ▸ hx)
        have hagF : AgN F a1 M3 (setP M3 a 3 (some a1)) := fun x hx => ⟨rfl, rfl, by rw [mP_setP, fu_row _ _ (haF x hx)], fun _ => by rw [mP_setP, fu_row _ _ (haF x hx)]⟩
        have hka : mK M3 a = 4 := v1.trans u1
        have hsa : mI M3 a 0 = 33 := by rw [v2, u2]; rfl
        simp only [t1, rzC_l, rzP_s, rzD_s, hka, if_true, rzM_e, Option.bind_some]
        refine ⟨fun q => (by cases q), fun y' q => ?_⟩
        cases q
        refine Or.inl ⟨_, a, i3, mk3, fU (fS1 a) F, rfl, w1, t3, (hfr2.trans t4 (by omega) (Nat.le_refl _)).trans (w2 mk 0 (Nat.le_refl _)) (Nat.le_refl _) (by omega), ⟨by omega, by simp only; omega⟩, ?_, Or.inl rfl, ?_, ?_, ?_⟩
        · exact fps_mono (fps_u (fps_wid (fps_1 g4') (Nat.le_refl _) (by omega)) (fps_wid t6 (by omega) (Nat.le_refl _))) (w2 mk 0 (Nat.le_refl _))
        · rw [mP_setP, fu_ne _ _ (fun q => (by cases q.2))]; exact v4.trans u6
        · have hev := f_not (n := n) (W := W) (V := V) (M := setP M3 a 3 (some a1)) (b := b) (H := eFd (d + 1)) (F := F) (a := a) (a1 := a1) (D := y.1.1.2.1) hka hsa (by rw [mP_setP, fu_eq]) (t9.1.fr hagF) hna
          exact hev.mono (by unfold eFd; omega)
        · exact kdr_none (ch := 33) hsa (by decide) (by decide) (by decide)
      · refine ⟨fun _ => (thrg_c hb2).at hfr2 (by omega) (by omega), fun y' q => Or.inr ⟨?_, (thrg_c hb2).at hfr2 (by omega) (by omega)⟩⟩
        cases q
        simp only
        omega
  · have hmt := x_make_t (n := n) (d := D + 18) (by omega) f2 hmk2 (nI 33)
    have hmt : Thr p bd rw mk M1 (mR n (D + 20) 20 [.ref p, .int (nI 33)] M1) := hmt
    have hth : ThrG p bd rw mk (121 - mk) M (fP_not_0 n (D + 20) (mR n (D + 20)) p (nI d) M) := by
      simp only [fP_not_0, hP.1.1, if_true, f1, rzC_l, rzI_e, f2.1.1]
      exact (thr_g (thr_c hmt) (Nat.le_refl _) (Nat.le_refl _)).at (f4 mk 0) (Nat.le_refl _) (by omega)
    refine ⟨fun _ => hth, fun y' q => Or.inr ⟨?_, hth⟩⟩
    obtain ⟨z, e1, e2⟩ := Option.bind_eq_some_iff.mp q
    have := (pF_len k 0 acc (d + 1) b r z e1).1
    cases e2
    simp only
    omega
theorem par_brk (hn : 200 ≤ n) {k : Nat} (h2 : C2 n W V p sg bd rw T k) {acc : FvT} {d i mk D : Nat} {b : Bd} {M : Mem} {r : List Nat} (hd : d ≤ 12) (hts : T.drop i = 40 :: r) (hk : 3 * r.length + 3 ≤ k) (hP : PaS p sg bd rw M T i acc.2.length mk b) (hbq : ∀ v q, b v = some q → q < acc.2.length) (hq4 : acc.2.length ≤ 4) (hD : hFo (d + 1) + 4 ≤ D) : SpG p sg bd rw mk M T mk b (T.drop i) ((pF k 2 acc (d + 1) b r).bind fun y => cx 41 (((y.1.1.1, y.1.1.2.1, none), y.1.2), y.2)) (fun y => y.2.length) (RF n (eFd d) W V b) (mR n (D + 1) 30 [.ref p, .int (nI d)] M) := by
  obtain ⟨D, rfl⟩ : ∃ D', D = D' + 20 := ⟨D - 20, by unfold hFo at hD; omega⟩
  have hlen : (T.drop i).length = r.length + 1 := by rw [hts]; rfl
  have hmk : mk ≤ 120 := hP.2.2.2.2.2.2.1.2.2.1
  obtain ⟨M1, i', f1, f2, f3, f4⟩ := x_next (n := n) (d := D + 18) hP
  have f1 : mR n (D + 20) 19 [.ref p] M = some (.inl (some (.int (nI ((T.drop i).headD 0)))), M1) := f1
  rw [hts] at f1 f3
  have f1 : mR n (D + 20) 19 [.ref p] M = some (.inl (some (.int (nI 40))), M1) := f1
  have f3 : T.drop i' = r := f3
  rw [eP_bracketed]
  by_cases hmk2 : mk < 120
  · obtain ⟨M2, a, g1, g2, g3, g4, g5⟩ := x_make (n := n) (d := D + 18) f2 hmk2 (x := nI 40) (fits_ch (by decide))
    have g1 : mR n (D + 20) 20 [.ref p, .int (nI 40)] M1 = some (.inl (some (.ref a)), M2) := g1
    obtain ⟨u1, u2, u3, u4, u5, u6⟩ := g5
    have hfr2 : FrK p bd rw mk 1 M M2 := (f4 mk 0).trans g3 (Nat.le_refl _) (Nat.le_refl _)
    simp only [fP_bracketed_0, hP.1.1, if_true, f1, rzC_l, rzI_e, f2.1.1, g1, rzP_s, g2.1.1]
    have hA := h2 acc (d + 1) i' (mk + 1) (D + 20) b M2 (by omega) (by rw [f3]; omega) g2 hbq hq4 hD
    rw [f3] at hA
    have hA : SpG p sg bd rw (mk + 1) M2 T (mk + 1) b r (pF k 2 acc (d + 1) b r) (fun y => y.2.length) (RF n (eFd (d + 1) + 4) W V b) (mR n (D + 20) 13 [.ref p, .int 124, .int (nI d + 1)] M2) := by rw [nI_1]; exact hA
    cases hsub : pF k 2 acc (d + 1) b r with
    | none => exact ⟨fun _ => (thrg_c (hA.1 hsub)).at hfr2 (by omega) (by omega), fun y q => (by cases q)⟩
    | some y =>
      rw [Option.bind_some]
      rcases hA.2 y hsub with ⟨M3, a1, i3, mk3, F, t1, t2, t3, t4, t5, t6, t7, t8, t9⟩ | ⟨hb1, hb2⟩
      · have hm3 : mk3 ≤ 120 := t2.2.2.2.2.2.2.1.2.2.1
        have ka : AgZ (fS1 a) M2 M3 := frk_keep g2.2.2.2.2.1 g2.kinds (by omega) (fps_1 g4) t4
        obtain ⟨v1, v2, v3, v4⟩ := ka a rfl
        have g4' : mP M3 rw mk = some a := t4.2.2.2.2.1 mk a g4
        have hna : ¬ F a := fun q => by
          obtain ⟨j, j1, j2, j3⟩ := t6 a q
          have := t2.2.2.2.2.1.2 j mk a (by omega) (by omega) j3 g4'
          omega
        obtain ⟨w1, w2⟩ := nd_setP (f := 3) t2 (show mk < mk3 by omega) g4' (some a1)
        have haF : ∀ x, F x → x ≠ a := fun x hx q => hna (q ▸ hx)
        have hagF : AgN F a1 M3 (setP M3 a 3 (some a1)) := fun x hx => ⟨rfl, rfl, by rw [mP_setP, fu_row _ _ (haF x hx)], fun _ => by rw [mP_setP, fu_row _ _ (haF x hx)]⟩
        have hka : mK M3 a = 4 := v1.trans u1
        have hsa : mI M3 a 0 = 40 := by rw [v2, u2]; rfl
        have hp4 : mK (setP M3 a 3 (some a1)) p = 2 := w1.1.1
        have hfr4 : FrK p bd rw mk (mk3 - mk) M (setP M3 a 3 (some a1)) := (hfr2.trans t4 (by omega) (Nat.le_refl _)).trans (w2 mk 0 (Nat.le_refl _)) (Nat.le_refl _) (by omega)
        simp only [t1, rzC_l, rzP_s, rzD_s, hka, if_true, rzM_e, hp4]
        obtain ⟨M5, i5, q1, q2, q3, q4⟩ := x_take (n := n) (d := D + 17) w1 (c := 41) (by decide) (x := 41) rfl
        have q1 : mR n (D + 20) 31 [.ref p, .int 41] (setP M3 a 3 (some a1)) = _ := q1
        rw [t3] at q1 q3
        simp only [q1, rzC_l, rzI_e]
        have hall : FpS rw (setP M3 a 3 (some a1)) mk mk3 (fU (fS1 a) F) := fps_mono (fps_u (fps_wid (fps_1 g4') (Nat.le_refl _) (by omega)) (fps_wid t6 (by omega) (Nat.le_refl _))) (w2 mk 0 (Nat.le_refl _))
        by_cases h41 : y.2.headD 0 = 41
        · rw [if_pos h41] at q3
          have hcx : cx 41 ((((y.1.1.1, y.1.1.2.1, none), y.1.2) : FvT), y.2) = some (((y.1.1.1, y.1.1.2.1, none), y.1.2), y.2.tail) := by
            unfold cx
            cases hy2 : y.2 with
            | nil => rw [hy2] at h41; exact absurd h41 (by decide)
            | cons t r2 => rw [hy2] at h41; have h41 : t = 41 := h41; simp [h41]
          have htl : y.2.tail.length + 1 = y.2.length := by
            cases hy2 : y.2 with
            | nil => rw [hy2] at h41; exact absurd h41 (by decide)
            | cons t r2 => rfl
          rw [decide_eq_true h41, show b2i true = 1 from rfl, x_insist1, rzC_l, rzV_e, hcx]
          refine ⟨fun q => (by cases q), fun y' q => ?_⟩
          cases q
          have k45 : AgZ (fU (fS1 a) F) (setP M3 a 3 (some a1)) M5 := frk_keep w1.2.2.2.2.1 w1.kinds hm3 hall (q4 mk3 0)
          obtain ⟨x1, x2, x3, x4⟩ := k45 a (Or.inl rfl)
          have hsa5 : mI M5 a 0 = 40 := by rw [x2]; exact hsa
          refine Or.inl ⟨M5, a, i5, mk3, fU (fS1 a) F, rfl, q2, q3, hfr4.trans (q4 mk 0) (Nat.le_refl _) (by omega), ⟨by omega, by simp only; omega⟩, fps_mono hall (q4 mk 0), Or.inl rfl, ?_, ?_, ?_⟩
          · rw [x4, mP_setP, fu_ne _ _ (fun q => (by cases q.2))]; exact v4.trans u6
          · have hev := f_par (n := n) (W := W) (V := V) (M := M5) (b := b) (H := eFd (d + 1) + 4) (F := F) (a := a) (a1 := a1) (D := y.1.1.2.1) (x1.trans hka) hsa5 (by rw [x3, mP_setP, fu_eq]) ((t9.1.fr hagF).fr (fun c hc => ⟨(k45 c (Or.inr hc)).1, (k45 c (Or.inr hc)).2.1, (k45 c (Or.inr hc)).2.2.1, fun _ => (k45 c (Or.inr hc)).2.2.2⟩)) hna
            exact hev.mono (by unfold eFd; omega)
          · exact kdr_none (ch := 40) hsa5 (by decide) (by decide) (by decide)
        · have hcx : cx 41 ((((y.1.1.1, y.1.1.2.1, none), y.1.2) : FvT), y.2) = none := by
            unfold cx
            cases hy2 : y.2 with
            | nil => rfl
            | cons t r2 => rw [hy2] at h41; have h41 : ¬ t = 41 := h41; simp [h41]
          rw [decide_eq_false h41, show b2i false = 0 from rfl, hcx]
          refine ⟨fun _ => ?_, fun y' q => (by cases q)⟩
          have hth := x_insist0 (n := n) (d := D + 19) (by omega) q2
          exact (thr_g (thr_c hth) (Nat.le_refl _) (Nat.le_refl _)).at (hfr4.trans (q4 mk 0) (Nat.le_refl _) (Nat.le_refl _)) (by omega) (by omega)
      · refine ⟨fun _ => (thrg_c hb2).at hfr2 (by omega) (by omega), fun y' q => Or.inr ⟨?_, (thrg_c hb2).at hfr2 (by omega) (by omega)⟩⟩
        have := cx_len q
        simp only at this
        omega
  · have hmt := x_make_t (n := n) (d := D + 18) (by omega) f2 hmk2 (nI 40)
    have hmt : Thr p bd rw mk M1 (mR n (D + 20) 20 [.ref p, .int (nI 40)] M1) := hmt
    have hth : ThrG p bd rw mk (121 - mk) M (fP_bracketed_0 n (D + 20) (mR n (D + 20)) p (nI d) M) := by
      simp only [fP_bracketed_0, hP.1.1, if_true, f1, rzC_l, rzI_e, f2.1.1]
      exact (thr_g (thr_c hmt) (Nat.le_refl _) (Nat.le_refl _)).at (f4 mk 0) (Nat.le_refl _) (by omega)
    refine ⟨fun _ => hth, fun y' q => Or.inr ⟨?_, hth⟩⟩
    obtain ⟨z, e1, e2⟩ := Option.bind_eq_some_iff.mp q
    have l1 := (pF_len k 2 acc (d + 1) b r z e1).1
    have l2 := cx_len e2
    simp only at l2
    omega
/-- A and E -/
theorem par_qnt (hn : 200 ≤ n) {k : Nat} (h0 : C0 n W V p sg bd rw T k) {acc : FvT} {d i mk D c : Nat} {b : Bd} {M : Mem} {r : List Nat} (hd : d ≤ 12) (hc : c = 65 ∨ c = 69) (hts : T.drop i = c :: r) (hk : 3 * r.length + 1 ≤ k) (hP : PaS p sg bd rw M T i acc.2.length mk b) (hbq : ∀ v q, b v = some q → q < acc.2.length) (hq4 : acc.2.length ≤ 4) (hD : hFo (d + 1) ≤ D) {g : Option (FvT × List Nat)} (hg : g = if acc.2.length < 4 then
              match r with
              | [] => none
              | v :: r2 => (varO v).bind fun i => (pF k 0 (acc.1, acc.2 ++ [(decide (c = 65), decide (3 ≤ i))]) (d + 1) (fun j => if j = i then some acc.2.length else b j) r2).bind fun y =>
                  some ((((12, acc.2.length) :: y.1.1.1 ++ [(5, acc.2.length)], fun n e => hqnt (decide (c = 65)) (decide (3 ≤ i)) n (fun z => y.1.1.2.1 n (upE e acc.2.length z)), some (decide (c = 65), decide (3 ≤ i), i, acc.2.length, y.1.1.2.1)), y.1.2), y.2)
            else none) : SpG p sg bd rw mk M T mk b (T.drop i) g (fun y => y.2.length) (RF n (eFd d) W V b) (mR n (D + 1) 23 [.ref p, .int (nI d)] M) := by
  obtain ⟨D, rfl⟩ : ∃ D', D = D' + 20 := ⟨D - 20, by unfold hFo at hD; omega⟩
  have hlen : (T.drop i).length = r.length + 1 := by rw [hts]; rfl
  have hmk : mk ≤ 120 := hP.2.2.2.2.2.2.1.2.2.1
  obtain ⟨M1, i', f1, f2, f3, f4⟩ := x_next (n := n) (d := D + 18) hP
  have f1 : mR n (D + 20) 19 [.ref p] M = some (.inl (some (.int (nI ((T.drop i).headD 0)))), M1) := f1
  rw [hts] at f1 f3
  have f1 : mR n (D + 20) 19 [.ref p] M = some (.inl (some (.int (nI c))), M1) := f1
  have f3 : T.drop i' = r := f3
  have hgl : ∀ y, g = some y → y.2.length + 2 ≤ r.length + 1 := fun y q => by
    rw [hg] at q
    split at q
    · split at q
      · cases q
      · obtain ⟨iv, e1, e2⟩ := Option.bind_eq_some_iff.mp q
        obtain ⟨z, e3, e4⟩ := Option.bind_eq_some_iff.mp e2
        have := (pF_len k 0 _ _ _ _ z e3).1
        cases e4
        simp only [List.length_cons]
        omega
    · cases q
  have e23 : mR n (D + 20 + 1) 23 [.ref p, .int (nI d)] M = fP_quantified_0 n (D + 20) (mR n (D + 20)) p (nI d) M := eP_quantified n (D + 20) p (nI d) M
  rw [e23]
  by_cases hmk2 : mk < 120
  · obtain ⟨M2, wh, g1, g2, g3, g4, g5⟩ := x_make (n := n) (d := D + 18) f2 hmk2 (x := nI c) (fits_ch (by omega))
    have g1 : mR n (D + 20) 20 [.ref p, .int (nI c)] M1 = some (.inl (some (.ref wh)), M2) := g1
    obtain ⟨u1, u2, u3, u4, u5, u6⟩ := g5
    have hfr2 : FrK p bd rw mk 1 M M2 := (f4 mk 0).trans g3 (Nat.le_refl _) (Nat.le_refl _)
    obtain ⟨q1, q2⟩ := pa_qn g2 (q' := acc.2.length + 1) (by omega)
    have hfr3 : FrK p bd rw mk 1 M (setI M2 p 3 (nI (acc.2.length + 1))) := hfr2.trans (q2 mk 0) (Nat.le_refl _) (Nat.le_refl _)
    have h3v : mI M2 p 3 = nI acc.2.length := g2.2.1.2.2.1
    have h3w : mI (setI M2 p 3 (nI (acc.2.length + 1))) p 3 = nI (acc.2.length + 1) := by rw [mI_setI, fu_eq]
    have hl4 : ((4 : Int32) < nI (acc.2.length + 1)) ↔ 4 < acc.2.length + 1 := nI_ltI (a := 4) (by decide) (by omega)
    simp only [fP_quantified_0, hP.1.1, if_true, f1, rzC_l, rzI_e, f2.1.1, g1, rzP_s, g2.1.1, h3v, nI_1, rzM_e, h3w]
    by_cases hq : acc.2.length < 4
    · rw [if_neg (fun q => by have := hl4.mp q; omega)]
      rw [if_pos hq] at hg
      obtain ⟨M3, hM3⟩ : ∃ M3, M3 = setI M2 p 3 (nI (acc.2.length + 1)) := ⟨_, rfl⟩
      rw [← hM3] at q1 q2 hfr3 ⊢
      have i3 : mR n (D + 20) 16 [.int 1] M3 = some (.inl none, M3) := x_insist1 M3
      obtain ⟨M4, i4, n1, n2, n3, n4⟩ := x_next (n := n) (d := D + 18) q1
      have n1 : mR n (D + 20) 19 [.ref p] M3 = some (.inl (some (.int (nI ((T.drop i').headD 0)))), M4) := n1
      rw [f3] at n1 n3
      have hv127 : r.headD 0 < 127 := by rw [← f3]; exact hd_lt q1
      have hC4 : mC M4 = mC M3 := (n4 mk 0).2.2.1.1
      have hix := x_indexOf (n := n) (d := D + 15) (by omega) hv127 M4
      have hix : mR n (D + 20) 24 [.ref (mC M3 1), .int (nI (r.headD 0))] M4 = some (.inl (some (.int (oI (varO (r.headD 0))))), M4) := by rw [← hC4]; exact hix
      have hfr4 : FrK p bd rw mk 1 M M4 := hfr3.trans (n4 mk 0) (Nat.le_refl _) (Nat.le_refl _)
      obtain ⟨k1, -, -, -, k5, k6, k7, -⟩ := n2.1
      have hC4' : mC M3 1 = mC M4 1 := by rw [hC4]
      simp only [fP_quantified_32, i3, rzC_l, rzV_e, q1.1.1, if_true, n1, rzI_e, if_pos hC4', hix]
      cases hvo : varO (r.headD 0) with
      | none =>
        have hgn : g = none := by
          rw [hg]
          cases r with
          | nil => rfl
          | cons v r2 => have hvo : varO v = none := hvo; simp only [hvo]; rfl
        have hneg : oI none < 0 := by decide
        rw [if_pos hneg, hgn]
        refine ⟨fun _ => ?_, fun y q => (by cases q)⟩
        simp only [fP_quantified_62, fP_quantified_63]
        exact (thr_g (thr_c (x_insist0 (n := n) (d := D + 19) (by omega) n2)) (Nat.le_refl _) (Nat.le_refl _)).at hfr4 (by omega) (by omega)
      | some iv =>
        have hv6 := varO_lt hvo
        have hr0 : r.headD 0 ≠ 0 := fun q => by rw [q] at hvo; cases hvo
        have hrc : r = r.headD 0 :: r.tail := hd_cons hr0 rfl
        have hrl := congrArg List.length hrc
        simp only [List.length_cons] at hrl
        have hnn : ¬ oI (some iv) < 0 := nI_pos (by omega)
        have hn6 : ¬ nI 6 ≤ oI (some iv) := nI_ge hv6 (by decide)
        rw [if_neg hnn]
        simp only [k1, if_true, k5, rzD_s, k6, k7, if_neg hn6, fP_quantified_63]
        have i4' : mR n (D + 20) 16 [.int 1] M4 = some (.inl none, M4) := x_insist1 M4
        have kw24 : AgZ (fS1 wh) M2 M4 := frk_keep g2.2.2.2.2.1 g2.kinds (by omega) (fps_1 g4) ((q2 (mk + 1) 0).trans (n4 (mk + 1) 0) (Nat.le_refl _) (Nat.le_refl _))
        obtain ⟨x1, x2, x3, x4⟩ := kw24 wh rfl
        have hkw4 : mK M4 wh = 4 := x1.trans u1
        have g4m4 : mP M4 rw mk = some wh := (n4 mk 0).2.2.2.2.1 mk wh ((q2 mk 0).2.2.2.2.1 mk wh g4)
        obtain ⟨s1, s2⟩ := nd_setI (f := 2) n2 (show mk < mk + 1 by omega) g4m4 (oI (some iv))
        obtain ⟨M5, hM5⟩ : ∃ M5, M5 = setI M4 wh 2 (oI (some iv)) := ⟨_, rfl⟩
        rw [← hM5] at s1 s2
        have hin : inA (oI (some iv)) 6 := inA_nI hv6 (by decide)
        have hcl : (oI (some iv)).toNatClampNeg = iv := nI_clamp (by omega)
        obtain ⟨j1, -, -, -, j5, j6, j7, -⟩ := s1.1
        have hold : mI M5 bd iv = b2i (b iv).isSome := s1.2.2.2.1 iv hv6
        obtain ⟨b', hb'⟩ : ∃ b' : Bd, b' = fun j => if j = iv then some acc.2.length else b j := ⟨_, rfl⟩
        obtain ⟨t1, t2⟩ := pa_bd s1 hv6 (x := 1) (b' := b') (by rw [hb']; simp [b2i]) (fun v' hv' => by rw [hb']; simp [hv'])
        obtain ⟨M6, hM6⟩ : ∃ M6, M6 = setI M5 bd iv 1 := ⟨_, rfl⟩
        rw [← hM6] at t1 t2
        have hfr6 : FrK p bd rw mk 1 M M6 := (hfr4.trans (s2 mk 0 (Nat.le_refl _)) (Nat.le_refl _) (Nat.le_refl _)).trans (t2 mk 0) (Nat.le_refl _) (Nat.le_refl _)
        simp only [i4', rzC_l, rzV_e, rzD_s, hkw4, if_true, rzM_e]
        rw [← hM5]
        simp only [j1, if_true, j5, rzD_s, j6, j7, if_pos hin, fbb1, rzM_e, hcl]
        rw [← hM6]
        have hg2 : g = (pF k 0 (acc.1, acc.2 ++ [(decide (c = 65), decide (3 ≤ iv))]) (d + 1) b' r.tail).bind fun y => some ((((12, acc.2.length) :: y.1.1.1 ++ [(5, acc.2.length)], fun n e => hqnt (decide (c = 65)) (decide (3 ≤ iv)) n (fun z => y.1.1.2.1 n (upE e acc.2.length z)), some (decide (c = 65), decide (3 ≤ iv), iv, acc.2.length, y.1.1.2.1)), y.1.2), y.2) := by
          rw [hg, hb']
          cases r with
          | nil => exact absurd rfl hr0
          | cons v r2 => have hvo : varO v = some iv := hvo; simp only [hvo]; rfl
        have hql : (acc.2 ++ [(decide (c = 65), decide (3 ≤ iv))]).length = acc.2.length + 1 := by simp
        have t1' : PaS p sg bd rw M6 T i4 (acc.2 ++ [(decide (c = 65), decide (3 ≤ iv))]).length (mk + 1) b' := by rw [hql]; exact t1
        have hA := h0 (acc.1, acc.2 ++ [(decide (c = 65), decide (3 ≤ iv))]) (d + 1) i4 (mk + 1) (D + 20) b' M6 (by omega) (by rw [n3]; omega) t1' (fun v q hv => by
          rw [hql]
          rw [hb'] at hv
          simp only at hv
          split at hv
          · cases hv; omega
          · have := hbq v q hv; omega) (by rw [hql]; omega) hD
        rw [n3] at hA
        have hA : SpG p sg bd rw (mk + 1) M6 T (mk + 1) b' r.tail (pF k 0 (acc.1, acc.2 ++ [(decide (c = 65), decide (3 ≤ iv))]) (d + 1) b' r.tail) (fun y => y.2.length) (RF n (eFd (d + 1)) W V b') (mR n (D + 20) 15 [.ref p, .int (nI d + 1)] M6) := by rw [nI_1]; exact hA
        rw [hg2]
        cases hsub : pF k 0 (acc.1, acc.2 ++ [(decide (c = 65), decide (3 ≤ iv))]) (d + 1) b' r.tail with
        | none => exact ⟨fun _ => (thrg_c (hA.1 hsub)).at hfr6 (by omega) (by omega), fun y q => (by cases q)⟩
        | some y =>
          rcases hA.2 y hsub with ⟨M7, a1, i7, mk7, F, v1, v2, v3, v4, v5, v6, v7, v8, v9⟩ | ⟨hb1, hb2⟩
          · have hm7 : mk7 ≤ 120 := v2.2.2.2.2.2.2.1.2.2.1
            have g4m6 : mP M6 rw mk = some wh := by
              have := (s2 mk 0 (Nat.le_refl _)).2.2.2.2.1 mk wh g4m4
              exact (t2 mk 0).2.2.2.2.1 mk wh this
            have g4m5 : mP M5 rw mk = some wh := (s2 mk 0 (Nat.le_refl _)).2.2.2.2.1 mk wh g4m4
            have g4m7 : mP M7 rw mk = some wh := v4.2.2.2.2.1 mk wh g4m6
            have kw57 : AgZ (fS1 wh) M5 M7 := frk_keep s1.2.2.2.2.1 s1.kinds (by omega) (fps_1 g4m5) ((t2 (mk + 1) 0).trans v4 (Nat.le_refl _) (Nat.le_refl _))
            obtain ⟨z1, z2, z3, z4⟩ := kw57 wh rfl
            have hkw7 : mK M7 wh = 4 := z1.trans (by rw [hM5]; exact hkw4)
            have hna : ¬ F wh := fun q => by
              obtain ⟨j, e1, e2, e3⟩ := v6 wh q
              have := v2.2.2.2.2.1.2 j mk wh (by omega) (by omega) e3 g4m7
              omega
            obtain ⟨w1, w2⟩ := nd_setP (f := 3) v2 (show mk < mk7 by omega) g4m7 (some a1)
            obtain ⟨M8, hM8⟩ : ∃ M8, M8 = setP M7 wh 3 (some a1) := ⟨_, rfl⟩
            rw [← hM8] at w1 w2
            obtain ⟨y1, y2⟩ := pa_bd w1 hv6 (x := mI M5 bd iv) (b' := b) hold (fun v' hv' => by rw [hb']; simp [hv'])
            obtain ⟨M9, hM9⟩ : ∃ M9, M9 = setI M8 bd iv (mI M5 bd iv) := ⟨_, rfl⟩
            rw [← hM9] at y1 y2
            have hfo : fits .boolean (.int (mI M5 bd iv)) = true := by rw [hold]; exact fb_b _
            obtain ⟨l1, -, -, -, l5, l6, l7, -⟩ := w1.1
            simp only [v1, rzC_l, rzP_s, rzD_s, hkw7, if_true, rzM_e]
            rw [← hM8]
            simp only [l1, if_true, l5, rzD_s, l6, l7, if_pos hin, hfo, rzM_e, hcl]
            rw [← hM9, Option.bind_some]
            refine ⟨fun q => (by cases q), fun y' q => ?_⟩
            cases q
            have hFx : ∀ x, F x → x ≠ wh := fun x hx q => hna (q ▸ hx)
            have v6' : FpS rw M8 (mk + 1) mk7 F := fps_mono v6 (w2 mk 0 (Nat.le_refl _))
            have g4m8 : mP M8 rw mk = some wh := (w2 mk 0 (Nat.le_refl _)).2.2.2.2.1 mk wh g4m7
            have hall : FpS rw M8 mk mk7 (fU (fS1 wh) F) := fps_u (fps_wid (fps_1 g4m8) (Nat.le_refl _) (by omega)) (fps_wid v6' (by omega) (Nat.le_refl _))
            have k89 : AgZ (fU (fS1 wh) F) M8 M9 := frk_keep w1.2.2.2.2.1 w1.kinds hm7 hall (y2 mk7 0)
            have agF : AgN F a1 M7 M9 := fun x hx => by
              obtain ⟨e1, e2, e3, e4⟩ := k89 x (Or.inr hx)
              have hxw := hFx x hx
              exact ⟨e1.trans (by rw [hM8]; rfl), e2.trans (by rw [hM8]; rfl), e3.trans (by rw [hM8, mP_setP, fu_row _ _ hxw]), fun _ => e4.trans (by rw [hM8, mP_setP, fu_row _ _ hxw])⟩
            obtain ⟨e1, e2, e3, e4⟩ := k89 wh (Or.inl rfl)
            have hI87 : mI M8 = mI M7 := by rw [hM8]; rfl
            have hk9 : mK M9 wh = 4 := e1.trans (by rw [hM8]; exact hkw7)
            have hs9 : mI M9 wh 0 = nI c := by
              rw [e2, hI87, z2, hM5, mI_setI, fu_ne _ _ (fun q => (by cases q.2)), x2]; exact u2
            have hv9 : mI M9 wh 2 = nI iv := by
              rw [e2, hI87, z2, hM5, mI_setI, fu_eq]; rfl
            have hf9 : mP M9 wh 3 = some a1 := e3.trans (by rw [hM8, mP_setP, fu_eq])
            have hn9 : mP M9 wh 4 = none := e4.trans (by
              rw [hM8, mP_setP, fu_ne _ _ (fun q => (by cases q.2)), z4, hM5]
              exact x4.trans u6)
            have hs9' : mI M9 wh 0 = (if decide (c = 65) then 65 else 69) := by
              rw [hs9]
              rcases hc with rfl | rfl <;> rfl
            have hevF : EvF n (eFd (d + 1)) W V F M9 b' a1 y.1.1.2.1 := v9.1.fr agF
            rw [hb'] at hevF
            refine Or.inl ⟨M9, wh, i7, mk7, fU (fS1 wh) F, rfl, y1, v3, ((hfr6.trans v4 (by omega) (Nat.le_refl _)).trans (w2 mk 0 (Nat.le_refl _)) (Nat.le_refl _) (Nat.le_refl _)).trans (y2 mk 0) (Nat.le_refl _) (by omega), ⟨by omega, by simp only; omega⟩, fps_mono hall (y2 mk 0), Or.inl rfl, hn9, ?_, ?_⟩
            · have hev := f_qnt (n := n) (W := W) (V := V) (b := b) (decide (c = 65)) hk9 hs9' hv9 hv6 hf9 hevF hna hbq (by omega)
              exact hev.mono (by unfold eFd; omega)
            · refine ⟨fun q => (by cases q), fun isA isSet i' q B hkd => ?_⟩
              cases hkd
              exact ⟨hs9', hv9, hv6, rfl, a1, F, hf9, fun c hc => Or.inr hc, hna, hevF.mono (by unfold eFd; omega)⟩
          · refine ⟨fun _ => (thrg_c hb2).at hfr6 (by omega) (by omega), fun y' q => Or.inr ⟨?_, (thrg_c hb2).at hfr6 (by omega) (by omega)⟩⟩
            cases q
            simp only
            omega
    · rw [if_pos (hl4.mpr (by omega))]
      have hgn : g = none := by rw [hg, if_neg hq]
      rw [hgn]
      refine ⟨fun _ => ?_, fun y q => (by cases q)⟩
      simp only [fP_quantified_32]
      exact (thr_g (thr_c (x_insist0 (n := n) (d := D + 19) (by omega) q1)) (Nat.le_refl _) (Nat.le_refl _)).at hfr3 (by omega) (by omega)
  · have hmt := x_make_t (n := n) (d := D + 18) (by omega) f2 hmk2 (nI c)
    have hmt : Thr p bd rw mk M1 (mR n (D + 20) 20 [.ref p, .int (nI c)] M1) := hmt
    have hth : ThrG p bd rw mk (121 - mk) M (fP_quantified_0 n (D + 20) (mR n (D + 20)) p (nI d) M) := by
      simp only [fP_quantified_0, hP.1.1, if_true, f1, rzC_l, rzI_e, f2.1.1]
      exact (thr_g (thr_c hmt) (Nat.le_refl _) (Nat.le_refl _)).at (f4 mk 0) (Nat.le_refl _) (by omega)
    refine ⟨fun _ => hth, fun y' q => Or.inr ⟨?_, hth⟩⟩
    have := hgl y' q
    omega
end POn
