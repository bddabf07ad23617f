/-! the parser: parts and sums, put into one row under a piece -/
def SumS (n H W V p sg bd rw : Nat) (M : Mem) (T : List Nat) (i qn mk : Nat) (b : Bd) (base jw wh L : Nat) (F : Nat → Prop) (D : Dn) : Prop :=
  PaS p sg bd rw M T i qn mk b ∧ (mP M rw jw = some wh ∧ base ≤ jw ∧ jw < mk) ∧ mK M wh = 4 ∧ FpS rw M base mk F ∧ ¬ F wh ∧ ChZ n H W V F M b (mP M wh 3) L D ∧ L ≤ mk
def OkV (n H W V p sg bd rw : Nat) (M : Mem) (T : List Nat) (qn mk : Nat) (b : Bd) (base jw wh : Nat) (ts rest : List Nat) (D' : Dn) (res : Rz) : Prop := ∃ M' i' mk' F' L', res = some (.inl none, M') ∧ SumS n H W V p sg bd rw M' T i' qn mk' b base jw wh L' F' D' ∧ T.drop i' = rest ∧ FrK p bd rw base (mk' - mk) M M' ∧ (mk ≤ mk' ∧ mk' + rest.length ≤ mk + ts.length) ∧ mI M' wh = mI M wh ∧ mP M' wh 4 = mP M wh 4
def SpV (n H W V p sg bd rw : Nat) (M : Mem) (T : List Nat) (qn mk : Nat) (b : Bd) (base jw wh : Nat) (ts : List Nat) (g : Option ((Od × Dn) × List Nat)) (Rd : Od × Dn → Dn) (res : Rz) : Prop := (g = none → ThrG p bd rw base (121 - mk) M res) ∧ ∀ y, g = some y → OkV n H W V p sg bd rw M T qn mk b base jw wh ts y.2 (Rd y.1) res ∨ Big p bd rw base mk M ts y.2 res
section PCm
variable {n H W V p sg bd rw : Nat} {M : Mem} {T : List Nat} {i qn mk : Nat} {b : Bd} {base jw wh L : Nat} {F : Nat → Prop} {D0 : Dn}
theorem SpV.tr {mk2 k : Nat} {M3 : Mem} {ts ts2 : List Nat} {g : Option ((Od × Dn) × List Nat)} {Rd : Od × Dn → Dn} {res : Rz} (h : SpV n H W V p sg bd rw M3 T qn mk2 b base jw wh ts2 g Rd res) (hf : FrK p bd rw base k M M3) (hmk : mk ≤ mk2) (hk : k ≤ mk2 - mk) (hm2 : mk2 ≤ 120) (hlen : mk2 + ts2.length ≤ mk + ts.length) (hi : mI M3 wh = mI M wh) (hp : mP M3 wh 4 = mP M wh 4) : SpV n H W V p sg bd rw M T qn mk b base jw wh ts g Rd res := by
  refine ⟨fun q => (h.1 q).at hf (Nat.le_refl _) (by omega), fun y q => ?_⟩
  rcases h.2 y q with ⟨M', i', mk', F', L', e1, e2, e3, e4, e5, e6, e7⟩ | ⟨h1, h2⟩
  · exact Or.inl ⟨M', i', mk', F', L', e1, e2, e3, hf.trans e4 (Nat.le_refl _) (by omega), ⟨by omega, by omega⟩, e6.trans hi, e7.trans hp⟩
  · exact Or.inr ⟨by omega, h2.at hf (Nat.le_refl _) (by omega)⟩
/-- a part in front of the others -/
theorem part_add {M2 : Mem} {i2 mk2 k a : Nat} {G : Nat → Prop} {A : Dn} {x4 : Int32} (h : SumS n H W V p sg bd rw M T i qn mk b base jw wh L F D0) (hfr : FrK p bd rw mk k M M2) (h2 : PaS p sg bd rw M2 T i2 qn mk2 b) (hmk : mk < mk2) (hG : FpS rw M2 mk mk2 G) (hA : EvA n H W V G M2 b a A) (D : Nat) (C : Cx) : ∃ M3 F', fP_addPart_59 n D C (some wh) x4 (some a) M2 = some (.inl none, M3) ∧ SumS n H W V p sg bd rw M3 T i2 qn mk2 b base jw wh (L + 1) F' (fun sz e => D0 sz e + x4 * A sz e) ∧ FrK p bd rw base k M M3 ∧ mI M3 wh = mI M wh ∧ mP M3 wh 4 = mP M wh 4 := by
  obtain ⟨hP, ⟨w1, w2, w3⟩, hwk, hF, hFw, hCh, hLm⟩ := h
  have hr := hP.2.2.2.2.1
  have hr2 := h2.2.2.2.2.1
  have hm : mk ≤ 120 := hP.2.2.2.2.2.2.1.2.2.1
  have hm2 : mk2 ≤ 120 := h2.2.2.2.2.2.2.1.2.2.1
  have kF : AgZ F M M2 := frk_keep hr hP.kinds hm hF hfr
  have kw : AgZ (fS1 wh) M M2 := frk_keep hr hP.kinds hm (fps_wid (fps_1 w1) (Nat.zero_le _) (by omega)) hfr
  obtain ⟨x1, x2, x3, x4'⟩ := kw wh rfl
  have w1' : mP M2 rw jw = some wh := hfr.2.2.2.2.1 jw wh w1
  obtain ⟨j, j1, j2, j3⟩ := hG a hA.1
  have hF2 : FpS rw M2 base mk F := fps_mono hF hfr
  have hdis : ∀ x, F x → ¬ G x := fps_dis hr2 hF2 hG (Or.inl (Nat.le_refl _)) hm hm2
  have hGw : ¬ G wh := fun q => by
    obtain ⟨j', e1, e2, e3⟩ := hG wh q
    have := hr2.2 j' jw wh (by omega) (by omega) e3 w1'
    omega
  have haw : a ≠ wh := fun q => hGw (q ▸ hA.1)
  have hka : mK M2 a = 4 := hA.2.1 a hA.1
  have hkw : mK M2 wh = 4 := x1.trans hwk
  have hra : rw ≠ a := fun q => by have := h2.kinds.2.2; rw [q, hka] at this; exact absurd this (by decide)
  have hrw : rw ≠ wh := fun q => by have := h2.kinds.2.2; rw [q, hkw] at this; exact absurd this (by decide)
  obtain ⟨p1, p2⟩ := nd_setI (f := 1) h2 j2 j3 x4
  obtain ⟨q1, q2⟩ := nd_setP (f := 4) p1 j2 (show mP (setI M2 a 1 x4) rw j = some a from j3) (mP M2 wh 3)
  have w1'' : mP (setP (setI M2 a 1 x4) a 4 (mP M2 wh 3)) rw jw = some wh := by rw [mP_setP, fu_row _ _ hra]; exact w1'
  obtain ⟨r1, r2⟩ := nd_setP (f := 3) q1 (show jw < mk2 by omega) w1'' (some a)
  obtain ⟨M3, hM3⟩ : ∃ M3, M3 = setP (setP (setI M2 a 1 x4) a 4 (mP M2 wh 3)) wh 3 (some a) := ⟨_, rfl⟩
  rw [← hM3] at r1 r2
  have hfr3 : FrK p bd rw base k M M3 := ((hfr.mono (show base ≤ mk by omega) (Nat.le_refl _)).trans (p2 base 0 (by omega)) (Nat.le_refl _) (Nat.le_refl _)).trans ((q2 base 0 (by omega)).trans (r2 base 0 (by omega)) (Nat.le_refl _) (Nat.le_refl _)) (Nat.le_refl _) (Nat.le_refl _)
  have hfr23 : FrK p bd rw base 0 M2 M3 := (p2 base 0 (by omega)).trans ((q2 base 0 (by omega)).trans (r2 base 0 (by omega)) (Nat.le_refl _) (Nat.le_refl _)) (Nat.le_refl _) (Nat.le_refl _)
  have eK : mK M3 = mK M2 := by rw [hM3]; rfl
  have eI : ∀ c, c ≠ a → mI M3 c = mI M2 c := fun c hc => by rw [hM3]; show fu (mI M2) a 1 x4 c = _; exact fu_row _ _ hc
  have eIa : ∀ f, f ≠ 1 → mI M3 a f = mI M2 a f := fun f hf => by rw [hM3]; show fu (mI M2) a 1 x4 a f = _; exact fu_ne _ _ (fun q => hf q.2)
  have eIa1 : mI M3 a 1 = x4 := by rw [hM3]; exact fu_eq _ _ _ _
  have eP : ∀ c, c ≠ a → c ≠ wh → mP M3 c = mP M2 c := fun c h1 h2 => by rw [hM3, mP_setP, fu_row _ _ h2, mP_setP, fu_row _ _ h1]; rfl
  have ePa3 : mP M3 a 3 = mP M2 a 3 := by rw [hM3, mP_setP, fu_row _ _ haw, mP_setP, fu_ne _ _ (fun q => (by cases q.2))]; rfl
  have ePa4 : mP M3 a 4 = mP M2 wh 3 := by rw [hM3, mP_setP, fu_row _ _ haw, mP_setP, fu_eq]
  have ePw3 : mP M3 wh 3 = some a := by rw [hM3, mP_setP, fu_eq]
  have ePw4 : mP M3 wh 4 = mP M2 wh 4 := by rw [hM3, mP_setP, fu_ne _ _ (fun q => (by cases q.2)), mP_setP, fu_row _ _ (Ne.symm haw)]; rfl
  have aF3 : AgZ F M M3 := fun c hc => by
    have ca : c ≠ a := fun q => hdis c hc (q ▸ hA.1)
    have cw : c ≠ wh := fun q => hFw (q ▸ hc)
    obtain ⟨y1, y2, y3, y4⟩ := kF c hc
    exact ⟨by rw [eK]; exact y1, by rw [eI c ca]; exact y2, by rw [eP c ca cw]; exact y3, by rw [eP c ca cw]; exact y4⟩
  have aG3 : AgA G a M2 M3 := fun c hc => by
    have cw : c ≠ wh := fun q => hGw (q ▸ hc)
    refine ⟨by rw [eK], fun f hf => ?_, ?_, fun ca => by rw [eP c ca cw]⟩
    · by_cases ca : c = a
      · rw [ca]; exact eIa f (hf.resolve_left (fun q => q ca))
      · rw [eI c ca]
    · by_cases ca : c = a
      · rw [ca]; exact ePa3
      · rw [eP c ca cw]
  have hch3 := chz_cons (hCh.fr aF3) (hA.fr aG3) eIa1 (ePa4.trans x3)
  have hDe : (fun sz e => x4 * A sz e + D0 sz e) = fun sz e => D0 sz e + x4 * A sz e := by funext sz e; exact Int32.add_comm _ _
  rw [hDe] at hch3
  refine ⟨M3, fU G F, ?_, ⟨r1, ⟨by rw [eP rw hra hrw]; exact w1', w2, by omega⟩, by rw [eK]; exact hkw, fps_u (fps_wid (fps_mono hG hfr23) (by omega) (Nat.le_refl _)) (fps_wid (fps_mono hF2 hfr23) (Nat.le_refl _) (by omega)), fun q => q.elim hGw hFw, by rw [ePw3]; exact hch3, by omega⟩, hfr3, by rw [eI wh (Ne.symm haw)]; exact x2, ePw4.trans x4'⟩
  have k1 : mK (setI M2 a 1 x4) wh = 4 := hkw
  have k2 : mK (setI M2 a 1 x4) a = 4 := hka
  have k3 : mP (setI M2 a 1 x4) wh 3 = mP M2 wh 3 := rfl
  have k4 : mK (setP (setI M2 a 1 x4) a 4 (mP M2 wh 3)) wh = 4 := hkw
  simp only [fP_addPart_59, rzD_s, hka, if_true, rzM_e, k1, k2, k3, k4]
  rw [hM3]
/-- the same sum a step further on -/
theorem sums_mv {M1 : Mem} {i1 : Nat} (h : SumS n H W V p sg bd rw M T i qn mk b base jw wh L F D0) (h2 : PaS p sg bd rw M1 T i1 qn mk b) (hf : FrK p bd rw mk 0 M M1) : SumS n H W V p sg bd rw M1 T i1 qn mk b base jw wh L F D0 ∧ mI M1 wh = mI M wh ∧ mP M1 wh 4 = mP M wh 4 := by
  obtain ⟨hP, ⟨w1, w2, w3⟩, hwk, hF, hFw, hCh, hLm⟩ := h
  have kF : AgZ F M M1 := frk_keep hP.2.2.2.2.1 hP.kinds hP.2.2.2.2.2.2.1.2.2.1 hF hf
  have kw : AgZ (fun c => c = wh) M M1 := frk_keep hP.2.2.2.2.1 hP.kinds hP.2.2.2.2.2.2.1.2.2.1 (fps_wid (fps_1 w1) (Nat.zero_le _) (by omega)) hf
  obtain ⟨x1, x2, x3, x4⟩ := kw wh rfl
  exact ⟨⟨h2, ⟨hf.2.2.2.2.1 jw wh w1, w2, w3⟩, x1.trans hwk, fps_mono hF hf, hFw, by rw [x3]; exact hCh.fr kF, hLm⟩, x2, x4⟩
theorem par_part (hn : 200 ≤ n) {k d D : Nat} (hd : d ≤ 12) (hk : 3 * (T.drop i).length ≤ k + 2) (hD : hS d + 1 ≤ D) (side : Int32) (h : SumS n (eSd d) W V p sg bd rw M T i qn mk b base jw wh L F D0) : SpV n (eSd d) W V p sg bd rw M T qn mk b base jw wh (T.drop i) (pP k d b (T.drop i)) (fun x sz e => D0 sz e + side * x.2 sz e) (mR n (D + 1) 38 [.ref p, va_rf (some wh), .int side, .int (nI d)] M) := by
  obtain ⟨D, rfl⟩ : ∃ D', D = D' + 20 := ⟨D - 20, by unfold hS at hD; omega⟩
  have hP := h.1
  have hpk := x_peek (n := n) (d := D + 19) hP
  have hdc := x_isDec (n := n) (d := D + 19) (Nat.lt_trans (hd_lt hP) (by decide)) M
  have hpk : mR n (D + 20) 17 [.ref p] M = _ := hpk
  have hdc : mR n (D + 20) 34 [.int (nI ((T.drop i).headD 0))] M = _ := hdc
  have hmk : mk ≤ 120 := hP.2.2.2.2.2.2.1.2.2.1
  have hbm : base ≤ mk := by have := h.2.1; omega
  rw [eP_addPart]
  -- a thing, with a factor
  have key : ∀ (M1 : Mem) (i1 : Nat) (f : Int32) (g : Option ((Od × Dn) × List Nat)) (cf : (Od × Dn) → Od × Dn), PaS p sg bd rw M1 T i1 qn mk b → (∀ k0 k, FrK p bd rw k0 k M M1) → (T.drop i1).length ≤ (T.drop i).length → g = (pT k d b (T.drop i1)).bind (fun y => some (cf y.1, y.2)) → (∀ x sz e, side * (cf x).2 sz e = f * x.2 sz e) → SpV n (eSd d) W V p sg bd rw M T qn mk b base jw wh (T.drop i) g (fun x sz e => D0 sz e + side * x.2 sz e) (fP_addPart_40 n (D + 20) (mR n (D + 20)) p (some wh) (nI d) f 0 M1) := by
    intro M1 i1 f g cf h1 hfr hlen hg hcf
    have hT := par_thing (n := n) (W := W) (V := V) (k := k) hn hd (by omega) h1 (D := D + 19) (by omega)
    have hT : SpG p sg bd rw mk M1 T mk b (T.drop i1) _ _ _ (mR n (D + 20) 39 [.ref p, .int (nI d)] M1) := hT
    simp only [fP_addPart_40, if_true, h1.1.1]
    cases hsub : pT k d b (T.drop i1) with
    | none =>
      rw [hg, hsub]
      refine ⟨fun _ => (thrg_c (hT.1 hsub)).at (hfr base 0) hbm (by omega), fun y q => (by cases q)⟩
    | some y =>
      rw [hg, hsub]
      rcases hT.2 y hsub with ⟨M2, a, i2, mk2, G, t1, t2, t3, t4, t5, t6, t7, t8, t9⟩ | ⟨hb1, hb2⟩
      · have hmk2 : mk < mk2 := by
          obtain ⟨j, j1, j2, -⟩ := t6 a t7
          omega
        obtain ⟨M3, F', e1, e2, e3, e4, e5⟩ := part_add (x4 := f) h ((hfr mk 0).trans t4 (Nat.le_refl _) (Nat.le_refl _)) t2 hmk2 t6 t9 (D + 20) (mR n (D + 20))
        refine ⟨fun q => (by cases q), fun y' q => ?_⟩
        cases q
        refine Or.inl ⟨M3, i2, mk2, F', L + 1, by rw [t1, rzC_l, rzP_s, e1], ?_, t3, e3.mono (Nat.le_refl _) (by omega), ⟨t5.1, by have := t5.2; simp only; omega⟩, e4, e5⟩
        have : (fun sz e => D0 sz e + side * (cf y.1).2 sz e) = fun sz e => D0 sz e + f * y.1.2 sz e := by funext sz e; rw [hcf]
        show SumS n (eSd d) W V p sg bd rw M3 T i2 qn mk2 b base jw wh (L + 1) F' (fun sz e => D0 sz e + side * (cf y.1).2 sz e)
        rw [this]
        exact e2
      · refine ⟨fun q => (by cases q), fun y' q => Or.inr ⟨?_, (thrg_c hb2).at (hfr base 0) hbm (by omega)⟩⟩
        cases q
        simp only
        omega
  cases hdg : isDg ((T.drop i).headD 0) with
  | false =>
    rw [hdg] at hdc
    have hdc : mR n (D + 20) 34 [.int (nI ((T.drop i).headD 0))] M = some (.inl (some (.int 0)), M) := hdc
    have hg : pP k d b (T.drop i) = (pT k d b (T.drop i)).bind (fun y => some (y.1, y.2)) := by
      have hb : (pT k d b (T.drop i)).bind (fun y => some (y.1, y.2)) = pT k d b (T.drop i) := by cases pT k d b (T.drop i) <;> rfl
      rw [hb]
      unfold pP
      cases hts : T.drop i with
      | nil => rfl
      | cons c r =>
        rw [hts] at hdg
        have hdg : isDg c = false := hdg
        simp only [hdg]
        rfl
    simp only [fP_addPart_0, hP.1.1, if_true, hpk, rzC_l, rzI_e, hdc]
    exact key M i side _ id hP (fun k0 k => frk_refl) (Nat.le_refl _) hg (fun x sz e => rfl)
  | true =>
    rw [hdg] at hdc
    have hdc : mR n (D + 20) 34 [.int (nI ((T.drop i).headD 0))] M = some (.inl (some (.int 1)), M) := hdc
    have n1 : ¬ (1 : Int32) = 0 := by decide
    obtain ⟨r0, hcs, -, -, -⟩ := num_d hdg
    have hgp : pP k d b (T.drop i) = (pN (T.drop i)).bind fun y => pM k d b y.1 y.2 := by
      rw [hcs]
      unfold pP
      simp only [hdg, if_true]
    rw [hgp]
    simp only [fP_addPart_0, hP.1.1, if_true, hpk, rzC_l, rzI_e, hdc, if_neg n1]
    obtain ⟨nu1, nu2⟩ := x_number (n := n) (d := D + 16) (by omega) (by omega) hP
    have nu2 : pN (T.drop i) = none → Thr p bd rw mk M (mR n (D + 20) 35 [.ref p] M) := nu2
    cases hN : pN (T.drop i) with
    | none =>
      refine ⟨fun _ => (thr_g (thr_c (nu2 hN)) (Nat.le_refl _) (Nat.le_refl _)).at (frk_refl (k := 0)) hbm (by omega), fun y q => (by cases q)⟩
    | some y =>
      rw [Option.bind_some]
      have hNl := pN_len hN
      obtain ⟨M1, i1, s1, s2, s3, s4⟩ := nu1 y hN
      have s1 : mR n (D + 20) 35 [.ref p] M = some (.inl (some (.int (nI y.1))), M1) := s1
      simp only [s1, rzC_l, rzI_e, s2.1.1, if_true]
      by_cases h42 : (T.drop i1).headD 0 = 42
      · obtain ⟨M2, i2, u1, u2, u3, u4⟩ := x_take_yes (n := n) (d := D + 17) s2 (c := 42) (by decide) (x := 42) rfl h42
        have u1 : mR n (D + 20) 31 [.ref p, .int 42] M1 = some (.inl (some (.int 1)), M2) := u1
        simp only [u1, rzC_l, rzI_e, if_neg n1, fP_addPart_38]
        have hcs2 := hd_cons (by decide) h42
        refine key M2 i2 (side * nI y.1) _ (fun x => (x.1 ++ [(16, y.1)], fun n e => nI y.1 * x.2 n e)) u2 (fun k0 k => (s4 k0 0).trans (u4 k0 k) (Nat.le_refl _) (by omega)) ?_ ?_ (fun x sz e => (Int32.mul_assoc _ _ _).symm)
        · have l1 := congrArg List.length u3
          have l2 := congrArg List.length s3
          rw [List.length_tail] at l1
          omega
        · rw [← s3]
          unfold pM
          rw [hcs2]
          simp only [if_true]
          rw [u3]
      · have u1 := x_take_no (n := n) (d := D + 17) s2 (c := 42) (by decide) (x := 42) rfl h42
        have u1 : mR n (D + 20) 31 [.ref p, .int 42] M1 = some (.inl (some (.int 0)), M1) := u1
        simp only [u1, rzC_l, rzI_e, if_true, fP_addPart_38, fP_addPart_40, if_neg n1, s2.1.1]
        have hg : pM k d b y.1 y.2 = some (([(13, y.1)], fun _ _ => nI y.1), y.2) := by
          rw [← s3]
          unfold pM
          cases hts : T.drop i1 with
          | nil => rfl
          | cons c r =>
            rw [hts] at h42
            have h42 : ¬ c = 42 := h42
            simp only [if_neg h42]
        rw [hg]
        by_cases hmk2 : mk < 120
        · obtain ⟨M2, a, g1, g2, g3, g4, g5⟩ := x_make (n := n) (d := D + 18) s2 hmk2 (x := 49) (fits_ch (x := 49) (by decide))
          have g1 : mR n (D + 20) 20 [.ref p, .int 49] M1 = some (.inl (some (.ref a)), M2) := g1
          obtain ⟨u1, u2, -⟩ := g5
          obtain ⟨M3, F', e1, e2, e3, e4, e5⟩ := part_add (x4 := side * nI y.1) h ((s4 mk 0).trans g3 (Nat.le_refl _) (Nat.le_refl _)) g2 (by omega) (fps_1 g4) ((eva_1 (n := n) (W := W) (V := V) (b := b) u1 u2).mono (H' := eSd d) (by unfold eSd; omega)) (D + 20) (mR n (D + 20))
          refine ⟨fun q => (by cases q), fun y' q => ?_⟩
          cases q
          refine Or.inl ⟨M3, i1, mk + 1, F', L + 1, by rw [g1, rzC_l, rzP_s, e1], ?_, s3, e3.mono (Nat.le_refl _) (by omega), ⟨by omega, by simp only; omega⟩, e4, e5⟩
          have : (fun (sz : Nat) (e : Ev) => D0 sz e + side * nI y.1) = fun sz e => D0 sz e + side * nI y.1 * 1 := by funext sz e; rw [Int32.mul_one]
          show SumS _ _ _ _ _ _ _ _ _ _ _ _ _ _ _ _ _ _ _ (fun (sz : Nat) (e : Ev) => D0 sz e + side * nI y.1)
          rw [this]
          exact e2
        · have hmt := x_make_t (n := n) (d := D + 18) (by omega) s2 hmk2 49
          have hmt : Thr p bd rw mk M1 (mR n (D + 20) 20 [.ref p, .int 49] M1) := hmt
          refine ⟨fun q => (by cases q), fun y' q => Or.inr ⟨?_, (thr_g (thr_c hmt) (Nat.le_refl _) (Nat.le_refl _)).at (s4 base 0) hbm (by omega)⟩⟩
          cases q
          simp only
          omega
/-- the rest of a sum -/
theorem par_sumr (hn : 200 ≤ n) {d D f : Nat} (hd : d ≤ 12) (hD : hS d + 2 ≤ D) (side : Int32) (X : Nat) : ∀ (k : Nat) (acc : Od × Dn) (i mk L mo w : Nat) (F : Nat → Prop) (M : Mem), (T.drop i).length < k → 3 * (T.drop i).length ≤ f + 2 → mo ≤ i → 122 ≤ w + mo → SumS n (eSd d) W V p sg bd rw M T i qn mk b base jw wh L F (fun sz e => D0 sz e + side * acc.2 sz e) → SpV n (eSd d) W V p sg bd rw M T qn mk b base jw wh (T.drop i) (pZr k f d b acc (T.drop i)) (fun x sz e => D0 sz e + side * x.2 sz e) (fP_addSum_24 n X (mR n D) w p (some wh) side (nI d) (nI mo) M) := by
  obtain ⟨D, rfl⟩ : ∃ D', D = D' + 20 := ⟨D - 20, by unfold hS at hD; omega⟩
  intro k
  induction k with
  | zero => intro acc i mk L mo w F M hk; exact absurd hk (Nat.not_lt_zero _)
  | succ k ih =>
    intro acc i mk L mo w F M hk hf hmo hw h
    obtain ⟨w, rfl⟩ : ∃ w', w = w' + 1 := ⟨w - 1, by
      have := h.1.2.2.2.2.2.2.1.1; have := h.1.2.2.2.2.2.2.1.2.1; omega⟩
    have hP := h.1
    have hiT : i ≤ T.length := hP.2.2.2.2.2.2.1.1
    have hT : T.length ≤ 120 := hP.2.2.2.2.2.2.1.2.1
    have hbm : base ≤ mk := by have := h.2.1; omega
    have hpk := x_peek (n := n) (d := D + 19) hP
    have hpk : mR n (D + 20) 17 [.ref p] M = _ := hpk
    have hx : ∀ (kk : Nat), kk < 1000 → ∀ x : Int32, x = nI kk → (nI ((T.drop i).headD 0) = x ↔ (T.drop i).headD 0 = kk) := fun kk hkk x hx => cq (Nat.lt_trans (hd_lt hP) (by decide)) kk hkk hx
    by_cases hc : (T.drop i).headD 0 = 43 ∨ (T.drop i).headD 0 = 45
    · have hcons : T.drop i = (T.drop i).headD 0 :: (T.drop i).tail := hd_cons (by omega) rfl
      have hpos : 0 < (T.drop i).length := by rw [hcons]; exact Nat.zero_lt_succ _
      have hmo2 : mo < 120 := by rw [List.length_drop] at hpos; omega
      have h120 : ¬ (120 : Int32) ≤ nI mo := nI_ge (b := 120) hmo2 (by decide)
      obtain ⟨M1, i1, f1, f2, f3, f4⟩ := x_next (n := n) (d := D + 18) hP
      have f1 : mR n (D + 20) 19 [.ref p] M = some (.inl (some (.int (nI ((T.drop i).headD 0)))), M1) := f1
      have hlen : (T.drop i).length = (T.drop i1).length + 1 := by rw [f3, List.length_tail]; omega
      have e49 : fP_addSum_24 n X (mR n (D + 20)) (w + 1) p (some wh) side (nI d) (nI mo) M = fP_addSum_49 n X (mR n (D + 20)) (fP_addSum_24 n X (mR n (D + 20)) w) p (some wh) side (nI d) (nI mo) M := by
        rw [fP_addSum_24, if_neg h120]
        simp only [hP.1.1, if_true, hpk, rzC_l, rzI_e]
        by_cases c43 : (T.drop i).headD 0 = 43
        · rw [if_pos ((hx 43 (by decide) 43 rfl).mpr c43)]
        · rw [if_neg (fun q => c43 ((hx 43 (by decide) 43 rfl).mp q)), if_pos ((hx 45 (by decide) 45 rfl).mpr (hc.resolve_left c43))]
      have hg : pZr (k + 1) f d b acc (T.drop i) = (pP f d b (T.drop i1)).bind fun y => pZr k f d b (acc.1 ++ (hsgn (decide ((T.drop i).headD 0 = 45)) y.1).1 ++ [(18, 0)], fun n e => acc.2 n e + (hsgn (decide ((T.drop i).headD 0 = 45)) y.1).2 n e) y.2 := by
        refine (congrArg (pZr (k + 1) f d b acc) hcons).trans ?_
        rw [pZr]
        simp only [if_pos hc, f3]
      rw [hg, e49]
      -- the same state a sign further on
      obtain ⟨h1, hw1⟩ := sums_mv h f2 (f4 mk 0)
      obtain ⟨sd, hsd⟩ : ∃ sd, sd = (if (T.drop i).headD 0 = 45 then -side else side) := ⟨_, rfl⟩
      have e66 : fP_addSum_49 n X (mR n (D + 20)) (fP_addSum_24 n X (mR n (D + 20)) w) p (some wh) side (nI d) (nI mo) M = fP_addSum_66 n X (mR n (D + 20)) (fP_addSum_24 n X (mR n (D + 20)) w) p (some wh) side (nI d) (nI mo) sd (some wh) p M1 := by
        simp only [fP_addSum_49, hP.1.1, if_true, f1, rzC_l, rzI_e]
        rw [hsd]
        by_cases c45 : (T.drop i).headD 0 = 45
        · rw [if_pos ((hx 45 (by decide) 45 rfl).mpr c45), if_pos c45]
        · rw [if_neg (fun q => c45 ((hx 45 (by decide) 45 rfl).mp q)), if_neg c45]
      rw [e66]
      have hPt := par_part (n := n) (k := f) (D := D + 19) hn hd (by omega) (by omega) sd h1
      have hPt : SpV n (eSd d) W V p sg bd rw M1 T qn mk b base jw wh (T.drop i1) (pP f d b (T.drop i1)) _ (mR n (D + 20) 38 [.ref p, va_rf (some wh), .int sd, .int (nI d)] M1) := hPt
      simp only [fP_addSum_66, f2.1.1, if_true]
      cases hsub : pP f d b (T.drop i1) with
      | none =>
        refine ⟨fun _ => (thrg_c (hPt.1 hsub)).at (f4 base 0) (Nat.le_refl _) (by omega), fun y q => (by cases q)⟩
      | some y =>
        rw [Option.bind_some]
        have hyl := pP_len hsub
        rcases hPt.2 y hsub with ⟨M2, i2, mk2, F2, L2, t1, t2, t3, t4, t5, t6, t7⟩ | ⟨hb1, hb2⟩
        · simp only [t1, rzC_l, rzV_e, nI_1]
          have hDe : (fun sz e => (D0 sz e + side * acc.2 sz e) + sd * y.1.2 sz e) = fun sz e => D0 sz e + side * (fun n e => acc.2 n e + (hsgn (decide ((T.drop i).headD 0 = 45)) y.1).2 n e) sz e := by
            funext sz e
            rw [hsd]
            unfold hsgn
            by_cases c45 : (T.drop i).headD 0 = 45
            · rw [if_pos c45, decide_eq_true c45]
              simp only [if_true]
              rw [Int32.mul_add, Int32.add_assoc, Int32.neg_mul, Int32.mul_neg]
            · rw [if_neg c45, decide_eq_false c45]
              simp only [Bool.false_eq_true, if_false]
              rw [Int32.mul_add, Int32.add_assoc]
          replace t2 : SumS n (eSd d) W V p sg bd rw M2 T i2 qn mk2 b base jw wh L2 F2 (fun sz e => (D0 sz e + side * acc.2 sz e) + sd * y.1.2 sz e) := t2
          rw [hDe] at t2
          have hi2 : i2 ≤ T.length := t2.1.2.2.2.2.2.2.1.1
          have hm2 : mk2 ≤ 120 := t2.1.2.2.2.2.2.2.1.2.2.1
          have hl2 := congrArg List.length t3
          have := ih (acc.1 ++ (hsgn (decide ((T.drop i).headD 0 = 45)) y.1).1 ++ [(18, 0)], fun n e => acc.2 n e + (hsgn (decide ((T.drop i).headD 0 = 45)) y.1).2 n e) i2 mk2 L2 (mo + 1) w F2 M2 (by omega) (by omega) (by rw [List.length_drop] at hl2 hlen hyl; rw [List.length_drop] at hlen; omega) (by omega) t2
          rw [t3] at this
          exact this.tr ((f4 base 0).trans t4 (Nat.le_refl _) (Nat.le_refl _)) t5.1 (by omega) hm2 (by omega) (t6.trans hw1.1) (t7.trans hw1.2)
        · refine ⟨fun _ => (thrg_c hb2).at (f4 base 0) (Nat.le_refl _) (by omega), fun y' q => Or.inr ⟨?_, (thrg_c hb2).at (f4 base 0) (Nat.le_refl _) (by omega)⟩⟩
          have := (pZr_len _ _ _ _ _ _ y' q).1
          omega
    · have hg : pZr (k + 1) f d b acc (T.drop i) = some (acc, T.drop i) := by
        cases hts : T.drop i with
        | nil => rfl
        | cons c r =>
          rw [pZr]
          rw [hts] at hc
          have hc : ¬ (c = 43 ∨ c = 45) := hc
          simp only [if_neg hc]
      have e76 : fP_addSum_24 n X (mR n (D + 20)) (w + 1) p (some wh) side (nI d) (nI mo) M = some (.inl none, M) := by
        rw [fP_addSum_24]
        split
        · rfl
        · simp only [hP.1.1, if_true, hpk, rzC_l, rzI_e, if_neg (fun q => hc (Or.inl ((hx 43 (by decide) 43 rfl).mp q))), if_neg (fun q => hc (Or.inr ((hx 45 (by decide) 45 rfl).mp q))), fP_addSum_76]
      rw [hg, e76]
      refine ⟨fun q => (by cases q), fun y q => ?_⟩
      cases q
      exact Or.inl ⟨M, i, mk, F, L, rfl, h, rfl, frk_refl, ⟨Nat.le_refl _, Nat.le_refl _⟩, rfl, rfl⟩
theorem par_sum (hn : 200 ≤ n) {k d D : Nat} (hd : d ≤ 12) (hk : 3 * (T.drop i).length ≤ k + 2) (hD : hS d + 2 ≤ D) (side : Int32) (h : SumS n (eSd d) W V p sg bd rw M T i qn mk b base jw wh L F D0) : SpV n (eSd d) W V p sg bd rw M T qn mk b base jw wh (T.drop i) (pZ k d b (T.drop i)) (fun x sz e => D0 sz e + side * x.2 sz e) (mR n (D + 1) 37 [.ref p, va_rf (some wh), .int side, .int (nI d)] M) := by
  obtain ⟨D, rfl⟩ : ∃ D', D = D' + 20 := ⟨D - 20, by unfold hS at hD; omega⟩
  have hP := h.1
  have hmk : mk ≤ 120 := hP.2.2.2.2.2.2.1.2.2.1
  obtain ⟨M1, i1, f1, f2, f3, f4⟩ := x_take (n := n) (d := D + 17) hP (c := 45) (by decide) (x := 45) rfl
  have f1 : mR n (D + 20) 31 [.ref p, .int 45] M = some (.inl (some (.int (b2i (decide ((T.drop i).headD 0 = 45))))), M1) := f1
  obtain ⟨h1, hw1⟩ := sums_mv h f2 (f4 mk 0)
  obtain ⟨sd, hsd⟩ : ∃ sd, sd = (if (T.drop i).headD 0 = 45 then -side else side) := ⟨_, rfl⟩
  have hlen : (T.drop i1).length ≤ (T.drop i).length := by
    rw [f3]
    split
    · rw [List.length_tail]; omega
    · exact Nat.le_refl _
  have hg : pZ k d b (T.drop i) = (pP k d b (T.drop i1)).bind fun y => pZr k k d b (hsgn (decide ((T.drop i).headD 0 = 45)) y.1) y.2 := by
    rw [f3]
    unfold pZ
    cases hts : T.drop i with
    | nil => rfl
    | cons c r => rfl
  have e17 : mR n (D + 20 + 1) 37 [.ref p, va_rf (some wh), .int side, .int (nI d)] M = fP_addSum_17 n (D + 20) (mR n (D + 20)) p (some wh) side (nI d) sd (some wh) p M1 := by
    rw [eP_addSum]
    simp only [fP_addSum_0, hP.1.1, if_true, f1, rzC_l, rzI_e]
    rw [hsd]
    by_cases c45 : (T.drop i).headD 0 = 45
    · rw [if_pos c45, decide_eq_true c45]; rfl
    · rw [if_neg c45, decide_eq_false c45]; rfl
  rw [hg, e17]
  have hPt := par_part (n := n) (k := k) (D := D + 19) hn hd (by omega) (by omega) sd h1
  have hPt : SpV n (eSd d) W V p sg bd rw M1 T qn mk b base jw wh (T.drop i1) (pP k d b (T.drop i1)) _ (mR n (D + 20) 38 [.ref p, va_rf (some wh), .int sd, .int (nI d)] M1) := hPt
  simp only [fP_addSum_17, f2.1.1, if_true]
  cases hsub : pP k d b (T.drop i1) with
  | none =>
    refine ⟨fun _ => (thrg_c (hPt.1 hsub)).at (f4 base 0) (Nat.le_refl _) (by omega), fun y q => (by cases q)⟩
  | some y =>
    rw [Option.bind_some]
    have hyl := pP_len hsub
    rcases hPt.2 y hsub with ⟨M2, i2, mk2, F2, L2, t1, t2, t3, t4, t5, t6, t7⟩ | ⟨hb1, hb2⟩
    · simp only [t1, rzC_l, rzV_e]
      have hDe : (fun sz e => D0 sz e + sd * y.1.2 sz e) = fun sz e => D0 sz e + side * (hsgn (decide ((T.drop i).headD 0 = 45)) y.1).2 sz e := by
        funext sz e
        rw [hsd]
        unfold hsgn
        by_cases c45 : (T.drop i).headD 0 = 45
        · rw [if_pos c45, decide_eq_true c45]
          simp only [if_true]
          rw [Int32.neg_mul, Int32.mul_neg]
        · rw [if_neg c45, decide_eq_false c45]
          simp only [Bool.false_eq_true, if_false]
      replace t2 : SumS n (eSd d) W V p sg bd rw M2 T i2 qn mk2 b base jw wh L2 F2 (fun sz e => D0 sz e + sd * y.1.2 sz e) := t2
      rw [hDe] at t2
      have hm2 : mk2 ≤ 120 := t2.1.2.2.2.2.2.2.1.2.2.1
      have hl2 := congrArg List.length t3
      have := par_sumr (n := n) (D := D + 20) (f := k) hn hd (by omega) side (D + 20) k (hsgn (decide ((T.drop i).headD 0 = 45)) y.1) i2 mk2 L2 0 n F2 M2 (by omega) (by omega) (Nat.zero_le _) (by omega) t2
      rw [t3] at this
      exact this.tr ((f4 base 0).trans t4 (Nat.le_refl _) (Nat.le_refl _)) t5.1 (by omega) hm2 (by omega) (t6.trans hw1.1) (t7.trans hw1.2)
    · refine ⟨fun _ => (thrg_c hb2).at (f4 base 0) (Nat.le_refl _) (by omega), fun y' q => Or.inr ⟨?_, (thrg_c hb2).at (f4 base 0) (Nat.le_refl _) (by omega)⟩⟩
      have := (pZr_len _ _ _ _ _ _ y' q).1
      omega
end PCm
