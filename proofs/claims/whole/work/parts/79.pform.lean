/-! the parser: comparisons of sets, and formulas -/
def hFo (d : Nat) : Nat := 8 * (14 - d) + 160
def eFd (d : Nat) : Nat := 8 * (14 - d) + 100
/-- what is known of a formula that is an A or an E -/
def KdR (n H W V : Nat) (F : Nat → Prop) (M : Mem) (b : Bd) (a : Nat) (y : FvT) : Prop := (y.1.2.2 = none → ∃ ch, mI M a 0 = nI ch ∧ ch < 127 ∧ ch ≠ 65 ∧ ch ≠ 69) ∧ ∀ isA isSet i q B, y.1.2.2 = some (isA, isSet, i, q, B) → mI M a 0 = (if isA then 65 else 69) ∧ mI M a 2 = nI i ∧ i < 6 ∧ isSet = decide (3 ≤ i) ∧ ∃ a1 F1, mP M a 3 = some a1 ∧ (∀ c, F1 c → F c) ∧ ¬ F1 a ∧ EvF n H W V F1 M (fun j => if j = i then some q else b j) a1 B
def RF (n H W V : Nat) (b : Bd) (y : FvT) (F : Nat → Prop) (M : Mem) (a : Nat) : Prop := EvF n H W V F M b a y.1.2.1 ∧ KdR n H W V F M b a y
theorem kdr_none {n H W V : Nat} {F : Nat → Prop} {M : Mem} {b : Bd} {a : Nat} {c : Od} {D : DF} {lp : List (Bool × Bool)} {ch : Nat} (h : mI M a 0 = nI ch) (hc : ch < 127) (h65 : ch ≠ 65) (h69 : ch ≠ 69) : KdR n H W V F M b a ((c, D, none), lp) := ⟨fun _ => ⟨ch, h, hc, h65, h69⟩, fun _ _ _ _ _ q => (by cases q)⟩
theorem pF_lp : ∀ (k w : Nat) (acc : FvT) (d : Nat) (b : Bd) (ts : List Nat) (y : FvT × List Nat), pF k w acc d b ts = some y → acc.2.length ≤ y.1.2.length ∧ (acc.2.length ≤ 4 → y.1.2.length ≤ 4) := by
  intro k
  induction k with
  | zero => intro w acc d b ts y h; cases h
  | succ k ih =>
    intro w acc d b ts y h
    unfold pF at h
    split at h
    · split at h
      · cases ts with
        | nil => cases h
        | cons c r =>
          simp only at h
          split at h
          · obtain ⟨z, h1, h2⟩ := Option.bind_eq_some_iff.mp h
            cases h2
            have := ih _ _ _ _ _ _ h1
            exact this
          · split at h
            · split at h
              · split at h
                · cases h
                · obtain ⟨i, g1, g2⟩ := Option.bind_eq_some_iff.mp h
                  obtain ⟨z, h1, h2⟩ := Option.bind_eq_some_iff.mp g2
                  cases h2
                  have := ih _ _ _ _ _ _ h1
                  simp only [List.length_append, List.length_cons, List.length_nil] at this ⊢
                  omega
              · cases h
            · split at h
              · obtain ⟨z, h1, h2⟩ := Option.bind_eq_some_iff.mp h
                obtain ⟨e1, e2⟩ := cx_some h2
                rw [e1]
                have := ih _ _ _ _ _ _ h1
                exact this
              · split at h
                · obtain ⟨z, h1, h2⟩ := Option.bind_eq_some_iff.mp h
                  cases h2
                  exact ⟨Nat.le_refl _, fun q => q⟩
                · obtain ⟨z, h1, h2⟩ := Option.bind_eq_some_iff.mp h
                  cases h2
                  exact ⟨Nat.le_refl _, fun q => q⟩
      · cases h
    · split at h
      · obtain ⟨z, h1, h2⟩ := Option.bind_eq_some_iff.mp h
        have a1 := ih _ _ _ _ _ _ h1
        have a2 := ih _ _ _ _ _ _ h2
        omega
      · split at h
        · obtain ⟨z, h1, h2⟩ := Option.bind_eq_some_iff.mp h
          have a1 := ih _ _ _ _ _ _ h1
          have a2 := ih _ _ _ _ _ _ h2
          omega
        · split at h
          · cases ts with
            | nil => cases h; exact ⟨Nat.le_refl _, fun q => q⟩
            | cons c r =>
              simp only at h
              split at h
              · obtain ⟨z, h1, h2⟩ := Option.bind_eq_some_iff.mp h
                have a1 := ih _ _ _ _ _ _ h1
                have a2 := ih _ _ _ _ _ _ h2
                simp only at a2
                omega
              · cases h; exact ⟨Nat.le_refl _, fun q => q⟩
          · cases ts with
            | nil => cases h; exact ⟨Nat.le_refl _, fun q => q⟩
            | cons c r =>
              simp only at h
              split at h
              · obtain ⟨z, h1, h2⟩ := Option.bind_eq_some_iff.mp h
                have a1 := ih _ _ _ _ _ _ h1
                have a2 := ih _ _ _ _ _ _ h2
                simp only at a2
                omega
              · cases h; exact ⟨Nat.le_refl _, fun q => q⟩
section PCs
variable {n W V p sg bd rw : Nat} {M : Mem} {T : List Nat} {i qn mk : Nat} {b : Bd}
/-- a comparison of sets -/
theorem par_cset (hn : 200 ≤ n) {k d D : Nat} {r : List Nat} (hd : d ≤ 12) (hts : T.drop i = 91 :: r) (hk : 3 * (T.drop i).length ≤ k) (hD : hS d + 4 ≤ D) (hP : PaS p sg bd rw M T i qn mk b) : SpG p sg bd rw mk M T mk b (T.drop i) (pB k d b r) (fun _ => qn) (fun x F M' a => EvF n (eSd d + 6) W V F M' b a x.2 ∧ ∃ ch, mI M' a 0 = nI ch ∧ ch < 127 ∧ ch ≠ 65 ∧ ch ≠ 69) (mR n (D + 1) 32 [.ref p, .int (nI d)] M) := by
  obtain ⟨-, -, hA2, -, -⟩ := par_sets (n := n) (W := W) (V := V) (p := p) (sg := sg) (bd := bd) (rw := rw) (T := T) (b := b) hn k
  obtain ⟨D, rfl⟩ : ∃ D', D = D' + 20 := ⟨D - 20, by unfold hS at hD; omega⟩
  have hmk : mk ≤ 120 := hP.2.2.2.2.2.2.1.2.2.1
  have hlen : (T.drop i).length = r.length + 1 := by rw [hts]; rfl
  have e32 : mR n (D + 20 + 1) 32 [.ref p, .int (nI d)] M = fP_comparisonOfSets_0 n (D + 20) (mR n (D + 20)) p (nI d) M := eP_comparisonOfSets n (D + 20) p (nI d) M
  rw [e32]
  obtain ⟨M1, i1, u1, u2, u3, u4⟩ := x_take_yes (n := n) (d := D + 17) hP (c := 91) (by decide) (x := 91) rfl (by rw [hts]; rfl)
  have u1 : mR n (D + 20) 31 [.ref p, .int 91] M = some (.inl (some (.int 1)), M1) := u1
  have u3 : T.drop i1 = r := by rw [u3, hts]; rfl
  have ii1 : mR n (D + 20) 16 [.int 1] M1 = some (.inl none, M1) := x_insist1 M1
  have hA := hA2 sv0 d i1 qn mk (D + 20) M1 (by omega) (by rw [u3]; omega) u2 (by omega)
  rw [u3] at hA
  simp only [fP_comparisonOfSets_0, hP.1.1, if_true, u1, rzC_l, rzI_e, ii1, rzV_e, u2.1.1]
  have hgB : pB k d b r = (pS k 2 sv0 d b r).bind fun y => pQ k d b y.1 y.2 := rfl
  rw [hgB]
  cases hsub : pS k 2 sv0 d b r with
  | none => exact ⟨fun _ => (thrg_c (hA.1 hsub)).at (u4 mk 0) (Nat.le_refl _) (by omega), fun y q => (by cases q)⟩
  | some y =>
    rw [Option.bind_some]
    have hyl := (pS_len k 2 sv0 d b r y hsub).1
    obtain ⟨Qf, hQf⟩ : ∃ Qf : (Od × Dn) → Od × DF, ((y.2.headD 0 = 60 ∨ y.2.headD 0 = 61) → pQ k d b y.1 y.2 = (pS k 2 sv0 d b y.2.tail).bind fun z => cx 93 (Qf z.1, z.2)) ∧ (y.2.headD 0 = 60 → ∀ z sz e, (Qf z).2 sz e = decide (y.1.2 sz e &&& hnot (z.2 sz e) = 0)) ∧ (y.2.headD 0 = 61 → ∀ z sz e, (Qf z).2 sz e = decide (y.1.2 sz e = z.2 sz e)) := by
      by_cases c60 : y.2.headD 0 = 60
      · refine ⟨fun z => (y.1.1 ++ z.1 ++ [(22, 0)], fun n e => decide (y.1.2 n e &&& hnot (z.2 n e) = 0)), fun _ => ?_, fun _ z sz e => rfl, fun q => absurd (c60.symm.trans q) (by decide)⟩
        have hcons : y.2 = y.2.headD 0 :: y.2.tail := hd_cons (by omega) rfl
        refine (congrArg (pQ k d b y.1) hcons).trans ?_
        unfold pQ
        simp only [if_pos c60]
      · refine ⟨fun z => (y.1.1 ++ z.1 ++ [(20, 0)], fun n e => decide (y.1.2 n e = z.2 n e)), fun hc => ?_, fun q => absurd q c60, fun _ z sz e => rfl⟩
        have c61 := hc.resolve_left c60
        have hcons : y.2 = y.2.headD 0 :: y.2.tail := hd_cons (by omega) rfl
        refine (congrArg (pQ k d b y.1) hcons).trans ?_
        unfold pQ
        simp only [if_neg c60, if_pos c61]
    have hQn : ¬ (y.2.headD 0 = 60 ∨ y.2.headD 0 = 61) → pQ k d b y.1 y.2 = none := fun hc => by
      unfold pQ
      cases hts : y.2 with
      | nil => rfl
      | cons c r =>
        rw [hts] at hc
        have hc : ¬ (c = 60 ∨ c = 61) := hc
        simp only [if_neg (fun q => hc (Or.inl q)), if_neg (fun q => hc (Or.inr q))]
    have hQl : ∀ y', pQ k d b y.1 y.2 = some y' → y'.2.length + 2 ≤ y.2.length := fun y' q => by
      by_cases hc : y.2.headD 0 = 60 ∨ y.2.headD 0 = 61
      · rw [hQf.1 hc] at q
        obtain ⟨z, e1, e2⟩ := Option.bind_eq_some_iff.mp q
        have l1 := (pS_len k 2 sv0 d b _ z e1).1
        have l2 := cx_len e2
        have hcons : y.2 = y.2.headD 0 :: y.2.tail := hd_cons (by omega) rfl
        have l3 := congrArg List.length hcons
        simp only [List.length_cons] at l2 l3
        omega
      · rw [hQn hc] at q; cases q
    rcases hA.2 y hsub with ⟨M2, l, i2, mk2, F2, t1, t2, t3, t4, t5, t6, t7, t8, t9⟩ | ⟨hb1, hb2⟩
    · have hm2 : mk2 ≤ 120 := t2.2.2.2.2.2.2.1.2.2.1
      obtain ⟨M3, i3, n1, n2, n3, n4⟩ := x_next (n := n) (d := D + 18) t2
      have n1 : mR n (D + 20) 19 [.ref p] M2 = some (.inl (some (.int (nI ((T.drop i2).headD 0)))), M3) := n1
      rw [t3] at n1 n3
      have hc127 : y.2.headD 0 < 127 := by rw [← t3]; exact hd_lt t2
      have hx : ∀ (kk : Nat), kk < 1000 → ∀ x : Int32, x = nI kk → (nI (y.2.headD 0) = x ↔ y.2.headD 0 = kk) := fun kk hkk x hx => cq (by omega) kk hkk hx
      have hfr3 : FrK p bd rw mk (mk2 - mk) M M3 := ((u4 mk 0).trans t4 (Nat.le_refl _) (Nat.le_refl _)).trans (n4 mk 0) (Nat.le_refl _) (by omega)
      simp only [t1, rzC_l, rzP_s, t2.1.1, if_true, n1, rzI_e]
      by_cases hc : y.2.headD 0 = 60 ∨ y.2.headD 0 = 61
      · have hcons : y.2 = y.2.headD 0 :: y.2.tail := hd_cons (by omega) rfl
        have l3 := congrArg List.length hcons
        simp only [List.length_cons] at l3
        obtain ⟨lt, hlt⟩ : ∃ lt : Bool, lt = decide (y.2.headD 0 = 60) := ⟨_, rfl⟩
        obtain ⟨sn, hsn⟩ : ∃ sn : Nat, sn = (if lt then 91 else 93) := ⟨_, rfl⟩
        have hsn' : sn = 91 ∨ sn = 93 := by rw [hsn]; cases lt <;> simp
        have ii3 : mR n (D + 20) 16 [.int 1] M3 = some (.inl none, M3) := x_insist1 M3
        have hgo : ∀ R : Rz, R = fP_comparisonOfSets_56 n (D + 20) (mR n (D + 20)) p (nI d) (some l) (nI sn) p M3 → SpG p sg bd rw mk M T mk b (T.drop i) (pQ k d b y.1 y.2) (fun _ => qn) (fun x F M' a => EvF n (eSd d + 6) W V F M' b a x.2 ∧ ∃ ch, mI M' a 0 = nI ch ∧ ch < 127 ∧ ch ≠ 65 ∧ ch ≠ 69) R := by
          intro R hR
          rw [hR, fP_comparisonOfSets_56, if_pos n2.1.1]
          by_cases hmk2 : mk2 < 120
          · obtain ⟨M4, wh, g1, g2, g3, g4, g5⟩ := x_make (n := n) (d := D + 18) n2 hmk2 (x := nI sn) (fits_ch (by omega))
            have g1 : mR n (D + 20) 20 [.ref p, .int (nI sn)] M3 = some (.inl (some (.ref wh)), M4) := g1
            obtain ⟨v1, v2, v3, v4, v5, v6⟩ := g5
            obtain ⟨w1, w2⟩ := nd_setP (f := 3) g2 (show mk2 < mk2 + 1 by omega) g4 (some l)
            obtain ⟨M5, hM5⟩ : ∃ M5, M5 = setP M4 wh 3 (some l) := ⟨_, rfl⟩
            rw [← hM5] at w1 w2
            have hrwh : rw ≠ wh := fun q => by have := g2.kinds.2.2; rw [q, v1] at this; exact absurd this (by decide)
            have g4' : mP M5 rw mk2 = some wh := by rw [hM5, mP_setP, fu_row _ _ hrwh]; exact g4
            have hfr25 : FrK p bd rw mk2 1 M2 M5 := ((n4 mk2 0).trans g3 (Nat.le_refl _) (Nat.le_refl _)).trans (w2 mk2 0 (Nat.le_refl _)) (Nat.le_refl _) (Nat.le_refl _)
            have hfr5 : FrK p bd rw mk (mk2 - mk + 1) M M5 := ((u4 mk 0).trans t4 (Nat.le_refl _) (Nat.le_refl _)).trans hfr25 (by omega) (by omega)
            have hA' := hA2 sv0 d i3 qn (mk2 + 1) (D + 20) M5 (by omega) (by rw [n3]; omega) w1 (by omega)
            rw [n3] at hA'
            rw [g1, rzC_l, rzP_s, rzD_s, if_pos v1, rzM_e, ← hM5, if_pos w1.1.1, hQf.1 hc]
            cases hsub2 : pS k 2 sv0 d b y.2.tail with
            | none => exact ⟨fun _ => (thrg_c (hA'.1 hsub2)).at hfr5 (by omega) (by omega), fun y q => (by cases q)⟩
            | some z =>
              rw [Option.bind_some]
              have hzl := (pS_len k 2 sv0 d b _ z hsub2).1
              rcases hA'.2 z hsub2 with ⟨M6, r2, i6, mk6, G, s1, s2, s3, s4, s5, s6, s7, s8, s9⟩ | ⟨hb1, hb2⟩
              · have hm6 : mk6 ≤ 120 := s2.2.2.2.2.2.2.1.2.2.1
                have hfr26 : FrK p bd rw mk2 (mk6 - mk2) M2 M6 := hfr25.trans s4 (by omega) (by omega)
                have kF : AgZ F2 M2 M6 := frk_keep t2.2.2.2.2.1 t2.kinds hm2 t6 hfr26
                have kw : AgZ (fS1 wh) M5 M6 := frk_keep w1.2.2.2.2.1 w1.kinds (by omega) (fps_1 g4') s4
                obtain ⟨x1, x2, x3, x4⟩ := kw wh rfl
                have t6' : FpS rw M6 mk mk2 F2 := fps_mono t6 hfr26
                obtain ⟨jl, j1, j2, j3⟩ := t6' l t7
                have g4'' : mP M6 rw mk2 = some wh := s4.2.2.2.2.1 mk2 wh g4'
                have hF2w : ¬ F2 wh := fun q => by
                  obtain ⟨j, e1, e2, e3⟩ := t6' wh q
                  have := s2.2.2.2.2.1.2 j mk2 wh (by omega) (by omega) e3 g4''
                  omega
                have hGw : ¬ G wh := fun q => by
                  obtain ⟨j, e1, e2, e3⟩ := s6 wh q
                  have := s2.2.2.2.2.1.2 j mk2 wh (by omega) (by omega) e3 g4''
                  omega
                have hdis : ∀ x, F2 x → ¬ G x := fps_dis s2.2.2.2.2.1 t6' s6 (Or.inl (by omega)) hm2 hm6
                have hwl : wh ≠ l := fun q => hF2w (q ▸ t7)
                obtain ⟨y1, y2⟩ := nd_setP (f := 4) s2 (show jl < mk6 by omega) j3 (some r2)
                obtain ⟨M7, hM7⟩ : ∃ M7, M7 = setP M6 l 4 (some r2) := ⟨_, rfl⟩
                rw [← hM7] at y1 y2
                have hlk : mK M6 l = 4 := (s2.2.2.2.2.1.1 jl l (by omega) j3).1
                have hfr7 : FrK p bd rw mk (mk6 - mk) M M7 := (hfr5.trans s4 (by omega) (Nat.le_refl _)).trans (y2 mk 0 j1) (Nat.le_refl _) (by omega)
                rw [s1, rzC_l, rzP_s, rzD_s, if_pos hlk, rzM_e, ← hM7, if_pos y1.1.1]
                obtain ⟨M8, i8, q1, q2, q3, q4⟩ := x_take (n := n) (d := D + 17) y1 (c := 93) (by decide) (x := 93) rfl
                have q1 : mR n (D + 20) 31 [.ref p, .int 93] M7 = _ := q1
                rw [s3] at q1 q3
                rw [q1, rzC_l, rzI_e]
                by_cases h93 : z.2.headD 0 = 93
                · rw [if_pos h93] at q3
                  have hcx : cx 93 (Qf z.1, z.2) = some (Qf z.1, z.2.tail) := by
                    unfold cx
                    cases hy2 : z.2 with
                    | nil => rw [hy2] at h93; exact absurd h93 (by decide)
                    | cons t r2 => rw [hy2] at h93; have h93 : t = 93 := h93; simp [h93]
                  have htl : z.2.tail.length + 1 = z.2.length := by
                    cases hy2 : z.2 with
                    | nil => rw [hy2] at h93; exact absurd h93 (by decide)
                    | cons t r2 => rfl
                  rw [decide_eq_true h93, show b2i true = 1 from rfl, x_insist1, rzC_l, rzV_e, hcx]
                  refine ⟨fun q => (by cases q), fun y' q => ?_⟩
                  cases q
                  have hnl : ∀ x, x ≠ l → mP M7 x = mP M6 x := fun x hx => by rw [hM7, mP_setP, fu_row _ _ hx]
                  have hI7 : mI M7 = mI M6 := by rw [hM7]; rfl
                  have hK7 : mK M7 = mK M6 := by rw [hM7]; rfl
                  -- all pieces at the end
                  have hall : FpS rw M7 mk mk6 (fU (fS1 wh) (fU F2 G)) := fps_mono (fps_u (fps_wid (fps_1 g4'') (by omega) (by omega)) (fps_u (fps_wid t6' (Nat.le_refl _) (by omega)) (fps_wid s6 (by omega) (Nat.le_refl _)))) (y2 mk 0 j1)
                  have k78 : AgZ (fU (fS1 wh) (fU F2 G)) M7 M8 := frk_keep y1.2.2.2.2.1 y1.kinds hm6 hall (q4 mk6 0)
                  have agF : AgN F2 l M2 M8 := fun c hc => by
                    obtain ⟨e1, e2, e3, e4⟩ := kF c hc
                    obtain ⟨f1', f2', f3', f4'⟩ := k78 c (Or.inr (Or.inl hc))
                    refine ⟨f1'.trans (by rw [hK7]; exact e1), f2'.trans (by rw [hI7]; exact e2), f3'.trans ?_, fun hcl => f4'.trans (by rw [hnl c hcl]; exact e4)⟩
                    by_cases hcl : c = l
                    · rw [hcl, hM7, mP_setP, fu_ne _ _ (fun q => (by cases q.2)), ← hcl]; exact e3
                    · rw [hnl c hcl]; exact e3
                  have agG : AgN G r2 M6 M8 := fun c hc => by
                    have hcl : c ≠ l := fun q => hdis l t7 (q ▸ hc)
                    obtain ⟨f1', f2', f3', f4'⟩ := k78 c (Or.inr (Or.inr hc))
                    exact ⟨f1'.trans (by rw [hK7]), f2'.trans (by rw [hI7]), f3'.trans (by rw [hnl c hcl]), fun _ => f4'.trans (by rw [hnl c hcl])⟩
                  obtain ⟨z1, z2, z3, z4⟩ := k78 wh (Or.inl rfl)
                  obtain ⟨-, -, -, l4⟩ := k78 l (Or.inr (Or.inl t7))
                  have hkw : mK M8 wh = 4 := z1.trans (by rw [hK7]; exact x1.trans (by rw [hM5]; exact v1))
                  have hsw : mI M8 wh 0 = nI sn := by rw [z2, hI7, x2, hM5]; exact v2
                  have hfw : mP M8 wh 3 = some l := z3.trans (by rw [hnl wh hwl, x3, hM5, mP_setP, fu_eq])
                  have hnw : mP M8 wh 4 = none := z4.trans (by rw [hnl wh hwl, x4, hM5, mP_setP, fu_ne _ _ (fun q => (by cases q.2))]; exact v6)
                  have hll : mP M8 l 4 = some r2 := l4.trans (by rw [hM7, mP_setP, fu_eq])
                  refine Or.inl ⟨M8, wh, i8, mk6, fU (fS1 wh) (fU F2 G), rfl, q2, q3, hfr7.trans (q4 mk 0) (Nat.le_refl _) (by omega), ⟨by omega, ?_⟩, fps_mono hall (q4 mk 0), Or.inl rfl, hnw, ?_, ⟨sn, hsw, by omega, by omega, by omega⟩⟩
                  · have e1 := t5.2
                    have e2 := s5.2
                    simp only
                    omega
                  · have hev := f_sets (n := n) (W := W) (V := V) (b := b) lt hkw (by rw [hsw, hsn]; cases lt <;> rfl) hfw (t9.fr agF) (s9.fr agG) hll hF2w hGw
                    have hQe : (Qf z.1).2 = fun sz e => if lt then decide (y.1.2 sz e &&& hnot (z.1.2 sz e) = 0) else decide (y.1.2 sz e = z.1.2 sz e) := by
                      funext sz e
                      rw [hlt]
                      by_cases c60 : y.2.headD 0 = 60
                      · rw [decide_eq_true c60]; exact hQf.2.1 c60 z.1 sz e
                      · rw [decide_eq_false c60]; exact hQf.2.2 (hc.resolve_left c60) z.1 sz e
                    show EvF n (eSd d + 6) W V _ M8 b wh (Qf z.1).2
                    rw [hQe]
                    exact hev
                · have hcx : cx 93 (Qf z.1, z.2) = none := by
                    unfold cx
                    cases hy2 : z.2 with
                    | nil => rfl
                    | cons t r2 => rw [hy2] at h93; have h93 : ¬ t = 93 := h93; simp [h93]
                  rw [decide_eq_false h93, show b2i false = 0 from rfl, hcx]
                  refine ⟨fun _ => ?_, fun y' q => (by cases q)⟩
                  have hth := x_insist0 (n := n) (d := D + 19) (by omega) q2
                  exact (thr_g (thr_c hth) (Nat.le_refl _) (Nat.le_refl _)).at (hfr7.trans (q4 mk 0) (Nat.le_refl _) (Nat.le_refl _)) (by omega) (by omega)
              · refine ⟨fun _ => (thrg_c hb2).at hfr5 (by omega) (by omega), fun y' q => Or.inr ⟨?_, (thrg_c hb2).at hfr5 (by omega) (by omega)⟩⟩
                have := cx_len q
                simp only at this
                omega
          · have hmt := x_make_t (n := n) (d := D + 18) (by omega) n2 hmk2 (nI sn)
            have hmt : Thr p bd rw mk2 M3 (mR n (D + 20) 20 [.ref p, .int (nI sn)] M3) := hmt
            refine ⟨fun _ => (thr_g (thr_c hmt) (Nat.le_refl _) (Nat.le_refl _)).at hfr3 t5.1 (by omega), fun y' q => Or.inr ⟨?_, (thr_g (thr_c hmt) (Nat.le_refl _) (Nat.le_refl _)).at hfr3 t5.1 (by omega)⟩⟩
            have := hQl y' q
            have := t5.2
            omega
        rcases hc with c60 | c61
        · rw [if_pos ((hx 60 (by decide) 60 rfl).mpr c60)]
          simp only [fP_comparisonOfSets_34, fP_comparisonOfSets_39, ii3, rzC_l, rzV_e]
          rw [if_pos ((hx 60 (by decide) 60 rfl).mpr c60)]
          refine hgo _ ?_
          rw [hsn, hlt, decide_eq_true c60]
          rfl
        · have c60 : ¬ y.2.headD 0 = 60 := by omega
          rw [if_neg (fun q => c60 ((hx 60 (by decide) 60 rfl).mp q)), if_pos ((hx 61 (by decide) 61 rfl).mpr c61)]
          simp only [fP_comparisonOfSets_34, fP_comparisonOfSets_39, ii3, rzC_l, rzV_e]
          rw [if_neg (fun q => c60 ((hx 60 (by decide) 60 rfl).mp q))]
          refine hgo _ ?_
          rw [hsn, hlt, decide_eq_false c60]
          rfl
      · rw [if_neg (fun q => hc (Or.inl ((hx 60 (by decide) 60 rfl).mp q))), if_neg (fun q => hc (Or.inr ((hx 61 (by decide) 61 rfl).mp q))), hQn hc]
        refine ⟨fun _ => ?_, fun y' q => (by cases q)⟩
        have hth := x_insist0 (n := n) (d := D + 19) (by omega) n2
        rw [fP_comparisonOfSets_39]
        exact (thr_g (thr_c hth) (Nat.le_refl _) (Nat.le_refl _)).at hfr3 t5.1 (by omega)
    · refine ⟨fun _ => (thrg_c hb2).at (u4 mk 0) (Nat.le_refl _) (by omega), fun y' q => Or.inr ⟨?_, (thrg_c hb2).at (u4 mk 0) (Nat.le_refl _) (by omega)⟩⟩
      have := hQl y' q
      omega
end PCs
