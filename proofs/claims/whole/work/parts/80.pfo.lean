/-! the parser: formulas -/
section PFo
variable {p sg bd rw : Nat} {M : Mem} {T : List Nat} {i qn mk : Nat} {b : Bd}
theorem pa_qn (h : PaS p sg bd rw M T i qn mk b) {q' : Nat} (hq' : q' ≤ 5) : PaS p sg bd rw (setI M p 3 (nI q')) T i q' mk b ∧ ∀ k0 k, FrK p bd rw k0 k M (setI M p 3 (nI q')) := by
  obtain ⟨⟨k1, k2, k3, k4, k5, k6, k7, k8, k9, k10⟩, ⟨c1, c2, c3, c4⟩, hs, hb, hr, hf, ⟨hi, hT, hm, hq⟩, hsz, hro, hx⟩ := h
  have hsp : sg ≠ p := fun q => by rw [q, k1] at k3; exact absurd k3 (by decide)
  have hbp : bd ≠ p := fun q => by rw [q, k1] at k6; exact absurd k6 (by decide)
  refine ⟨⟨⟨k1, k2, k3, k4, k5, k6, k7, k8, k9, k10⟩, ⟨?_, ?_, ?_, ?_⟩, fun j x hj => ?_, fun v hv => ?_, hr, hf, ⟨hi, hT, hm, hq'⟩, hsz, hro, hx⟩, fun k0 k => ⟨fun _ _ => ⟨rfl, rfl⟩, fun c hc hp _ _ _ => ⟨?_, rfl, rfl⟩, ⟨rfl, Nat.le_refl _, ?_, ?_⟩, ⟨rfl, ?_⟩, fun _ _ q => q, fun _ _ _ q => Or.inl q⟩⟩
  · rw [mI_setI, fu_ne _ _ (by omega)]; exact c1
  · rw [mI_setI, fu_ne _ _ (by omega)]; exact c2
  · rw [mI_setI, fu_eq]
  · rw [mI_setI, fu_ne _ _ (by omega)]; exact c4
  · rw [mI_setI, fu_row _ _ hsp]; exact hs j x hj
  · rw [mI_setI, fu_row _ _ hbp]; exact hb v hv
  · rw [mI_setI, fu_row _ _ hp]
  · show mS M ≤ mS M + k; omega
  · show mU M ≤ mU M + 6 * k; omega
  · rw [mI_setI, fu_ne _ _ (by omega)]
theorem pa_bd (h : PaS p sg bd rw M T i qn mk b) {v : Nat} (hv6 : v < 6) {x : Int32} {b' : Bd} (hb' : x = b2i (b' v).isSome) (hbo : ∀ v', v' ≠ v → (b' v').isSome = (b v').isSome) : PaS p sg bd rw (setI M bd v x) T i qn mk b' ∧ ∀ k0 k, FrK p bd rw k0 k M (setI M bd v x) := by
  obtain ⟨⟨k1, k2, k3, k4, k5, k6, k7, k8, k9, k10⟩, ⟨c1, c2, c3, c4⟩, hs, hb, hr, hf, ⟨hi, hT, hm, hq⟩, hsz, hro, hx⟩ := h
  have hsb : sg ≠ bd := fun q => by rw [q, k6] at k3; exact absurd k3 (by decide)
  have hpb : p ≠ bd := fun q => by rw [q, k6] at k1; exact absurd k1 (by decide)
  refine ⟨⟨⟨k1, k2, k3, k4, k5, k6, k7, k8, k9, k10⟩, ⟨?_, ?_, ?_, ?_⟩, fun j x hj => ?_, fun v' hv' => ?_, hr, hf, ⟨hi, hT, hm, hq⟩, hsz, hro, hx⟩, fun k0 k => ⟨fun _ _ => ⟨rfl, rfl⟩, fun c hc _ hcb _ _ => ⟨?_, rfl, rfl⟩, ⟨rfl, Nat.le_refl _, ?_, ?_⟩, ⟨rfl, ?_⟩, fun _ _ q => q, fun _ _ _ q => Or.inl q⟩⟩
  · rw [mI_setI, fu_row _ _ hpb]; exact c1
  · rw [mI_setI, fu_row _ _ hpb]; exact c2
  · rw [mI_setI, fu_row _ _ hpb]; exact c3
  · rw [mI_setI, fu_row _ _ hpb]; exact c4
  · rw [mI_setI, fu_row _ _ hsb]; exact hs j x hj
  · rw [mI_setI]
    by_cases hvv : v' = v
    · rw [hvv, fu_eq]; exact hb'
    · rw [fu_ne _ _ (fun q => hvv q.2), hbo v' hvv]; exact hb v' hv'
  · rw [mI_setI, fu_row _ _ hcb]
  · show mS M ≤ mS M + k; omega
  · show mU M ≤ mU M + 6 * k; omega
  · rw [mI_setI, fu_row _ _ hpb]
end PFo
section PFd
variable (n W V p sg bd rw : Nat) (T : List Nat)
def C0 (k : Nat) : Prop := ∀ (acc : FvT) (d i mk D : Nat) (b : Bd) (M : Mem), d ≤ 13 → 3 * (T.drop i).length + 1 ≤ k → PaS p sg bd rw M T i acc.2.length mk b → (∀ v q, b v = some q → q < acc.2.length) → acc.2.length ≤ 4 → hFo d ≤ D → SpG p sg bd rw mk M T mk b (T.drop i) (pF k 0 acc d b (T.drop i)) (fun y => y.2.length) (RF n (eFd d) W V b) (mR n D 15 [.ref p, .int (nI d)] M)
def C1 (k : Nat) : Prop := ∀ (acc : FvT) (d i mk D : Nat) (b : Bd) (M : Mem), d ≤ 13 → 3 * (T.drop i).length + 2 ≤ k → PaS p sg bd rw M T i acc.2.length mk b → (∀ v q, b v = some q → q < acc.2.length) → acc.2.length ≤ 4 → hFo d + 2 ≤ D → SpG p sg bd rw mk M T mk b (T.drop i) (pF k 1 acc d b (T.drop i)) (fun y => y.2.length) (RF n (eFd d + 2) W V b) (mR n D 13 [.ref p, .int 38, .int (nI d)] M)
def C2 (k : Nat) : Prop := ∀ (acc : FvT) (d i mk D : Nat) (b : Bd) (M : Mem), d ≤ 13 → 3 * (T.drop i).length + 3 ≤ k → PaS p sg bd rw M T i acc.2.length mk b → (∀ v q, b v = some q → q < acc.2.length) → acc.2.length ≤ 4 → hFo d + 4 ≤ D → SpG p sg bd rw mk M T mk b (T.drop i) (pF k 2 acc d b (T.drop i)) (fun y => y.2.length) (RF n (eFd d + 4) W V b) (mR n D 13 [.ref p, .int 124, .int (nI d)] M)
def E3 (k : Nat) : Prop := ∀ (acc : FvT) (d i mk D D0 : Nat) (b : Bd) (M : Mem) (mk0 jw wh a1 jz z mo w : Nat) (F : Nat → Prop), d ≤ 13 → 3 * (T.drop i).length + 1 ≤ k → LpS 38 p sg bd rw M T i acc.2.length mk b mk0 jw wh a1 jz z → (∀ v q, b v = some q → q < acc.2.length) → acc.2.length ≤ 4 → FpS rw M mk0 mk F → ¬ F wh → F z → SgF n (eFd d) W V F M b false a1 z (mo + 1) acc.1.2.1 → (acc.1.2.2 = none ∨ (T.drop i).headD 0 = 38) → mo ≤ i → 122 ≤ w + mo → hFo d + 1 ≤ D →
  SpG p sg bd rw mk0 M T mk b (tlc 38 (T.drop i)) (pF k 3 acc d b (T.drop i)) (fun y => y.2.length) (RF n (eFd d + 2) W V b) (fP_row_36 n D0 (mR n D) w p 38 (nI d) (some wh) (some z) (nI mo) M)
def E4 (k : Nat) : Prop := ∀ (acc : FvT) (d i mk D D0 : Nat) (b : Bd) (M : Mem) (mk0 jw wh a1 jz z mo w : Nat) (F : Nat → Prop), d ≤ 13 → 3 * (T.drop i).length + 1 ≤ k → LpS 124 p sg bd rw M T i acc.2.length mk b mk0 jw wh a1 jz z → (∀ v q, b v = some q → q < acc.2.length) → acc.2.length ≤ 4 → FpS rw M mk0 mk F → ¬ F wh → F z → SgF n (eFd d + 2) W V F M b true a1 z (mo + 1) acc.1.2.1 → (acc.1.2.2 = none ∨ (T.drop i).headD 0 = 124) → mo ≤ i → 122 ≤ w + mo → hFo d + 3 ≤ D →
  SpG p sg bd rw mk0 M T mk b (tlc 124 (T.drop i)) (pF k 4 acc d b (T.drop i)) (fun y => y.2.length) (RF n (eFd d + 4) W V b) (fP_row_36 n D0 (mR n D) w p 124 (nI d) (some wh) (some z) (nI mo) M)
end PFd
section PFr
variable {n W V p sg bd rw : Nat} {T : List Nat}
theorem kdr_mono {H H' : Nat} {F : Nat → Prop} {M : Mem} {b : Bd} {a : Nat} {y : FvT} (h : KdR n H W V F M b a y) (hh : H ≤ H') : KdR n H' W V F M b a y := by
  refine ⟨h.1, fun isA isSet i q B hk => ?_⟩
  obtain ⟨e1, e2, e3, e4, a1, F1, e5, e6, e7, e8⟩ := h.2 isA isSet i q B hk
  exact ⟨e1, e2, e3, e4, a1, F1, e5, e6, e7, e8.mono hh⟩
theorem item38 {D : Nat} {M : Mem} (hp : mK M p = 2) (dd : Int32) : mR n (D + 1) 14 [.ref p, .int 38, .int dd] M = rzC (mR n D 15 [.ref p, .int dd] M) fun v M => rzP v fun r => some (.inl (some (va_rf r)), M) := by
  rw [eP_item, fP_item_0, if_pos rfl, hp, if_pos rfl]
theorem item124 {D : Nat} {M : Mem} (hp : mK M p = 2) (dd : Int32) : mR n (D + 1) 14 [.ref p, .int 124, .int dd] M = rzC (mR n D 13 [.ref p, .int 38, .int dd] M) fun v M => rzP v fun r => some (.inl (some (va_rf r)), M) := by
  rw [eP_item, fP_item_0, if_neg (by decide), if_neg (by decide), if_pos rfl, hp, if_pos rfl]
theorem pF3_end {k d : Nat} {b : Bd} {acc : FvT} {ts : List Nat} (h : ¬ ts.headD 0 = 38) : pF (k + 1) 3 acc d b ts = some (acc, ts) := by
  cases ts with
  | nil => rfl
  | cons c r =>
    have h : ¬ c = 38 := h
    conv => lhs; unfold pF
    simp [h]
theorem pF3_go {k d : Nat} {b : Bd} {acc : FvT} {r : List Nat} : pF (k + 1) 3 acc d b (38 :: r) = (pF k 0 acc d b r).bind fun y => pF k 3 ((acc.1.1 ++ y.1.1.1 ++ [(2, 0)], fun n e => acc.1.2.1 n e && y.1.1.2.1 n e, none), y.1.2) d b y.2 := by
  conv => lhs; unfold pF
  rfl
theorem pF4_end {k d : Nat} {b : Bd} {acc : FvT} {ts : List Nat} (h : ¬ ts.headD 0 = 124) : pF (k + 1) 4 acc d b ts = some (acc, ts) := by
  cases ts with
  | nil => rfl
  | cons c r =>
    have h : ¬ c = 124 := h
    conv => lhs; unfold pF
    simp [h]
theorem pF4_go {k d : Nat} {b : Bd} {acc : FvT} {r : List Nat} : pF (k + 1) 4 acc d b (124 :: r) = (pF k 1 acc d b r).bind fun y => pF k 4 ((acc.1.1 ++ y.1.1.1 ++ [(1, 0)], fun n e => acc.1.2.1 n e || y.1.1.2.1 n e, none), y.1.2) d b y.2 := by
  conv => lhs; unfold pF
  rfl
theorem par_E3 (hn : 200 ≤ n) {k : Nat} (h0 : C0 n W V p sg bd rw T k) (h3 : E3 n W V p sg bd rw T k) : E3 n W V p sg bd rw T (k + 1) := by
  intro acc d i mk D D0 b M mk0 jw wh a1 jz z mo w F hd hk hL hbq hq4 hF hFw hFz hSg hkn hmo hw hD
  obtain ⟨D, rfl⟩ : ∃ D', D = D' + 20 := ⟨D - 20, by unfold hFo at hD; omega⟩
  have hiT : i ≤ T.length := hL.1.2.2.2.2.2.2.1.1
  have hT : T.length ≤ 120 := hL.1.2.2.2.2.2.2.1.2.1
  obtain ⟨w, rfl⟩ : ∃ w', w = w' + 1 := ⟨w - 1, by omega⟩
  by_cases he : (T.drop i).headD 0 = 38
  · have hcons := hd_cons (by decide) he
    have hmo2 : mo < 120 := by
      have : 0 < (T.drop i).length := by rw [hcons]; exact Nat.zero_lt_succ _
      rw [List.length_drop] at this
      omega
    obtain ⟨M1, i1, t1, t2, t3, t4, t5⟩ := row_next (n := n) (D := D0) (d := D + 17) (w := w) (by decide) (x := 38) rfl hL hmo2 he (nI d)
    have hr : (T.drop i).length = (T.drop i1).length + 1 := by rw [t2]; exact congrArg List.length hcons
    have hg : pF (k + 1) 3 acc d b (T.drop i) = _ := (congrArg (pF (k + 1) 3 acc d b) hcons).trans pF3_go
    rw [← t2] at hg
    rw [hg, show tlc 38 (T.drop i) = T.drop i1 from by rw [t2]; exact if_pos he]
    have hA := itm (h0 acc d i1 mk (D + 19) b M1 hd (by omega) t1 hbq hq4 (by omega))
    rw [← item38 t1.1.1] at hA
    cases hsub : pF k 0 acc d b (T.drop i1) with
    | none =>
      refine ⟨fun _ => ?_, fun y q => (by cases q)⟩
      exact (t4 mk _ (hA.1 hsub)).at (frk_refl (k := 0)) (by have := hL.2.1; omega) (by omega)
    | some y =>
      have hyl := (pF_len k 0 acc d b _ y hsub).2.1 (by decide)
      obtain ⟨hlp1, hlp2⟩ := pF_lp k 0 acc d b _ y hsub
      rw [Option.bind_some]
      rcases hA.2 y hsub with ⟨M2, a2, i2, mk2, G, g1, g2, g3, g4, g5, g6, g7, g8, g9⟩ | ⟨hb1, hb2⟩
      · have hfr : FrK p bd rw mk (mk2 - mk) M M2 := (t3 mk 0).trans g4 (Nat.le_refl _) (by omega)
        obtain ⟨M3, hM3⟩ : ∃ M3, M3 = setP M2 z 4 (some a2) := ⟨_, rfl⟩
        obtain ⟨jz', r1, r2, r3, r4, r5, r6, r7, r8, r9⟩ := row_iter hL hF hFw hFz hfr g2 g5.1 g6 g7 g8 hM3
        rw [t5 M2 a2 g1 r8, ← hM3, ← g3]
        have hB := h3 ((acc.1.1 ++ y.1.1.1 ++ [(2, 0)], fun n e => acc.1.2.1 n e && y.1.1.2.1 n e, none), y.1.2) d i2 mk2 (D + 20) D0 b M3 mk0 jw wh a1 jz' a2 (mo + 1) w (fU F G) hd (by rw [g3]; omega) r1 (fun v q hv => Nat.lt_of_lt_of_le (hbq v q hv) hlp1) (hlp2 hq4) r5 r6 (Or.inr g7) (sgf_app hSg r2 (g9.1.fr r3) r4 r9 (fun sz e => by show (acc.1.2.1 sz e && y.1.1.2.1 sz e) = false ↔ (acc.1.2.1 sz e = false ∨ y.1.1.2.1 sz e = false); cases acc.1.2.1 sz e <;> cases y.1.1.2.1 sz e <;> simp)) (Or.inl rfl) (by
          have hi2 : i2 ≤ T.length := g2.2.2.2.2.2.2.1.1
          have := congrArg List.length g3
          rw [List.length_drop] at this hr
          rw [List.length_drop] at hyl hr
          omega) (by omega) (by omega)
        exact hB.tr r7 g5.1 (Nat.le_refl _) g2.2.2.2.2.2.2.1.2.2.1 (by have := tlc_le 38 (T.drop i2); rw [g3] at this ⊢; omega)
      · have hth := (t4 mk _ hb2).at (frk_refl (k := 0)) (base := mk0) (k2 := 121 - mk) (by have := hL.2.1; omega) (by omega)
        refine ⟨fun _ => hth, fun y' q => Or.inr ⟨?_, hth⟩⟩
        have := (pF_len k 3 _ d b _ y' q).1
        omega
  · rw [pF3_end he, show tlc 38 (T.drop i) = T.drop i from if_neg he, row_end (n := n) (D := D0) (d := D + 17) (by decide) (x := 38) rfl hL (by omega) he (nI d)]
    refine ⟨fun q => (by cases q), fun y q => ?_⟩
    cases q
    obtain ⟨hP, ⟨w1, w2, w3⟩, ⟨z1, z2, z3, z4⟩, ⟨u1, u2, u3, u4⟩, hz⟩ := hL
    refine Or.inl ⟨M, wh, i, mk, fU (fS1 wh) F, rfl, hP, rfl, frk_refl, ⟨Nat.le_refl _, Nat.le_refl _⟩, fps_u (fps_wid (fps_1 w1) w2 (by omega)) hF, Or.inl rfl, u4, f_row false u1 u2 u3 hSg agn_refl hFw hz (by omega), fun _ => ⟨38, u2, by decide, by decide, by decide⟩, fun isA isSet i' q B hk' => ?_⟩
    rw [hkn.resolve_right he] at hk'
    cases hk'
theorem par_C1 (hn : 200 ≤ n) {k : Nat} (h0 : C0 n W V p sg bd rw T k) (h3 : E3 n W V p sg bd rw T k) : C1 n W V p sg bd rw T (k + 1) := by
  intro acc d i mk D b M hd hk hP hbq hq4 hD
  obtain ⟨D, rfl⟩ : ∃ D', D = D' + 20 := ⟨D - 20, by unfold hFo at hD; omega⟩
  have hg : pF (k + 1) 1 acc d b (T.drop i) = (pF k 0 acc d b (T.drop i)).bind fun y => pF k 3 y.1 d b y.2 := by
    conv => lhs; unfold pF
    rfl
  rw [hg]
  have hA := itm (h0 acc d i mk (D + 18) b M hd (by omega) hP hbq hq4 (by omega))
  rw [← item38 hP.1.1] at hA
  have hA : SpG p sg bd rw mk M T mk b (T.drop i) _ _ _ (mR n (D + 16 + 3) 14 [.ref p, .int 38, .int (nI d)] M) := hA
  cases hsub : pF k 0 acc d b (T.drop i) with
  | none =>
    refine ⟨fun _ => ?_, fun y q => (by cases q)⟩
    exact row_thr hP.1.1 (hA.1 hsub)
  | some y =>
    have hyl := (pF_len k 0 acc d b _ y hsub).2.1 (by decide)
    obtain ⟨hlp1, hlp2⟩ := pF_lp k 0 acc d b _ y hsub
    rw [Option.bind_some]
    obtain ⟨k, rfl⟩ : ∃ k', k = k' + 1 := ⟨k - 1, by omega⟩
    rcases hA.2 y hsub with ⟨M1, a, i1, mk1, F, g1, g2, g3, g4, g5, g6, g7, g8, g9⟩ | ⟨hb1, hb2⟩
    · have hm1 : mk1 ≤ 120 := g2.2.2.2.2.2.2.1.2.2.1
      by_cases he : (T.drop i1).headD 0 = 38
      · by_cases hmk1 : mk1 < 120
        · obtain ⟨M3, wh, jz, r1, r2, r3, r4, r5, r6⟩ := row_more (n := n) (d := D + 16) (by decide) (x := 38) rfl hP.1.1 g1 g2 g5.1 g6 g7 g8 he hmk1
          have hB := h3 y.1 d i1 (mk1 + 1) (D + 19) (D + 19) b M3 mk mk1 wh a jz a 0 n F hd (by rw [g3]; omega) r2 (fun v q hv => Nat.lt_of_lt_of_le (hbq v q hv) hlp1) (hlp2 hq4) r4 r5 g7 (sgf_1 false (g9.1.fr r3)) (Or.inr he) (Nat.zero_le _) (by omega) (by omega)
          have r1 : mR n (D + 20) 13 [.ref p, .int 38, .int (nI d)] M = fP_row_36 n (D + 19) (mR n (D + 19)) n p 38 (nI d) (some wh) (some a) (nI 0) M3 := r1
          have htl := tlc_lt (c := 38) (by decide) he
          rw [g3] at hB htl
          rw [r1]
          exact hB.tr (g4.trans r6 (Nat.le_refl _) (Nat.le_refl _)) (by omega) (by omega) (by omega) (by omega)
        · have hth := (thr_g (row_big (n := n) (d := D + 16) (by decide) (x := 38) rfl (by omega) hP.1.1 g1 g2 he hmk1) (Nat.le_refl _) (Nat.le_refl _)).at g4 g5.1 (k2 := 121 - mk) (by omega)
          refine ⟨fun _ => hth, fun y' q => Or.inr ⟨?_, hth⟩⟩
          have hcons := hd_cons (by decide) he
          rw [g3] at hcons
          rw [hcons, pF3_go] at q
          obtain ⟨y2, e1, e2⟩ := Option.bind_eq_some_iff.mp q
          have l1 := (pF_len k 0 y.1 d b _ y2 e1).2.1 (by decide)
          have l2 := (pF_len k 3 _ d b _ y' e2).1
          have l3 := congrArg List.length hcons
          simp only [List.length_cons] at l3
          omega
      · have hr := row_one (n := n) (d := D + 16) (by decide) (x := 38) rfl hP.1.1 g1 g2 he
        have hr : mR n (D + 20) 13 [.ref p, .int 38, .int (nI d)] M = some (.inl (some (.ref a)), M1) := hr
        rw [hr, pF3_end (by rw [← g3]; exact he)]
        refine ⟨fun q => (by cases q), fun y' q => ?_⟩
        cases q
        exact Or.inl ⟨M1, a, i1, mk1, F, rfl, g2, g3, g4, g5, g6, g7, g8, g9.1.mono (by omega), kdr_mono g9.2 (by omega)⟩
    · have hth := row_thr (n := n) (d := D + 16) hP.1.1 hb2
      refine ⟨fun _ => hth, fun y' q => Or.inr ⟨?_, hth⟩⟩
      have := (pF_len _ 3 _ d b _ y' q).1
      omega
theorem par_E4 (hn : 200 ≤ n) {k : Nat} (h0 : C1 n W V p sg bd rw T k) (h3 : E4 n W V p sg bd rw T k) : E4 n W V p sg bd rw T (k + 1) := by
  intro acc d i mk D D0 b M mk0 jw wh a1 jz z mo w F hd hk hL hbq hq4 hF hFw hFz hSg hkn hmo hw hD
  obtain ⟨D, rfl⟩ : ∃ D', D = D' + 20 := ⟨D - 20, by unfold hFo at hD; omega⟩
  have hiT : i ≤ T.length := hL.1.2.2.2.2.2.2.1.1
  have hT : T.length ≤ 120 := hL.1.2.2.2.2.2.2.1.2.1
  obtain ⟨w, rfl⟩ : ∃ w', w = w' + 1 := ⟨w - 1, by omega⟩
  by_cases he : (T.drop i).headD 0 = 124
  · have hcons := hd_cons (by decide) he
    have hmo2 : mo < 120 := by
      have : 0 < (T.drop i).length := by rw [hcons]; exact Nat.zero_lt_succ _
      rw [List.length_drop] at this
      omega
    obtain ⟨M1, i1, t1, t2, t3, t4, t5⟩ := row_next (n := n) (D := D0) (d := D + 17) (w := w) (by decide) (x := 124) rfl hL hmo2 he (nI d)
    have hr : (T.drop i).length = (T.drop i1).length + 1 := by rw [t2]; exact congrArg List.length hcons
    have hg : pF (k + 1) 4 acc d b (T.drop i) = _ := (congrArg (pF (k + 1) 4 acc d b) hcons).trans pF4_go
    rw [← t2] at hg
    rw [hg, show tlc 124 (T.drop i) = T.drop i1 from by rw [t2]; exact if_pos he]
    have hA := itm (h0 acc d i1 mk (D + 19) b M1 hd (by omega) t1 hbq hq4 (by omega))
    rw [← item124 t1.1.1] at hA
    cases hsub : pF k 1 acc d b (T.drop i1) with
    | none =>
      refine ⟨fun _ => ?_, fun y q => (by cases q)⟩
      exact (t4 mk _ (hA.1 hsub)).at (frk_refl (k := 0)) (by have := hL.2.1; omega) (by omega)
    | some y =>
      have hyl := (pF_len k 1 acc d b _ y hsub).2.1 (by decide)
      obtain ⟨hlp1, hlp2⟩ := pF_lp k 1 acc d b _ y hsub
      rw [Option.bind_some]
      rcases hA.2 y hsub with ⟨M2, a2, i2, mk2, G, g1, g2, g3, g4, g5, g6, g7, g8, g9⟩ | ⟨hb1, hb2⟩
      · have hfr : FrK p bd rw mk (mk2 - mk) M M2 := (t3 mk 0).trans g4 (Nat.le_refl _) (by omega)
        obtain ⟨M3, hM3⟩ : ∃ M3, M3 = setP M2 z 4 (some a2) := ⟨_, rfl⟩
        obtain ⟨jz', r1, r2, r3, r4, r5, r6, r7, r8, r9⟩ := row_iter hL hF hFw hFz hfr g2 g5.1 g6 g7 g8 hM3
        rw [t5 M2 a2 g1 r8, ← hM3, ← g3]
        have hB := h3 ((acc.1.1 ++ y.1.1.1 ++ [(1, 0)], fun n e => acc.1.2.1 n e || y.1.1.2.1 n e, none), y.1.2) d i2 mk2 (D + 20) D0 b M3 mk0 jw wh a1 jz' a2 (mo + 1) w (fU F G) hd (by rw [g3]; omega) r1 (fun v q hv => Nat.lt_of_lt_of_le (hbq v q hv) hlp1) (hlp2 hq4) r5 r6 (Or.inr g7) (sgf_app hSg r2 (g9.1.fr r3) r4 r9 (fun sz e => by show (acc.1.2.1 sz e || y.1.1.2.1 sz e) = true ↔ (acc.1.2.1 sz e = true ∨ y.1.1.2.1 sz e = true); cases acc.1.2.1 sz e <;> cases y.1.1.2.1 sz e <;> simp)) (Or.inl rfl) (by
          have hi2 : i2 ≤ T.length := g2.2.2.2.2.2.2.1.1
          have := congrArg List.length g3
          rw [List.length_drop] at this hr
          rw [List.length_drop] at hyl hr
          omega) (by omega) (by omega)
        exact hB.tr r7 g5.1 (Nat.le_refl _) g2.2.2.2.2.2.2.1.2.2.1 (by have := tlc_le 124 (T.drop i2); rw [g3] at this ⊢; omega)
      · have hth := (t4 mk _ hb2).at (frk_refl (k := 0)) (base := mk0) (k2 := 121 - mk) (by have := hL.2.1; omega) (by omega)
        refine ⟨fun _ => hth, fun y' q => Or.inr ⟨?_, hth⟩⟩
        have := (pF_len k 4 _ d b _ y' q).1
        omega
  · rw [pF4_end he, show tlc 124 (T.drop i) = T.drop i from if_neg he, row_end (n := n) (D := D0) (d := D + 17) (by decide) (x := 124) rfl hL (by omega) he (nI d)]
    refine ⟨fun q => (by cases q), fun y q => ?_⟩
    cases q
    obtain ⟨hP, ⟨w1, w2, w3⟩, ⟨z1, z2, z3, z4⟩, ⟨u1, u2, u3, u4⟩, hz⟩ := hL
    refine Or.inl ⟨M, wh, i, mk, fU (fS1 wh) F, rfl, hP, rfl, frk_refl, ⟨Nat.le_refl _, Nat.le_refl _⟩, fps_u (fps_wid (fps_1 w1) w2 (by omega)) hF, Or.inl rfl, u4, f_row true u1 u2 u3 hSg agn_refl hFw hz (by omega), fun _ => ⟨124, u2, by decide, by decide, by decide⟩, fun isA isSet i' q B hk' => ?_⟩
    rw [hkn.resolve_right he] at hk'
    cases hk'
theorem par_C2 (hn : 200 ≤ n) {k : Nat} (h0 : C1 n W V p sg bd rw T k) (h3 : E4 n W V p sg bd rw T k) : C2 n W V p sg bd rw T (k + 1) := by
  intro acc d i mk D b M hd hk hP hbq hq4 hD
  obtain ⟨D, rfl⟩ : ∃ D', D = D' + 20 := ⟨D - 20, by unfold hFo at hD; omega⟩
  have hg : pF (k + 1) 2 acc d b (T.drop i) = (pF k 1 acc d b (T.drop i)).bind fun y => pF k 4 y.1 d b y.2 := by
    conv => lhs; unfold pF
    rfl
  rw [hg]
  have hA := itm (h0 acc d i mk (D + 18) b M hd (by omega) hP hbq hq4 (by omega))
  rw [← item124 hP.1.1] at hA
  have hA : SpG p sg bd rw mk M T mk b (T.drop i) _ _ _ (mR n (D + 16 + 3) 14 [.ref p, .int 124, .int (nI d)] M) := hA
  cases hsub : pF k 1 acc d b (T.drop i) with
  | none =>
    refine ⟨fun _ => ?_, fun y q => (by cases q)⟩
    exact row_thr hP.1.1 (hA.1 hsub)
  | some y =>
    have hyl := (pF_len k 1 acc d b _ y hsub).2.1 (by decide)
    obtain ⟨hlp1, hlp2⟩ := pF_lp k 1 acc d b _ y hsub
    rw [Option.bind_some]
    obtain ⟨k, rfl⟩ : ∃ k', k = k' + 1 := ⟨k - 1, by omega⟩
    rcases hA.2 y hsub with ⟨M1, a, i1, mk1, F, g1, g2, g3, g4, g5, g6, g7, g8, g9⟩ | ⟨hb1, hb2⟩
    · have hm1 : mk1 ≤ 120 := g2.2.2.2.2.2.2.1.2.2.1
      by_cases he : (T.drop i1).headD 0 = 124
      · by_cases hmk1 : mk1 < 120
        · obtain ⟨M3, wh, jz, r1, r2, r3, r4, r5, r6⟩ := row_more (n := n) (d := D + 16) (by decide) (x := 124) rfl hP.1.1 g1 g2 g5.1 g6 g7 g8 he hmk1
          have hB := h3 y.1 d i1 (mk1 + 1) (D + 19) (D + 19) b M3 mk mk1 wh a jz a 0 n F hd (by rw [g3]; omega) r2 (fun v q hv => Nat.lt_of_lt_of_le (hbq v q hv) hlp1) (hlp2 hq4) r4 r5 g7 (sgf_1 true (g9.1.fr r3)) (Or.inr he) (Nat.zero_le _) (by omega) (by omega)
          have r1 : mR n (D + 20) 13 [.ref p, .int 124, .int (nI d)] M = fP_row_36 n (D + 19) (mR n (D + 19)) n p 124 (nI d) (some wh) (some a) (nI 0) M3 := r1
          have htl := tlc_lt (c := 124) (by decide) he
          rw [g3] at hB htl
          rw [r1]
          exact hB.tr (g4.trans r6 (Nat.le_refl _) (Nat.le_refl _)) (by omega) (by omega) (by omega) (by omega)
        · have hth := (thr_g (row_big (n := n) (d := D + 16) (by decide) (x := 124) rfl (by omega) hP.1.1 g1 g2 he hmk1) (Nat.le_refl _) (Nat.le_refl _)).at g4 g5.1 (k2 := 121 - mk) (by omega)
          refine ⟨fun _ => hth, fun y' q => Or.inr ⟨?_, hth⟩⟩
          have hcons := hd_cons (by decide) he
          rw [g3] at hcons
          rw [hcons, pF4_go] at q
          obtain ⟨y2, e1, e2⟩ := Option.bind_eq_some_iff.mp q
          have l1 := (pF_len k 1 y.1 d b _ y2 e1).2.1 (by decide)
          have l2 := (pF_len k 4 _ d b _ y' e2).1
          have l3 := congrArg List.length hcons
          simp only [List.length_cons] at l3
          omega
      · have hr := row_one (n := n) (d := D + 16) (by decide) (x := 124) rfl hP.1.1 g1 g2 he
        have hr : mR n (D + 20) 13 [.ref p, .int 124, .int (nI d)] M = some (.inl (some (.ref a)), M1) := hr
        rw [hr, pF4_end (by rw [← g3]; exact he)]
        refine ⟨fun q => (by cases q), fun y' q => ?_⟩
        cases q
        exact Or.inl ⟨M1, a, i1, mk1, F, rfl, g2, g3, g4, g5, g6, g7, g8, g9.1.mono (by omega), kdr_mono g9.2 (by omega)⟩
    · have hth := row_thr (n := n) (d := D + 16) hP.1.1 hb2
      refine ⟨fun _ => hth, fun y' q => Or.inr ⟨?_, hth⟩⟩
      have := (pF_len _ 4 _ d b _ y' q).1
      omega
end PFr
