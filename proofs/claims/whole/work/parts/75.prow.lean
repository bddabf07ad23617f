/-! the parser: rows -/
section RowsG
variable {n D d p sg bd rw : Nat} {M : Mem} {T : List Nat} {i qn mk : Nat} {b : Bd}
theorem x_take_no (h : PaS p sg bd rw M T i qn mk b) {c : Nat} (hc : c < 1000) {x : Int32} (hx : x = nI c) (he : ¬ (T.drop i).headD 0 = c) : mR n (d + 3) 31 [.ref p, .int x] M = some (.inl (some (.int 0)), M) := by
  have hpk := x_peek (n := n) (d := d + 1) h
  have hq := cq (Nat.lt_trans (hd_lt h) (by decide)) c hc hx
  rw [eP_take]
  simp only [fP_take_0, fP_take_13, fP_take_23, h.1.1, if_true, hpk, rzC_l, rzI_e, if_neg (fun q => he (hq.mp q)), fbb0]
theorem x_take_yes (h : PaS p sg bd rw M T i qn mk b) {c : Nat} (hc : c < 1000) {x : Int32} (hx : x = nI c) (he : (T.drop i).headD 0 = c) : ∃ M' i', mR n (d + 3) 31 [.ref p, .int x] M = some (.inl (some (.int 1)), M') ∧ PaS p sg bd rw M' T i' qn mk b ∧ T.drop i' = (T.drop i).tail ∧ ∀ k0 k, FrK p bd rw k0 k M M' := by
  obtain ⟨M', i', e1, e2, e3, e4⟩ := x_take (n := n) (d := d) h hc hx
  rw [if_pos he] at e3
  rw [decide_eq_true he] at e1
  exact ⟨M', i', e1, e2, e3, e4⟩
/-- what is shown of a call further on -/
theorem SpG.tr {α : Type} {base mk2 k : Nat} {M3 : Mem} {ts ts2 : List Nat} {g : Option (α × List Nat)} {qf : α → Nat} {R : α → (Nat → Prop) → Mem → Nat → Prop} {res : Rz} (h : SpG p sg bd rw base M3 T mk2 b ts2 g qf R res) (hf : FrK p bd rw base k M M3) (hmk : mk ≤ mk2) (hk : k ≤ mk2 - mk) (hm2 : mk2 ≤ 120) (hlen : mk2 + ts2.length ≤ mk + ts.length) : SpG p sg bd rw base M T mk b ts g qf R res := by
  refine ⟨fun q => (h.1 q).at hf (Nat.le_refl _) (by omega), fun y q => ?_⟩
  rcases h.2 y q with ⟨M', a, i', mk', F, e1, e2, e3, e4, e5, e6⟩ | ⟨h1, h2⟩
  · exact Or.inl ⟨M', a, i', mk', F, e1, e2, e3, hf.trans e4 (Nat.le_refl _) (by omega), ⟨by omega, by omega⟩, e6⟩
  · exact Or.inr ⟨by omega, h2.at hf (Nat.le_refl _) (by omega)⟩
theorem SpG.base {α : Type} {base base' : Nat} {ts : List Nat} {g : Option (α × List Nat)} {qf : α → Nat} {R : α → (Nat → Prop) → Mem → Nat → Prop} {res : Rz} (h : SpG p sg bd rw base M T mk b ts g qf R res) (hb : base' ≤ base) : SpG p sg bd rw base' M T mk b ts g qf R res := by
  refine ⟨fun q => (h.1 q).at (frk_refl (k := 0)) hb (by omega), fun y q => ?_⟩
  rcases h.2 y q with ⟨M', a, i', mk', F, e1, e2, e3, e4, e5, e6, e7⟩ | ⟨h1, h2⟩
  · exact Or.inl ⟨M', a, i', mk', F, e1, e2, e3, e4.mono hb (Nat.le_refl _), e5, fps_wid e6 hb (Nat.le_refl _), e7⟩
  · exact Or.inr ⟨h1, h2.at (frk_refl (k := 0)) hb (by omega)⟩
/-- the loop of a row ends -/
theorem row_end {sgn mk0 jw wh a1 jz z mo w : Nat} (hsg : sgn < 1000) {x : Int32} (hx : x = nI sgn) (h : LpS sgn p sg bd rw M T i qn mk b mk0 jw wh a1 jz z) (hw : 1 ≤ w) (he : ¬ (T.drop i).headD 0 = sgn) (dd : Int32) : fP_row_36 n D (mR n (d + 3)) w p x dd (some wh) (some z) (nI mo) M = some (.inl (some (.ref wh)), M) := by
  obtain ⟨w, rfl⟩ : ∃ w', w = w' + 1 := ⟨w - 1, by omega⟩
  have ht := x_take_no (n := n) (d := d) h.1 hsg hx he
  rw [fP_row_36]
  split
  · rfl
  · simp only [h.1.1.1, if_true, ht, rzC_l, rzI_e, fP_row_75]
    rfl
/-- the loop of a row goes on -/
theorem row_next {sgn mk0 jw wh a1 jz z mo w : Nat} (hsg : sgn < 1000) {x : Int32} (hx : x = nI sgn) (h : LpS sgn p sg bd rw M T i qn mk b mk0 jw wh a1 jz z) (hmo : mo < 120) (he : (T.drop i).headD 0 = sgn) (dd : Int32) : ∃ M1 i1, PaS p sg bd rw M1 T i1 qn mk b ∧ T.drop i1 = (T.drop i).tail ∧ (∀ k0 k, FrK p bd rw k0 k M M1) ∧ (∀ base k, ThrG p bd rw base k M1 (mR n (d + 3) 14 [.ref p, .int x, .int dd] M1) → ThrG p bd rw base k M (fP_row_36 n D (mR n (d + 3)) (w + 1) p x dd (some wh) (some z) (nI mo) M)) ∧ ∀ M2 a2, mR n (d + 3) 14 [.ref p, .int x, .int dd] M1 = some (.inl (some (.ref a2)), M2) → mK M2 z = 4 → fP_row_36 n D (mR n (d + 3)) (w + 1) p x dd (some wh) (some z) (nI mo) M = fP_row_36 n D (mR n (d + 3)) w p x dd (some wh) (some a2) (nI (mo + 1)) (setP M2 z 4 (some a2)) := by
  obtain ⟨M1, i1, t1, t2, t3, t4⟩ := x_take_yes (n := n) (d := d) h.1 hsg hx he
  have h120 : ¬ (120 : Int32) ≤ nI mo := nI_ge (b := 120) hmo (by decide)
  have n1 : ¬ (1 : Int32) = 0 := by decide
  refine ⟨M1, i1, t2, t3, t4, fun base k hth => ?_, fun M2 a2 e hz => ?_⟩
  · rw [fP_row_36, if_neg h120]
    simp only [h.1.1.1, if_true, t1, rzC_l, rzI_e, if_neg n1, t2.1.1]
    exact (thrg_c hth).at (t4 base 0) (Nat.le_refl _) (by omega)
  · have hz2 : mK (setP M2 z 4 (some a2)) z = 4 := hz
    have hp2 : mP (setP M2 z 4 (some a2)) z 4 = some a2 := by rw [mP_setP, fu_eq]
    rw [fP_row_36, if_neg h120]
    simp only [h.1.1.1, if_true, t1, rzC_l, rzI_e, if_neg n1, t2.1.1, e, rzP_s, rzD_s, hz, rzM_e, hz2, hp2, nI_1]
/-- a row of one -/
theorem row_one {sgn : Nat} (hsg : sgn < 1000) {x : Int32} (hx : x = nI sgn) {M1 : Mem} {a : Nat} {dd : Int32} (hp : mK M p = 2) (e : mR n (d + 3) 14 [.ref p, .int x, .int dd] M = some (.inl (some (.ref a)), M1)) (h : PaS p sg bd rw M1 T i qn mk b) (he : ¬ (T.drop i).headD 0 = sgn) : mR n (d + 4) 13 [.ref p, .int x, .int dd] M = some (.inl (some (.ref a)), M1) := by
  have hpk := x_peek (n := n) (d := d + 2) h
  have hq := cq (Nat.lt_trans (hd_lt h) (by decide)) sgn hsg hx
  rw [eP_row]
  simp only [fP_row_0, hp, if_true, e, rzC_l, rzP_s, h.1.1, hpk, rzI_e, if_neg (fun q => he (hq.mp q))]
  rfl
theorem row_thr {x dd : Int32} {base k : Nat} (hp : mK M p = 2) (h : ThrG p bd rw base k M (mR n (d + 3) 14 [.ref p, .int x, .int dd] M)) : ThrG p bd rw base k M (mR n (d + 4) 13 [.ref p, .int x, .int dd] M) := by
  rw [eP_row]
  simp only [fP_row_0, hp, if_true]
  exact thrg_c h
/-- a row of more -/
theorem row_more {sgn : Nat} (hsg : sgn < 127) {x : Int32} (hx : x = nI sgn) {M1 : Mem} {a mk1 : Nat} {dd : Int32} {F : Nat → Prop} (hp : mK M p = 2) (e : mR n (d + 3) 14 [.ref p, .int x, .int dd] M = some (.inl (some (.ref a)), M1)) (h : PaS p sg bd rw M1 T i qn mk1 b) (hmk : mk ≤ mk1) (hF : FpS rw M1 mk mk1 F) (ha : F a) (ha4 : mP M1 a 4 = none) (he : (T.drop i).headD 0 = sgn) (hm : mk1 < 120) : ∃ M3 wh jz, mR n (d + 4) 13 [.ref p, .int x, .int dd] M = fP_row_36 n (d + 3) (mR n (d + 3)) n p x dd (some wh) (some a) (nI 0) M3 ∧ LpS sgn p sg bd rw M3 T i qn (mk1 + 1) b mk mk1 wh a jz a ∧ AgN F a M1 M3 ∧ FpS rw M3 mk (mk1 + 1) F ∧ ¬ F wh ∧ FrK p bd rw mk 1 M1 M3 := by
  have hpk := x_peek (n := n) (d := d + 2) h
  have hq := cq (Nat.lt_trans (hd_lt h) (by decide)) sgn (by omega) hx
  obtain ⟨M2, wh, g1, g2, g3, g4, g5⟩ := x_make (n := n) (d := d + 1) h hm (x := x) (by rw [hx]; exact fits_ch (by omega))
  have g1 : mR n (d + 3) 20 [.ref p, .int x] M1 = some (.inl (some (.ref wh)), M2) := g1
  obtain ⟨u1, u2, u3, u4, u5, u6⟩ := g5
  obtain ⟨w1, w2⟩ := nd_setP (f := 3) g2 (show mk1 < mk1 + 1 by omega) g4 (some a)
  have hm1 : mk1 ≤ 120 := by omega
  have kF : AgZ F M1 M2 := frk_keep h.2.2.2.2.1 h.kinds hm1 hF g3
  have hF2 : FpS rw M2 mk mk1 F := fps_mono hF g3
  have hFw : ¬ F wh := fun q => by
    obtain ⟨j, j1, j2, j3⟩ := hF2 wh q
    have := g2.2.2.2.2.1.2 j mk1 wh (by omega) (by omega) j3 g4
    omega
  have hxw : ∀ y, F y → y ≠ wh := fun y hy q => hFw (q ▸ hy)
  have haw := hxw a ha
  have hrw : rw ≠ wh := fun q => by have := g2.kinds.2.2; rw [q, u1] at this; exact absurd this (by decide)
  obtain ⟨j, j1, j2, j3⟩ := hF2 a ha
  refine ⟨setP M2 wh 3 (some a), wh, j, ?_, ⟨w1, ⟨by rw [mP_setP, fu_row _ _ hrw]; exact g4, hmk, by omega⟩, ⟨by rw [mP_setP, fu_row _ _ hrw]; exact j3, j1, by omega, by omega⟩, ⟨u1, by rw [← hx]; exact u2, by rw [mP_setP, fu_eq], by rw [mP_setP, fu_ne _ _ (fun q => (by cases q.2))]; exact u6⟩, by rw [mP_setP, fu_row _ _ haw]; exact (kF a ha).2.2.2.trans ha4⟩, fun c hc => ?_, ?_, hFw, (g3.mono hmk (Nat.le_refl _)).trans (w2 mk 0 hmk) (Nat.le_refl _) (Nat.le_refl _)⟩
  · rw [eP_row]
    simp only [fP_row_0, hp, if_true, e, rzC_l, rzP_s, h.1.1, hpk, rzI_e, if_pos (hq.mpr he), g1, rzD_s, u1, rzM_e]
    rfl
  · obtain ⟨q1, q2, q3, q4⟩ := kF c hc
    have hcw := hxw c hc
    exact ⟨q1, q2, by rw [mP_setP, fu_row _ _ hcw]; exact q3, fun _ => by rw [mP_setP, fu_row _ _ hcw]; exact q4⟩
  · exact fps_wid (fps_mono hF2 (w2 mk 0 hmk)) (Nat.le_refl _) (by omega)
theorem row_big {sgn : Nat} (hsg : sgn < 1000) {x : Int32} (hx : x = nI sgn) {M1 : Mem} {a mk1 : Nat} {dd : Int32} (hd : 7 ≤ d) (hp : mK M p = 2) (e : mR n (d + 3) 14 [.ref p, .int x, .int dd] M = some (.inl (some (.ref a)), M1)) (h : PaS p sg bd rw M1 T i qn mk1 b) (he : (T.drop i).headD 0 = sgn) (hm : ¬ mk1 < 120) : Thr p bd rw mk1 M1 (mR n (d + 4) 13 [.ref p, .int x, .int dd] M) := by
  have hpk := x_peek (n := n) (d := d + 2) h
  have hq := cq (Nat.lt_trans (hd_lt h) (by decide)) sgn (by omega) hx
  have ht := x_make_t (n := n) (d := d + 1) (by omega) h hm x
  rw [eP_row]
  simp only [fP_row_0, hp, if_true, e, rzC_l, rzP_s, h.1.1, hpk, rzI_e, if_pos (hq.mpr he)]
  exact thr_c ht
end RowsG
section PSetsR
variable {n W V p sg bd rw : Nat} {T : List Nat} {b : Bd}
theorem pS3_end {k d : Nat} {acc : Od × Dn} {ts : List Nat} (h : ¬ ts.headD 0 = 42) : pS (k + 1) 3 acc d b ts = some (acc, ts) := by
  cases ts with
  | nil => rfl
  | cons c r => rw [pS]; have h : ¬ c = 42 := h; simp [h]
theorem pS4_end {k d : Nat} {acc : Od × Dn} {ts : List Nat} (h : ¬ ts.headD 0 = 43) : pS (k + 1) 4 acc d b ts = some (acc, ts) := by
  cases ts with
  | nil => rfl
  | cons c r => rw [pS]; have h : ¬ c = 43 := h; simp [h]
theorem hd_cons {ts : List Nat} {c : Nat} (hc : c ≠ 0) (h : ts.headD 0 = c) : ts = c :: ts.tail := by
  cases ts with
  | nil => exact absurd h.symm hc
  | cons x r => have h : x = c := h; rw [h]; rfl
theorem pS3_go {k d : Nat} {acc : Od × Dn} {r : List Nat} : pS (k + 1) 3 acc d b (42 :: r) = (pS k 0 acc d b r).bind fun y => pS k 3 (acc.1 ++ y.1.1 ++ [(8, 0)], fun n e => acc.2 n e &&& y.1.2 n e) d b y.2 := by
  rw [pS]; rfl
theorem pS4_go {k d : Nat} {acc : Od × Dn} {r : List Nat} : pS (k + 1) 4 acc d b (43 :: r) = (pS k 1 acc d b r).bind fun y => pS k 4 (acc.1 ++ y.1.1 ++ [(7, 0)], fun n e => acc.2 n e ||| y.1.2 n e) d b y.2 := by
  rw [pS]; rfl
theorem item42 {D : Nat} {M : Mem} (hp : mK M p = 2) (dd : Int32) : mR n (D + 1) 14 [.ref p, .int 42, .int dd] M = rzC (mR n D 40 [.ref p, .int dd] M) fun v M => rzP v fun r => some (.inl (some (va_rf r)), M) := by
  rw [eP_item, fP_item_0, if_neg (by decide), if_neg (by decide), if_neg (by decide), hp, if_pos rfl]
theorem item43 {D : Nat} {M : Mem} (hp : mK M p = 2) (dd : Int32) : mR n (D + 1) 14 [.ref p, .int 43, .int dd] M = rzC (mR n D 13 [.ref p, .int 42, .int dd] M) fun v M => rzP v fun r => some (.inl (some (va_rf r)), M) := by
  rw [eP_item, fP_item_0, if_neg (by decide), if_pos rfl, hp, if_pos rfl]
theorem par_B3 (hn : 200 ≤ n) {k : Nat} (h0 : A0 n W V p sg bd rw T b k) (h3 : B3 n W V p sg bd rw T b k) : B3 n W V p sg bd rw T b (k + 1) := by
  intro acc d i qn mk D D0 M mk0 jw wh a1 jz z mo w F hd hk hL hF hFw hFz hSg hIn hmo hw hD
  obtain ⟨D, rfl⟩ : ∃ D', D = D' + 20 := ⟨D - 20, by unfold hS at hD; omega⟩
  have hiT : i ≤ T.length := hL.1.2.2.2.2.2.2.1.1
  have hT : T.length ≤ 120 := hL.1.2.2.2.2.2.2.1.2.1
  obtain ⟨w, rfl⟩ : ∃ w', w = w' + 1 := ⟨w - 1, by omega⟩
  by_cases he : (T.drop i).headD 0 = 42
  · have hcons := hd_cons (by decide) he
    have hmo2 : mo < 120 := by
      have : 0 < (T.drop i).length := by rw [hcons]; exact Nat.zero_lt_succ _
      rw [List.length_drop] at this
      omega
    obtain ⟨M1, i1, t1, t2, t3, t4, t5⟩ := row_next (n := n) (D := D0) (d := D + 17) (w := w) (by decide) (x := 42) rfl hL hmo2 he (nI d)
    have hr : (T.drop i).length = (T.drop i1).length + 1 := by rw [t2]; exact congrArg List.length hcons
    have hg : pS (k + 1) 3 acc d b (T.drop i) = _ := (congrArg (pS (k + 1) 3 acc d b) hcons).trans pS3_go
    rw [← t2] at hg
    rw [hg, show tlc 42 (T.drop i) = T.drop i1 from by rw [t2]; exact if_pos he]
    have hA := itm (h0 acc d i1 qn mk (D + 19) M1 hd (by omega) t1 (by omega))
    rw [← item42 t1.1.1] at hA
    cases hsub : pS k 0 acc d b (T.drop i1) with
    | none =>
      refine ⟨fun _ => ?_, fun y q => (by cases q)⟩
      exact (t4 mk _ (hA.1 hsub)).at (frk_refl (k := 0)) (by have := hL.2.1; omega) (by omega)
    | some y =>
      have hyl := (pS_len k 0 acc d b _ y hsub).2.1 (by decide)
      rw [Option.bind_some]
      rcases hA.2 y hsub with ⟨M2, a2, i2, mk2, G, g1, g2, g3, g4, g5, g6, g7, g8, g9⟩ | ⟨hb1, hb2⟩
      · have hfr : FrK p bd rw mk (mk2 - mk) M M2 := (t3 mk 0).trans g4 (Nat.le_refl _) (by omega)
        obtain ⟨M3, hM3⟩ : ∃ M3, M3 = setP M2 z 4 (some a2) := ⟨_, rfl⟩
        obtain ⟨jz', r1, r2, r3, r4, r5, r6, r7, r8, r9⟩ := row_iter hL hF hFw hFz hfr g2 g5.1 g6 g7 g8 hM3
        rw [t5 M2 a2 g1 r8, ← hM3, ← g3]
        have hB := h3 (acc.1 ++ y.1.1 ++ [(8, 0)], fun n e => acc.2 n e &&& y.1.2 n e) d i2 qn mk2 (D + 20) D0 M3 mk0 jw wh a1 jz' a2 (mo + 1) w (fU F G) hd (by rw [g3]; omega) r1 r5 r6 (Or.inr g7) (sgm_app hSg r2 (g9.fr r3) r4 r9) ((pin_cl b).2.2.2.2.1 _ _ _ _ hIn (pS_ind (pin_cl b) k 0 acc d _ y hsub (by omega))) (by
          have hi2 : i2 ≤ T.length := g2.2.2.2.2.2.2.1.1
          have := congrArg List.length g3
          rw [List.length_drop] at this hr
          rw [List.length_drop] at hyl hr
          omega) (by omega) (by omega)
        exact hB.tr r7 g5.1 (Nat.le_refl _) g2.2.2.2.2.2.2.1.2.2.1 (by have := tlc_le 42 (T.drop i2); rw [g3] at this ⊢; omega)
      · have hth := (t4 mk _ hb2).at (frk_refl (k := 0)) (base := mk0) (k2 := 121 - mk) (by have := hL.2.1; omega) (by omega)
        refine ⟨fun _ => hth, fun y' q => Or.inr ⟨?_, hth⟩⟩
        have := (pS_len k 3 _ d b _ y' q).1
        omega
  · rw [pS3_end he, show tlc 42 (T.drop i) = T.drop i from if_neg he, row_end (n := n) (D := D0) (d := D + 17) (by decide) (x := 42) rfl hL (by omega) he (nI d)]
    refine ⟨fun q => (by cases q), fun y q => ?_⟩
    cases q
    obtain ⟨hP, ⟨w1, w2, w3⟩, ⟨z1, z2, z3, z4⟩, ⟨u1, u2, u3, u4⟩, hz⟩ := hL
    exact Or.inl ⟨M, wh, i, mk, fU (fS1 wh) F, rfl, hP, rfl, frk_refl, ⟨Nat.le_refl _, Nat.le_refl _⟩, fps_u (fps_wid (fps_1 w1) w2 (by omega)) hF, Or.inl rfl, u4, ev_meet u1 u2 u3 hSg agn_refl hFw hz (by omega) hIn⟩
theorem par_B4 (hn : 200 ≤ n) {k : Nat} (h1 : A1 n W V p sg bd rw T b k) (h4 : B4 n W V p sg bd rw T b k) : B4 n W V p sg bd rw T b (k + 1) := by
  intro acc d i qn mk D D0 M mk0 jw wh a1 jz z mo w F hd hk hL hF hFw hFz hSg hmo hw hD
  obtain ⟨D, rfl⟩ : ∃ D', D = D' + 20 := ⟨D - 20, by unfold hS at hD; omega⟩
  have hiT : i ≤ T.length := hL.1.2.2.2.2.2.2.1.1
  have hT : T.length ≤ 120 := hL.1.2.2.2.2.2.2.1.2.1
  obtain ⟨w, rfl⟩ : ∃ w', w = w' + 1 := ⟨w - 1, by omega⟩
  by_cases he : (T.drop i).headD 0 = 43
  · have hcons := hd_cons (by decide) he
    have hmo2 : mo < 120 := by
      have : 0 < (T.drop i).length := by rw [hcons]; exact Nat.zero_lt_succ _
      rw [List.length_drop] at this
      omega
    obtain ⟨M1, i1, t1, t2, t3, t4, t5⟩ := row_next (n := n) (D := D0) (d := D + 17) (w := w) (by decide) (x := 43) rfl hL hmo2 he (nI d)
    have hr : (T.drop i).length = (T.drop i1).length + 1 := by rw [t2]; exact congrArg List.length hcons
    have hg : pS (k + 1) 4 acc d b (T.drop i) = _ := (congrArg (pS (k + 1) 4 acc d b) hcons).trans pS4_go
    rw [← t2] at hg
    rw [hg, show tlc 43 (T.drop i) = T.drop i1 from by rw [t2]; exact if_pos he]
    have hA := itm (h1 acc d i1 qn mk (D + 19) M1 hd (by omega) t1 (by omega))
    rw [← item43 t1.1.1] at hA
    cases hsub : pS k 1 acc d b (T.drop i1) with
    | none =>
      refine ⟨fun _ => ?_, fun y q => (by cases q)⟩
      exact (t4 mk _ (hA.1 hsub)).at (frk_refl (k := 0)) (by have := hL.2.1; omega) (by omega)
    | some y =>
      have hyl := (pS_len k 1 acc d b _ y hsub).2.1 (by decide)
      rw [Option.bind_some]
      rcases hA.2 y hsub with ⟨M2, a2, i2, mk2, G, g1, g2, g3, g4, g5, g6, g7, g8, g9⟩ | ⟨hb1, hb2⟩
      · have hfr : FrK p bd rw mk (mk2 - mk) M M2 := (t3 mk 0).trans g4 (Nat.le_refl _) (by omega)
        obtain ⟨M3, hM3⟩ : ∃ M3, M3 = setP M2 z 4 (some a2) := ⟨_, rfl⟩
        obtain ⟨jz', r1, r2, r3, r4, r5, r6, r7, r8, r9⟩ := row_iter hL hF hFw hFz hfr g2 g5.1 g6 g7 g8 hM3
        rw [t5 M2 a2 g1 r8, ← hM3, ← g3]
        have hB := h4 (acc.1 ++ y.1.1 ++ [(7, 0)], fun n e => acc.2 n e ||| y.1.2 n e) d i2 qn mk2 (D + 20) D0 M3 mk0 jw wh a1 jz' a2 (mo + 1) w (fU F G) hd (by rw [g3]; omega) r1 r5 r6 (Or.inr g7) (sgu_app hSg r2 (g9.fr r3) r4 r9) (by
          have hi2 : i2 ≤ T.length := g2.2.2.2.2.2.2.1.1
          have := congrArg List.length g3
          rw [List.length_drop] at this hr
          rw [List.length_drop] at hyl hr
          omega) (by omega) (by omega)
        exact hB.tr r7 g5.1 (Nat.le_refl _) g2.2.2.2.2.2.2.1.2.2.1 (by have := tlc_le 43 (T.drop i2); rw [g3] at this ⊢; omega)
      · have hth := (t4 mk _ hb2).at (frk_refl (k := 0)) (base := mk0) (k2 := 121 - mk) (by have := hL.2.1; omega) (by omega)
        refine ⟨fun _ => hth, fun y' q => Or.inr ⟨?_, hth⟩⟩
        have := (pS_len k 4 _ d b _ y' q).1
        omega
  · rw [pS4_end he, show tlc 43 (T.drop i) = T.drop i from if_neg he, row_end (n := n) (D := D0) (d := D + 17) (by decide) (x := 43) rfl hL (by omega) he (nI d)]
    refine ⟨fun q => (by cases q), fun y q => ?_⟩
    cases q
    obtain ⟨hP, ⟨w1, w2, w3⟩, ⟨z1, z2, z3, z4⟩, ⟨u1, u2, u3, u4⟩, hz⟩ := hL
    exact Or.inl ⟨M, wh, i, mk, fU (fS1 wh) F, rfl, hP, rfl, frk_refl, ⟨Nat.le_refl _, Nat.le_refl _⟩, fps_u (fps_wid (fps_1 w1) w2 (by omega)) hF, Or.inl rfl, u4, ev_uni u1 u2 u3 hSg agn_refl hFw hz (by omega)⟩
theorem par_A1 (hn : 200 ≤ n) {k : Nat} (h0 : A0 n W V p sg bd rw T b k) (h3 : B3 n W V p sg bd rw T b k) : A1 n W V p sg bd rw T b (k + 1) := by
  intro acc d i qn mk D M hd hk hP hD
  obtain ⟨D, rfl⟩ : ∃ D', D = D' + 20 := ⟨D - 20, by unfold hS at hD; omega⟩
  have hg : pS (k + 1) 1 acc d b (T.drop i) = (pS k 0 acc d b (T.drop i)).bind fun y => pS k 3 y.1 d b y.2 := by
    conv => lhs; unfold pS
    rfl
  rw [hg]
  have hA := itm (h0 acc d i qn mk (D + 18) M hd (by omega) hP (by omega))
  rw [← item42 hP.1.1] at hA
  have hA : SpG p sg bd rw mk M T mk b (T.drop i) _ _ _ (mR n (D + 16 + 3) 14 [.ref p, .int 42, .int (nI d)] M) := hA
  cases hsub : pS k 0 acc d b (T.drop i) with
  | none =>
    refine ⟨fun _ => ?_, fun y q => (by cases q)⟩
    exact row_thr hP.1.1 (hA.1 hsub)
  | some y =>
    have hyl := (pS_len k 0 acc d b _ y hsub).2.1 (by decide)
    rw [Option.bind_some]
    obtain ⟨k, rfl⟩ : ∃ k', k = k' + 1 := ⟨k - 1, by omega⟩
    rcases hA.2 y hsub with ⟨M1, a, i1, mk1, F, g1, g2, g3, g4, g5, g6, g7, g8, g9⟩ | ⟨hb1, hb2⟩
    · have hm1 : mk1 ≤ 120 := g2.2.2.2.2.2.2.1.2.2.1
      by_cases he : (T.drop i1).headD 0 = 42
      · by_cases hmk1 : mk1 < 120
        · obtain ⟨M3, wh, jz, r1, r2, r3, r4, r5, r6⟩ := row_more (n := n) (d := D + 16) (by decide) (x := 42) rfl hP.1.1 g1 g2 g5.1 g6 g7 g8 he hmk1
          have hB := h3 y.1 d i1 qn (mk1 + 1) (D + 19) (D + 19) M3 mk mk1 wh a jz a 0 n F hd (by rw [g3]; omega) r2 r4 r5 g7 (sgm_1 (g9.fr r3)) (pS_ind (pin_cl b) _ 0 acc d _ y hsub (by omega)) (Nat.zero_le _) (by omega) (by omega)
          have r1 : mR n (D + 20) 13 [.ref p, .int 42, .int (nI d)] M = fP_row_36 n (D + 19) (mR n (D + 19)) n p 42 (nI d) (some wh) (some a) (nI 0) M3 := r1
          have htl := tlc_lt (c := 42) (by decide) he
          rw [g3] at hB htl
          rw [r1]
          exact hB.tr (g4.trans r6 (Nat.le_refl _) (Nat.le_refl _)) (by omega) (by omega) (by omega) (by omega)
        · have hth := (thr_g (row_big (n := n) (d := D + 16) (by decide) (x := 42) rfl (by omega) hP.1.1 g1 g2 he hmk1) (Nat.le_refl _) (Nat.le_refl _)).at g4 g5.1 (k2 := 121 - mk) (by omega)
          refine ⟨fun _ => hth, fun y' q => Or.inr ⟨?_, hth⟩⟩
          have hcons := hd_cons (by decide) he
          rw [g3] at hcons
          rw [hcons, pS3_go] at q
          obtain ⟨y2, e1, e2⟩ := Option.bind_eq_some_iff.mp q
          have l1 := (pS_len k 0 y.1 d b _ y2 e1).2.1 (by decide)
          have l2 := (pS_len k 3 _ d b _ y' e2).1
          have l3 := congrArg List.length hcons
          simp only [List.length_cons] at l3
          omega
      · have hr := row_one (n := n) (d := D + 16) (by decide) (x := 42) rfl hP.1.1 g1 g2 he
        have hr : mR n (D + 20) 13 [.ref p, .int 42, .int (nI d)] M = some (.inl (some (.ref a)), M1) := hr
        rw [hr, pS3_end (by rw [← g3]; exact he)]
        refine ⟨fun q => (by cases q), fun y' q => ?_⟩
        cases q
        exact Or.inl ⟨M1, a, i1, mk1, F, rfl, g2, g3, g4, g5, g6, g7, g8, g9.mono (by omega)⟩
    · have hth := row_thr (n := n) (d := D + 16) hP.1.1 hb2
      refine ⟨fun _ => hth, fun y' q => Or.inr ⟨?_, hth⟩⟩
      have := (pS_len _ 3 _ d b _ y' q).1
      omega
theorem par_A2 (hn : 200 ≤ n) {k : Nat} (h1 : A1 n W V p sg bd rw T b k) (h4 : B4 n W V p sg bd rw T b k) : A2 n W V p sg bd rw T b (k + 1) := by
  intro acc d i qn mk D M hd hk hP hD
  obtain ⟨D, rfl⟩ : ∃ D', D = D' + 20 := ⟨D - 20, by unfold hS at hD; omega⟩
  have hg : pS (k + 1) 2 acc d b (T.drop i) = (pS k 1 acc d b (T.drop i)).bind fun y => pS k 4 y.1 d b y.2 := by
    conv => lhs; unfold pS
    rfl
  rw [hg]
  have hA := itm (h1 acc d i qn mk (D + 18) M hd (by omega) hP (by omega))
  rw [← item43 hP.1.1] at hA
  have hA : SpG p sg bd rw mk M T mk b (T.drop i) _ _ _ (mR n (D + 16 + 3) 14 [.ref p, .int 43, .int (nI d)] M) := hA
  cases hsub : pS k 1 acc d b (T.drop i) with
  | none =>
    refine ⟨fun _ => ?_, fun y q => (by cases q)⟩
    exact row_thr hP.1.1 (hA.1 hsub)
  | some y =>
    have hyl := (pS_len k 1 acc d b _ y hsub).2.1 (by decide)
    rw [Option.bind_some]
    obtain ⟨k, rfl⟩ : ∃ k', k = k' + 1 := ⟨k - 1, by omega⟩
    rcases hA.2 y hsub with ⟨M1, a, i1, mk1, F, g1, g2, g3, g4, g5, g6, g7, g8, g9⟩ | ⟨hb1, hb2⟩
    · have hm1 : mk1 ≤ 120 := g2.2.2.2.2.2.2.1.2.2.1
      by_cases he : (T.drop i1).headD 0 = 43
      · by_cases hmk1 : mk1 < 120
        · obtain ⟨M3, wh, jz, r1, r2, r3, r4, r5, r6⟩ := row_more (n := n) (d := D + 16) (by decide) (x := 43) rfl hP.1.1 g1 g2 g5.1 g6 g7 g8 he hmk1
          have hB := h4 y.1 d i1 qn (mk1 + 1) (D + 19) (D + 19) M3 mk mk1 wh a jz a 0 n F hd (by rw [g3]; omega) r2 r4 r5 g7 (sgu_1 (g9.fr r3)) (Nat.zero_le _) (by omega) (by omega)
          have r1 : mR n (D + 20) 13 [.ref p, .int 43, .int (nI d)] M = fP_row_36 n (D + 19) (mR n (D + 19)) n p 43 (nI d) (some wh) (some a) (nI 0) M3 := r1
          have htl := tlc_lt (c := 43) (by decide) he
          rw [g3] at hB htl
          rw [r1]
          exact hB.tr (g4.trans r6 (Nat.le_refl _) (Nat.le_refl _)) (by omega) (by omega) (by omega) (by omega)
        · have hth := (thr_g (row_big (n := n) (d := D + 16) (by decide) (x := 43) rfl (by omega) hP.1.1 g1 g2 he hmk1) (Nat.le_refl _) (Nat.le_refl _)).at g4 g5.1 (k2 := 121 - mk) (by omega)
          refine ⟨fun _ => hth, fun y' q => Or.inr ⟨?_, hth⟩⟩
          have hcons := hd_cons (by decide) he
          rw [g3] at hcons
          rw [hcons, pS4_go] at q
          obtain ⟨y2, e1, e2⟩ := Option.bind_eq_some_iff.mp q
          have l1 := (pS_len k 1 y.1 d b _ y2 e1).2.1 (by decide)
          have l2 := (pS_len k 4 _ d b _ y' e2).1
          have l3 := congrArg List.length hcons
          simp only [List.length_cons] at l3
          omega
      · have hr := row_one (n := n) (d := D + 16) (by decide) (x := 43) rfl hP.1.1 g1 g2 he
        have hr : mR n (D + 20) 13 [.ref p, .int 43, .int (nI d)] M = some (.inl (some (.ref a)), M1) := hr
        rw [hr, pS4_end (by rw [← g3]; exact he)]
        refine ⟨fun q => (by cases q), fun y' q => ?_⟩
        cases q
        exact Or.inl ⟨M1, a, i1, mk1, F, rfl, g2, g3, g4, g5, g6, g7, g8, g9.mono (by omega)⟩
    · have hth := row_thr (n := n) (d := D + 16) hP.1.1 hb2
      refine ⟨fun _ => hth, fun y' q => Or.inr ⟨?_, hth⟩⟩
      have := (pS_len _ 4 _ d b _ y' q).1
      omega
theorem par_sets (hn : 200 ≤ n) : ∀ k, A0 n W V p sg bd rw T b k ∧ A1 n W V p sg bd rw T b k ∧ A2 n W V p sg bd rw T b k ∧ B3 n W V p sg bd rw T b k ∧ B4 n W V p sg bd rw T b k
  | 0 => ⟨fun _ _ _ _ _ _ _ _ h => absurd h (by omega), fun _ _ _ _ _ _ _ _ h => absurd h (by omega), fun _ _ _ _ _ _ _ _ h => absurd h (by omega), fun _ _ _ _ _ _ _ _ _ _ _ _ _ _ _ _ _ _ h => absurd h (by omega), fun _ _ _ _ _ _ _ _ _ _ _ _ _ _ _ _ _ _ h => absurd h (by omega)⟩
  | k + 1 => by
    obtain ⟨a0, a1, a2, b3, b4⟩ := par_sets hn k
    exact ⟨par_A0 hn a0 a2, par_A1 hn a0 b3, par_A2 hn a1 b4, par_B3 hn a0 b3, par_B4 hn a1 b4⟩
end PSetsR
