/-! the reference's run in memory -/
def RelV (X : Xr) (sz : Nat) (s : VS) : Prop := X 0 35 = nI sz ∧ PilX X s.2.1 ∧ (∀ q, q < 4 → X 14 q = s.2.2.1 q) ∧ (∀ q, q < 4 → X 15 q = nI (s.2.2.2.1 q)) ∧ X 0 40 = s.2.2.2.2
def FrV (X X' : Xr) : Prop := (∀ r, r ≠ 0 → r ≠ 14 → r ≠ 15 → r ≠ 16 → X' r = X r) ∧ ∀ j, j ≠ 35 → j ≠ 38 → j ≠ 40 → X' 0 j = X 0 j
theorem FrV.trans {X Y Z : Xr} (h1 : FrV X Y) (h2 : FrV Y Z) : FrV X Z := ⟨fun r a b c e => (h2.1 r a b c e).trans (h1.1 r a b c e), fun j a b c => (h2.2 j a b c).trans (h1.2 j a b c)⟩
theorem frv_rfl {X : Xr} : FrV X X := ⟨fun _ _ _ _ _ => rfl, fun _ _ _ _ => rfl⟩
theorem frv_p {X X' : Xr} (h : FrP X X') : FrV X X' := ⟨fun r a _ _ b => h.1 r a b, fun j _ b _ => h.2 j b⟩
theorem frv_0 {X : Xr} {j : Nat} (z : Int32) (h : j = 35 ∨ j = 38 ∨ j = 40) : FrV X (xs X 0 j z) := ⟨fun r a _ _ _ => xs_row _ _ _ a, fun j' a b c => xs_idx _ _ _ (by omega)⟩
theorem frv_r {X : Xr} {r j : Nat} (z : Int32) (h : r = 14 ∨ r = 15 ∨ r = 16) : FrV X (xs X r j z) := ⟨fun r' _ b c e => xs_row _ _ _ (by omega), fun j' _ _ _ => by rw [xs_row _ _ _ (by omega)]⟩
theorem sen_fr {X X' : Xr} {y : Od × List (Bool × Bool)} {o : Bool} (h : SenX X y o) (hf : FrV X X') : SenX X' y o := by
  obtain ⟨a1, a2, a3, a4, a5⟩ := h
  refine ⟨(hf.2 4 (by decide) (by decide) (by decide)).trans a1, (hf.2 5 (by decide) (by decide) (by decide)).trans a2, fun i x hx => ?_, fun i x hx => ?_, (hf.2 10 (by decide) (by decide) (by decide)).trans a5⟩
  · rw [hf.1 2 (by decide) (by decide) (by decide) (by decide), hf.1 3 (by decide) (by decide) (by decide) (by decide)]; exact a3 i x hx
  · rw [hf.1 4 (by decide) (by decide) (by decide) (by decide), hf.1 5 (by decide) (by decide) (by decide) (by decide)]; exact a4 i x hx
theorem pil_40 {X : Xr} {s : List Int32} (h : PilX X s) (z : Int32) : PilX (xs X 0 40 z) s := ⟨by rw [xs_idx _ _ _ (by decide)]; exact h.1, by rw [xs_row _ _ _ (by decide)]; exact h.2⟩
section RunE
variable {n d m : Nat} {M : Mem} {X : Xr}
theorem fbb1 : fits .boolean (.int 1) = true := rfl
theorem fbb0 : fits .boolean (.int 0) = true := rfl
theorem R_ends92 (hL : LayM m M) {stk : List Int32} (hp : PilX X stk) (hs : stk.length ≤ 255) (D : Nat) (z : Int32) : fM_ends_92 n D (mR n (d + 1)) z m (wR m 17 M X) = some (.inl (some (.int 1)), wR m 17 M (xs (xs X 16 stk.length z) 0 38 (nI (stk.length + 1)))) := by
  simp only [fM_ends_92, mK_wR, hL.1, if_true, x_put hL hp (show stk.length < 260 by omega), rzC_l, rzV_e, fbb1]
theorem R_ends45 (hL : LayM m M) {sz a : Nat} {lp : List (Bool × Bool)} {vals : Ev} {stk : List Int32} (t : Int32) (D : Nat) (h35 : X 0 35 = nI sz) (hsz : sz ≤ 4) (ha : a < 4) (h4 : X 4 a = b2i (lpA lp a)) (h5 : X 5 a = b2i (lpS lp a)) (hv : X 14 a = vals a) (hp : PilX X stk) (hs : stk.length ≤ 255) :
    fM_ends_45 n D (mR n (d + 1)) m (nI a) t 0 (wR m 17 M X) = if vals a < hlast lp sz a then some (.inl (some (.int 0)), wR m 17 M X) else some (.inl (some (.int 1)), wR m 17 M (xs (xs X 16 stk.length (if lpA lp a then 1 else 0)) 0 38 (nI (stk.length + 1)))) := by
  obtain ⟨h1, h2, h3⟩ := lm36 hL
  obtain ⟨g1, g2, g3⟩ := lm8 hL
  have hi : inA (nI a) 4 := inA_nI ha (by decide)
  have hc : (nI a).toNatClampNeg = a := nI_clamp (by omega)
  have hlo := x_lastOf (n := n) (d := d) hL h35 hsz ha h5
  have hlo' : mR n (d + 1) 99 [.ref m, .int (nI a)] (wR m 17 M X) = some (.inl (some (.int (hlast lp sz a))), wR m 17 M X) := hlo
  simp only [fM_ends_45, mK_wR, mP_wR, mL_wR, hL.1, h1, h2, h3, if_true, rzD_s, if_pos hi, hlo', rzC_l, rzI_e, hc, wR_at (K := 17) (r := 14) (by decide), hv]
  by_cases hlt : vals a < hlast lp sz a
  · rw [if_neg (Int32.not_le.mpr hlt), if_pos hlt]
    rfl
  · rw [if_pos (Int32.not_lt.mp hlt), if_neg hlt]
    simp only [fM_ends_68, mK_wR, mP_wR, mL_wR, hL.1, g1, g2, g3, if_true, rzD_s, if_pos hi, hc, wR_at (K := 17) (r := 4) (by decide), h4]
    cases lpA lp a
    · exact (if_pos rfl).trans (R_ends92 hL hp hs D 0)
    · exact (if_neg (by decide)).trans (R_ends92 hL hp hs D 1)
theorem R_ends (hL : LayM m M) {sz a : Nat} {lp : List (Bool × Bool)} {vals : Ev} {stk : List Int32} (t : Int32) {good : Int32} (fl : Bool) (h35 : X 0 35 = nI sz) (hsz : sz ≤ 4) (ha : a < 4) (h4 : X 4 a = b2i (lpA lp a)) (h5 : X 5 a = b2i (lpS lp a)) (hv : X 14 a = vals a) (hp : PilX X stk) (hs : stk.length ≤ 255) (hg : X 0 40 = good) {X1 : Xr} (hX1 : X1 = xs X 0 40 (good + (if fl = true then t else 0))) :
    mR n (d + 2) 98 [.ref m, .int (nI a), .int t, .int (b2i fl)] (wR m 17 M X) = if fl = false ∧ t = (if lpA lp a then 0 else 1) then some (.inl (some (.int 1)), wR m 17 M (xs (xs X1 16 stk.length t) 0 38 (nI (stk.length + 1)))) else if vals a < hlast lp sz a then some (.inl (some (.int 0)), wR m 17 M X1) else some (.inl (some (.int 1)), wR m 17 M (xs (xs X1 16 stk.length (if lpA lp a then 1 else 0)) 0 38 (nI (stk.length + 1)))) := by
  obtain ⟨g1, g2, g3⟩ := lm8 hL
  have hi : inA (nI a) 4 := inA_nI ha (by decide)
  have hc : (nI a).toNatClampNeg = a := nI_clamp (by omega)
  have hp1 : PilX X1 stk := by rw [hX1]; exact pil_40 hp _
  have r35 : X1 0 35 = nI sz := by rw [hX1, xs_idx _ _ _ (by decide)]; exact h35
  have r4 : X1 4 a = b2i (lpA lp a) := by rw [hX1, xs_row _ _ _ (by decide)]; exact h4
  have r5 : X1 5 a = b2i (lpS lp a) := by rw [hX1, xs_row _ _ _ (by decide)]; exact h5
  have rv : X1 14 a = vals a := by rw [hX1, xs_row _ _ _ (by decide)]; exact hv
  have K0 := R_ends45 (n := n) (d := d) hL (lp := lp) t (d + 1) r35 hsz ha r4 r5 rv hp1 hs
  have K1 : fM_ends_45 n (d + 1) (mR n (d + 1)) m (nI a) t 1 (wR m 17 M X1) = some (.inl (some (.int 1)), wR m 17 M (xs (xs X1 16 stk.length t) 0 38 (nI (stk.length + 1)))) := by
    rw [fM_ends_45, if_neg (by decide), fM_ends_68, if_neg (by decide)]
    exact R_ends92 hL hp1 hs (d + 1) t
  rw [eM_ends]
  cases fl
  · have e0 : fM_ends_0 n (d + 1) (mR n (d + 1)) m (nI a) t (b2i false) (wR m 17 M X) = fM_ends_14 n (d + 1) (mR n (d + 1)) m (nI a) t 0 0 good m (wR m 17 M X) := by
      simp only [fM_ends_0, mK_wR, hL.1, if_true, b2i, Bool.false_eq_true, if_false, wR_at0 (K := 17) (by decide), hg]
    have hX1' : xs X 0 40 (good + 0) = X1 := hX1.symm
    rw [e0]
    simp only [fM_ends_14, mK_wR, mP_wR, mL_wR, hL.1, if_true, rzM_e, wR_set0 (K := 17) (by decide), hX1', g1, g2, g3, rzD_s, if_pos hi, hc, wR_at (K := 17) (r := 4) (by decide), r4, fM_ends_37, fM_ends_44]
    cases hA : lpA lp a
    · rw [if_pos (show b2i false = 0 from rfl)]
      by_cases ht : t = 1
      · rw [if_pos ht, if_pos ⟨trivial, ht⟩]; exact K1
      · rw [if_neg ht, if_neg (fun q => ht q.2)]; rw [hA] at K0; exact K0
    · rw [if_neg (show ¬ b2i true = 0 by decide)]
      by_cases ht : t = 0
      · rw [if_pos ht, if_pos ⟨trivial, ht⟩]; exact K1
      · rw [if_neg ht, if_neg (fun q => ht q.2)]; rw [hA] at K0; exact K0
  · have n1 : ¬ (1 : Int32) = 0 := by decide
    have e0 : fM_ends_0 n (d + 1) (mR n (d + 1)) m (nI a) t (b2i true) (wR m 17 M X) = fM_ends_14 n (d + 1) (mR n (d + 1)) m (nI a) t 1 t good m (wR m 17 M X) := by
      simp only [fM_ends_0, mK_wR, hL.1, if_true, b2i, if_neg n1, wR_at0 (K := 17) (by decide), hg]
    have hX1' : xs X 0 40 (good + t) = X1 := hX1.symm
    rw [e0, if_neg (fun q => by cases q.1)]
    simp only [fM_ends_14, mK_wR, hL.1, if_true, rzM_e, wR_set0 (K := 17) (by decide), hX1', if_neg n1, fM_ends_44]
    exact K0
theorem lp_get {X : Xr} {y : Od × List (Bool × Bool)} {o : Bool} (h : SenX X y o) {a : Nat} (ha : a < y.2.length) : X 4 a = b2i (lpA y.2 a) ∧ X 5 a = b2i (lpS y.2 a) := by
  have := h.2.2.2.1 a y.2[a] (List.getElem?_eq_getElem ha)
  have e : y.2.getD a (false, false) = y.2[a] := by rw [List.getD_eq_getElem?_getD, List.getElem?_eq_getElem ha]; rfl
  unfold lpA lpS
  rw [e]
  exact this
theorem R_any (hL : LayM m M) (k : Nat → Int32 → Int32 → Mem → Rz) (D : Nat) {sz a pc : Nat} {code : Od} {lp : List (Bool × Bool)} {o : Bool} {vals : Ev} {sts : Nat → Nat} {stk : List Int32} (t x2 : Int32) {good : Int32} (cnt : Bool) (hsz : sz ≤ 4) (hlp : lp.length ≤ 4) (ha : a < lp.length) (hSn : SenX X (code, lp) o) (hR : RelV X sz (pc, t :: stk, vals, sts, good)) (hs : stk.length ≤ 254) :
    ∃ X', fM_run_119 n D (mR n (d + 2)) k m x2 (nI a) (nI (pc + 1)) (b2i (cnt && decide (a = 0))) t (nI a) m (wR m 17 M (xs X 0 38 (nI stk.length))) = k m x2 (nI (vAny lp sz cnt a pc t stk vals sts good).1) (wR m 17 M X') ∧ RelV X' sz (vAny lp sz cnt a pc t stk vals sts good) ∧ FrV X X' := by
  obtain ⟨h1, h2, h3⟩ := lm36 hL
  obtain ⟨g1, g2, g3⟩ := lm37 hL
  obtain ⟨r1, r2, r3, r4, r5⟩ := hR
  have r2 : PilX X (t :: stk) := r2
  have r3 : ∀ q, q < 4 → X 14 q = vals q := r3
  have r4 : ∀ q, q < 4 → X 15 q = nI (sts q) := r4
  have r5 : X 0 40 = good := r5
  have ha4 : a < 4 := by omega
  obtain ⟨l4, l5⟩ := lp_get hSn ha
  have l4 : X 4 a = b2i (lpA lp a) := l4
  have l5 : X 5 a = b2i (lpS lp a) := l5
  obtain ⟨Y, hY⟩ : ∃ Y, Y = xs X 0 38 (nI stk.length) := ⟨_, rfl⟩
  have hYr : ∀ r, r ≠ 0 → Y r = X r := fun r hr => by rw [hY, xs_row _ _ _ hr]
  have hY0 : ∀ j, j ≠ 38 → Y 0 j = X 0 j := fun j hj => by rw [hY, xs_idx _ _ _ hj]
  have hYp : PilX Y stk := by rw [hY]; exact pil_pop r2
  have hYf : FrV X Y := by rw [hY]; exact frv_0 _ (by omega)
  obtain ⟨fl, hfl⟩ : ∃ fl, fl = (cnt && decide (a = 0)) := ⟨_, rfl⟩
  obtain ⟨X1, hX1⟩ : ∃ X1, X1 = xs Y 0 40 (good + (if fl = true then t else 0)) := ⟨_, rfl⟩
  have hE := R_ends (n := n) (d := d) hL (lp := lp) (vals := vals) t fl (by rw [hY0 35 (by decide)]; exact r1) hsz ha4 (by rw [hYr 4 (by decide)]; exact l4) (by rw [hYr 5 (by decide)]; exact l5) (by rw [hYr 14 (by decide)]; exact r3 a ha4) hYp (by omega) (by rw [hY0 40 (by decide)]; exact r5) hX1
  have hi : inA (nI a) 4 := inA_nI ha4 (by decide)
  have hc : (nI a).toNatClampNeg = a := nI_clamp (by omega)
  have n1 : ¬ (1 : Int32) = 0 := by decide
  have hX1p : PilX X1 stk := by rw [hX1]; exact pil_40 hYp _
  have hX1r : ∀ r, r ≠ 0 → X1 r = X r := fun r hr => by rw [hX1, xs_row _ _ _ hr]; exact hYr r hr
  have hX135 : X1 0 35 = nI sz := by rw [hX1, xs_idx _ _ _ (by decide), hY0 35 (by decide)]; exact r1
  have hX140 : X1 0 40 = good + (if fl = true then t else 0) := by rw [hX1, xs_eq]
  have hX1f : FrV X X1 := by rw [hX1]; exact hYf.trans (frv_0 _ (by omega))
  rw [← hY, ← hfl]
  unfold vAny
  rw [← hfl]
  have key : ∀ z : Int32, RelV (xs (xs X1 16 stk.length z) 0 38 (nI (stk.length + 1))) sz (pc + 1, z :: stk, vals, sts, good + (if fl = true then t else 0)) := fun z => by
    refine ⟨?_, pil_put hX1p z, fun q hq => ?_, fun q hq => ?_, ?_⟩
    · rw [xs_idx _ _ _ (by decide), xs_row _ _ _ (by decide)]; exact hX135
    · rw [xs_row _ _ _ (by decide), xs_row _ _ _ (by decide), hX1r 14 (by decide)]; exact r3 q hq
    · rw [xs_row _ _ _ (by decide), xs_row _ _ _ (by decide), hX1r 15 (by decide)]; exact r4 q hq
    · rw [xs_idx _ _ _ (by decide), xs_row _ _ _ (by decide)]; exact hX140
  by_cases c1 : fl = false ∧ t = (if lpA lp a then 0 else 1)
  · rw [if_pos c1] at hE ⊢
    refine ⟨_, ?_, key t, hX1f.trans ((frv_r _ (by omega)).trans (frv_0 _ (by omega)))⟩
    simp only [fM_run_119, fM_run_145, fM_run_193, mK_wR, hL.1, if_true, hE, rzC_l, rzI_e, if_neg n1]
  · rw [if_neg c1] at hE ⊢
    by_cases c2 : vals a < hlast lp sz a
    · rw [if_pos c2] at hE ⊢
      have e14 : X1 14 a = vals a := by rw [hX1r 14 (by decide)]; exact r3 a ha4
      have e15 : xs X1 14 a (vals a + 1) 15 a = nI (sts a) := by rw [xs_row _ _ _ (by decide), hX1r 15 (by decide)]; exact r4 a ha4
      refine ⟨xs X1 14 a (vals a + 1), ?_, ⟨?_, ⟨?_, ?_⟩, fun q hq => ?_, fun q hq => ?_, ?_⟩, hX1f.trans (frv_r _ (by omega))⟩
      · simp only [fM_run_119, fM_run_145, fM_run_193, mK_wR, mP_wR, mL_wR, hL.1, if_true, hE, rzC_l, rzI_e, h1, h2, h3, rzD_s, if_pos hi, hc, rzM_e, wR_at (K := 17) (r := 14) (by decide), e14, wR_set (K := 17) (r := 14) (by decide), g1, g2, g3, wR_at (K := 17) (r := 15) (by decide), e15]
      · rw [xs_row _ _ _ (by decide)]; exact hX135
      · rw [xs_row _ _ _ (by decide)]; exact hX1p.1
      · rw [xs_row _ _ _ (by decide)]; exact hX1p.2
      · show xs X1 14 a (vals a + 1) 14 q = upE vals a (vals a + 1) q
        unfold upE
        by_cases hqa : q = a
        · rw [if_pos hqa, hqa, xs_eq]
        · rw [if_neg hqa, xs_idx _ _ _ hqa, hX1r 14 (by decide)]; exact r3 q hq
      · rw [xs_row _ _ _ (by decide), hX1r 15 (by decide)]; exact r4 q hq
      · rw [xs_row _ _ _ (by decide)]; exact hX140
    · rw [if_neg c2] at hE ⊢
      refine ⟨_, ?_, key (if lpA lp a then 1 else 0), hX1f.trans ((frv_r _ (by omega)).trans (frv_0 _ (by omega)))⟩
      simp only [fM_run_119, fM_run_145, fM_run_193, mK_wR, hL.1, if_true, hE, rzC_l, rzI_e, if_neg n1]
theorem rel_do {X X' : Xr} {sz : Nat} {s : VS} {stk' : List Int32} (h : RelV X sz s) (hp : PilX X' stk') (hf : FrP X X') : RelV X' sz (s.1 + 1, stk', s.2.2.1, s.2.2.2.1, s.2.2.2.2) :=
  ⟨(hf.2 35 (by decide)).trans h.1, hp, fun q hq => by rw [hf.1 14 (by decide) (by decide)]; exact h.2.2.1 q hq, fun q hq => by rw [hf.1 15 (by decide) (by decide)]; exact h.2.2.2.1 q hq, (hf.2 40 (by decide)).trans h.2.2.2.2⟩
theorem R_step (hn : 5 ≤ n) (hL : LayM m M) (D : Nat) {sz : Nat} {code : Od} {lp : List (Bool × Bool)} {o : Bool} (cnt : Bool) (hsz : sz ≤ 4) (hlp : lp.length ≤ 4) (hcl : code.length ≤ 250) (w : Nat) {s : VS} (hSn : SenX X (code, lp) o) (hR : RelV X sz s) (hpc : s.1 < code.length) (hok : Okv lp (code.getD s.1 (0, 0)).1 (code.getD s.1 (0, 0)).2 s.2.1) :
    ∃ X', fM_run_17 n D (mR n (d + 2)) (w + 1) m (b2i cnt) (nI s.1) (wR m 17 M X) = fM_run_17 n D (mR n (d + 2)) w m (b2i cnt) (nI (vStep code lp sz cnt s).1) (wR m 17 M X') ∧ RelV X' sz (vStep code lp sz cnt s) ∧ FrV X X' := by
  obtain ⟨pc, stk, vals, sts, good⟩ := s
  have hpc : pc < code.length := hpc
  obtain ⟨x, hx⟩ : ∃ x, code[pc]? = some x := ⟨code[pc], List.getElem?_eq_getElem hpc⟩
  have hgd : code.getD pc (0, 0) = x := by rw [List.getD_eq_getElem?_getD, hx]; rfl
  obtain ⟨op, a⟩ := x
  have hok : Okv lp (code.getD pc (0, 0)).1 (code.getD pc (0, 0)).2 stk := hok
  rw [hgd] at hok
  obtain ⟨k1, k2, k3, k4, k5, k6, k7⟩ := hok
  obtain ⟨s1, s2, s3, s4, s5⟩ := hSn
  have s1 : X 0 4 = nI code.length := s1
  obtain ⟨t1, t2⟩ := s3 pc (op, a) hx
  have t1 : X 2 pc = nI op := t1
  have t2 : X 3 pc = nI a ∨ op = 19 ∨ op = 20 := t2
  obtain ⟨h1, h2, h3⟩ := lm6 hL
  obtain ⟨g1, g2, g3⟩ := lm7 hL
  have hi : inA (nI pc) 260 := inA_nI (by omega) (by decide)
  have hc : (nI pc).toNatClampNeg = pc := nI_clamp (by omega)
  have hnl : ¬ nI code.length ≤ nI pc := nI_ge hpc (by omega)
  have q12 : nI op = 12 ↔ op = 12 := cq (by omega) 12 (by omega) rfl
  have q5 : nI op = 5 ↔ op = 5 := cq (by omega) 5 (by omega) rfl
  have q21 : nI op = 21 ↔ op = 21 := cq (by omega) 21 (by omega) rfl
  have q11 : nI op = 11 ↔ op = 11 := cq (by omega) 11 (by omega) rfl
  have l13 : (nI op < 13) ↔ op < 13 := nI_ltI (b := 13) (by omega) (by decide)
  have l18 : (nI op ≤ 18) ↔ op ≤ 18 := nI_leI (b := 18) (by omega) (by decide)
  rw [fM_run_17]
  simp only [mK_wR, mP_wR, mL_wR, hL.1, if_true, wR_at0 (K := 17) (by decide), s1, if_neg hnl, h1, h2, h3, g1, g2, g3, rzD_s, if_pos hi, hc, wR_at (K := 17) (r := 2) (by decide), wR_at (K := 17) (r := 3) (by decide), t1]
  unfold vStep
  simp only [hgd]
  by_cases o12 : op = 12
  · have ta : X 3 pc = nI a := by
      rcases t2 with h | h | h
      · exact h
      · omega
      · omega
    have ha := k3 (Or.inl o12)
    have ha4 : a < 4 := by omega
    obtain ⟨l4, l5⟩ := lp_get ⟨s1, s2, s3, s4, s5⟩ ha
    have l5 : X 5 a = b2i (lpS lp a) := l5
    obtain ⟨a1, a2, a3⟩ := lm9 hL
    obtain ⟨b1, b2, b3⟩ := lm36 hL
    obtain ⟨c1, c2, c3⟩ := lm37 hL
    have hia : inA (nI a) 4 := inA_nI ha4 (by decide)
    have hca : (nI a).toNatClampNeg = a := nI_clamp (by omega)
    rw [if_pos (q12.mpr o12), if_pos o12]
    have key : ∀ z : Int32, z = lo0 (lpS lp a) → ∃ X', fM_run_75 n D (mR n (d + 2)) (fM_run_17 n D (mR n (d + 2)) w) m (b2i cnt) (nI a) (nI pc + 1) z (nI a) (some (m + 14)) (wR m 17 M X) = fM_run_17 n D (mR n (d + 2)) w m (b2i cnt) (nI (pc + 1)) (wR m 17 M X') ∧ RelV X' sz (pc + 1, stk, upE vals a (lo0 (lpS lp a)), (fun q => if q = a then pc + 1 else sts q), good) ∧ FrV X X' := by
      intro z hz
      subst hz
      refine ⟨xs (xs X 14 a (lo0 (lpS lp a))) 15 a (nI (pc + 1)), ?_, ⟨?_, ⟨?_, ?_⟩, fun q hq => ?_, fun q hq => ?_, ?_⟩, (frv_r _ (by omega)).trans (frv_r _ (by omega))⟩
      · simp only [fM_run_75, fM_run_193, rzD_s, mK_wR, mP_wR, mL_wR, hL.1, if_true, b2, b3, if_pos hia, hca, rzM_e, wR_set (K := 17) (r := 14) (by decide), c1, c2, c3, wR_set (K := 17) (r := 15) (by decide), nI_1]
      · rw [xs_row _ _ _ (by decide), xs_row _ _ _ (by decide)]; exact hR.1
      · rw [xs_row _ _ _ (by decide), xs_row _ _ _ (by decide)]; exact hR.2.1.1
      · rw [xs_row _ _ _ (by decide), xs_row _ _ _ (by decide)]; exact hR.2.1.2
      · show xs (xs X 14 a (lo0 (lpS lp a))) 15 a (nI (pc + 1)) 14 q = upE vals a (lo0 (lpS lp a)) q
        rw [xs_row _ _ _ (by decide)]
        unfold upE
        by_cases hqa : q = a
        · rw [if_pos hqa, hqa, xs_eq]
        · rw [if_neg hqa, xs_idx _ _ _ hqa]; exact hR.2.2.1 q hq
      · show xs (xs X 14 a (lo0 (lpS lp a))) 15 a (nI (pc + 1)) 15 q = nI (if q = a then pc + 1 else sts q)
        by_cases hqa : q = a
        · rw [if_pos hqa, hqa, xs_eq]
        · rw [if_neg hqa, xs_idx _ _ _ hqa, xs_row _ _ _ (by decide)]; exact hR.2.2.2.1 q hq
      · rw [xs_row _ _ _ (by decide), xs_row _ _ _ (by decide)]; exact hR.2.2.2.2
    simp only [a1, a2, a3, b1, rzD_s, if_true, ta, if_pos hia, hca, wR_at (K := 17) (r := 5) (by decide), l5]
    cases hS : lpS lp a
    · rw [if_pos (show b2i false = 0 from rfl)]
      have := key (-8) (by rw [hS]; rfl)
      rw [hS] at this
      exact this
    · rw [if_neg (show ¬ b2i true = 0 by decide)]
      have := key 0 (by rw [hS]; rfl)
      rw [hS] at this
      exact this
  · rw [if_neg (fun q => o12 (q12.mp q)), if_neg o12]
    by_cases o5 : op = 5
    · have ta : X 3 pc = nI a := by
        rcases t2 with h | h | h
        · exact h
        · omega
        · omega
      have ha := k3 (Or.inr o5)
      obtain ⟨t, s', rfl⟩ := stk1 (by rw [o5] at k1; exact k1)
      have k2' : s'.length + 1 ≤ 255 := k2
      obtain ⟨X', e1, e2, e3⟩ := R_any (n := n) (d := d) hL (fM_run_17 n D (mR n (d + 2)) w) D t (b2i cnt) cnt hsz hlp ha ⟨s1, s2, s3, s4, s5⟩ hR (by omega)
      refine ⟨X', ?_, by rw [if_pos o5]; exact e2, e3⟩
      rw [if_pos (q5.mpr o5), if_pos o5]
      have hpp : mR n (d + 2) 97 [.ref m] (wR m 17 M X) = _ := x_pop (d := d + 1) hL hR.2.1 (show s'.length < 260 by omega)
      simp only [hpp, rzC_l, rzI_e, ta, nI_1, fM_run_118]
      have qa : nI a = 0 ↔ a = 0 := cq (by omega) 0 (by omega) rfl
      show _ = fM_run_17 n D (mR n (d + 2)) w m (b2i cnt) (nI (vAny lp sz cnt a pc t s' vals sts good).1) (wR m 17 M X')
      rw [← e1]
      cases cnt
      · rw [if_pos (show b2i false = 0 from rfl)]; rfl
      · rw [if_neg (show ¬ b2i true = 0 by decide)]
        by_cases a0 : a = 0
        · rw [if_pos (qa.mpr a0), show b2i (true && decide (a = 0)) = 1 from by rw [decide_eq_true a0]; rfl]
        · rw [if_neg (fun q => a0 (qa.mp q)), show b2i (true && decide (a = 0)) = 0 from by rw [decide_eq_false a0]; rfl]
    · rw [if_neg (fun q => o5 (q5.mp q)), if_neg o5]
      have keyS : (op = 18 ∨ op = 16 ∨ op = 17 ∨ op = 11 ∨ op = 21 ∨ op = 13 ∨ op = 15 ∨ op = 14) → ∃ X', fM_run_176 n D (mR n (d + 2)) (fM_run_17 n D (mR n (d + 2)) w) m (b2i cnt) (nI op) (X 3 pc) (nI pc + 1) (wR m 17 M X) = fM_run_17 n D (mR n (d + 2)) w m (b2i cnt) (nI (pc + 1)) (wR m 17 M X') ∧ RelV X' sz (pc + 1, vDo sz op a vals stk, vals, sts, good) ∧ FrV X X' := by
        intro hop
        have ta : X 3 pc = nI a := by
          rcases t2 with h | h | h
          · exact h
          · omega
          · omega
        obtain ⟨X', e1, e2, e3⟩ := R_doSum (n := n) (d := d) hn hL hR.1 hR.2.2.1 hR.2.1 hop k1 k2 k4 k6 k7
        refine ⟨X', ?_, rel_do hR e2 e3, frv_p e3⟩
        simp only [fM_run_176, fM_run_193, mK_wR, hL.1, if_true, ta, e1, rzC_l, rzV_e, nI_1]
      have keyO : ¬ (op = 18 ∨ op = 16 ∨ op = 17 ∨ op = 11 ∨ op = 21 ∨ op = 13 ∨ op = 15 ∨ op = 14) → ∃ X', fM_run_162 n D (mR n (d + 2)) (fM_run_17 n D (mR n (d + 2)) w) m (b2i cnt) (nI op) (X 3 pc) (nI pc + 1) (wR m 17 M X) = fM_run_17 n D (mR n (d + 2)) w m (b2i cnt) (nI (pc + 1)) (wR m 17 M X') ∧ RelV X' sz (pc + 1, vDo sz op a vals stk, vals, sts, good) ∧ FrV X X' := by
        intro hop
        obtain ⟨X', e1, e2, e3⟩ := R_doOther (n := n) (d := d) (a := a) (vals := vals) hL hR.1 hsz hR.2.1 hop o12 o5 k5 k1 k2
        refine ⟨X', ?_, rel_do hR e2 e3, frv_p e3⟩
        simp only [fM_run_162, fM_run_193, mK_wR, hL.1, if_true, if_neg (fun q => hop (by have := q21.mp q; omega)), if_neg (fun q => hop (by have := q11.mp q; omega)), e1, rzC_l, rzV_e, nI_1]
      by_cases l1 : op < 13
      · rw [if_pos (l13.mpr l1)]
        by_cases o11 : op = 11
        · rw [fM_run_162, if_neg (fun q => by have := q21.mp q; omega), if_pos (q11.mpr o11)]
          exact keyS (by omega)
        · exact keyO (by omega)
      · rw [if_neg (fun q => l1 (l13.mp q))]
        by_cases l2 : op ≤ 18
        · rw [if_pos (l18.mpr l2)]
          exact keyS (by omega)
        · rw [if_neg (fun q => l2 (l18.mp q))]
          by_cases o21 : op = 21
          · rw [fM_run_162, if_pos (q21.mpr o21)]
            exact keyS (by omega)
          · exact keyO (by omega)
theorem R_runs (hn : 5 ≤ n) (hL : LayM m M) (D : Nat) {sz : Nat} {code : Od} {lp : List (Bool × Bool)} {o : Bool} (cnt : Bool) (hsz : sz ≤ 4) (hlp : lp.length ≤ 4) (hcl : code.length ≤ 250) : ∀ (t w : Nat) (s s' : VS) (X : Xr), t < w → SenX X (code, lp) o → RelV X sz s → Rn code lp sz cnt t s s' →
    ∃ X' w', fM_run_17 n D (mR n (d + 2)) w m (b2i cnt) (nI s.1) (wR m 17 M X) = fM_run_17 n D (mR n (d + 2)) (w' + 1) m (b2i cnt) (nI s'.1) (wR m 17 M X') ∧ RelV X' sz s' ∧ FrV X X'
  | 0, w, s, s', X, hw, hS, hR, h => by
    have h : s = s' := h
    subst h
    exact ⟨X, w - 1, by rw [show w - 1 + 1 = w by omega], hR, frv_rfl⟩
  | t + 1, w, s, s', X, hw, hS, hR, h => by
    obtain ⟨w, rfl⟩ : ∃ w', w = w' + 1 := ⟨w - 1, by omega⟩
    obtain ⟨⟨h1, h2⟩, h3⟩ := h
    obtain ⟨X1, e1, e2, e3⟩ := R_step (n := n) (d := d) hn hL D cnt hsz hlp hcl w hS hR h1 h2
    obtain ⟨X2, w2, f1, f2, f3⟩ := R_runs hn hL D cnt hsz hlp hcl t w _ s' X1 (by omega) (sen_fr hS e3) e2 h3
    exact ⟨X2, w2, by rw [e1, f1], f2, e3.trans f3⟩
/-- run of the reference -/
theorem R_run (hL : LayM m M) {sz t : Nat} {code : Od} {lp : List (Bool × Bool)} {o : Bool} (cnt : Bool) (hsz : sz ≤ 4) (hlp : lp.length ≤ 4) (hcl : code.length ≤ 250) (htn : t < n) (hn : 5 ≤ n) (hSn : SenX X (code, lp) o) {vals vals' : Ev} {sts sts' : Nat → Nat} {x good : Int32} (hv : ∀ q, q < 4 → X 14 q = vals q) (hst : ∀ q, q < 4 → X 15 q = nI (sts q)) (hr : Rn code lp sz cnt t (0, [], vals, sts, 0) (code.length, [x], vals', sts', good)) :
    ∃ X', mR n (d + 3) 96 [.ref m, .int (nI sz), .int (b2i cnt)] (wR m 17 M X) = some (.inl (some (.int (b2i (decide (x = 1))))), wR m 17 M X') ∧ X' 0 40 = good ∧ FrV X X' := by
  obtain ⟨h1, h2, h3⟩ := lm39 hL
  obtain ⟨Y, hY⟩ : ∃ Y, Y = xs (xs (xs X 0 35 (nI sz)) 0 38 0) 0 40 0 := ⟨_, rfl⟩
  have hYf : FrV X Y := by rw [hY]; exact (frv_0 _ (by omega)).trans ((frv_0 _ (by omega)).trans (frv_0 _ (by omega)))
  have hYr : ∀ r, r ≠ 0 → Y r = X r := fun r hr => by rw [hY, xs_row _ _ _ hr, xs_row _ _ _ hr, xs_row _ _ _ hr]
  have hYR : RelV Y sz (0, [], vals, sts, 0) := by
    refine ⟨?_, ⟨?_, True.intro⟩, fun q hq => ?_, fun q hq => ?_, ?_⟩
    · rw [hY, xs_idx _ _ _ (by decide), xs_idx _ _ _ (by decide), xs_eq]
    · rw [hY, xs_idx _ _ _ (by decide), xs_eq]; rfl
    · rw [hYr 14 (by decide)]; exact hv q hq
    · rw [hYr 15 (by decide)]; exact hst q hq
    · rw [hY, xs_eq]
  obtain ⟨X', w', e1, e2, e3⟩ := R_runs (n := n) (d := d) hn hL (d + 2) cnt hsz hlp hcl t n _ _ Y htn (sen_fr hSn hYf) hYR hr
  refine ⟨X', ?_, e2.2.2.2.2, hYf.trans e3⟩
  have e1' : fM_run_17 n (d + 2) (mR n (d + 2)) n m (b2i cnt) 0 (wR m 17 M Y) = fM_run_17 n (d + 2) (mR n (d + 2)) (w' + 1) m (b2i cnt) (nI code.length) (wR m 17 M X') := e1
  have hSn' := sen_fr hSn (hYf.trans e3)
  have s1 : X' 0 4 = nI code.length := hSn'.1
  have hle : nI code.length ≤ nI code.length := nI_le (Nat.le_refl _) (by omega)
  have hx : X' 16 0 = x := e2.2.1.2.1
  have hi0 : inA 0 260 := inA_nI (o := 0) (by decide) (by decide)
  have hc0 : (0 : Int32).toNatClampNeg = 0 := nI_clamp (n := 0) (by decide)
  rw [eM_run]
  simp only [fM_run_0, mK_wR, hL.1, if_true, rzM_e, wR_set0 (K := 17) (by decide)]
  rw [← hY, e1', fM_run_17]
  simp only [mK_wR, mP_wR, mL_wR, hL.1, if_true, wR_at0 (K := 17) (by decide), s1, if_pos hle, h1, h2, h3, rzD_s, if_pos hi0, hc0, wR_at (K := 17) (r := 16) (by decide), hx, fM_run_214, fbb0, fbb1]
  by_cases hx1 : x = 1
  · rw [if_pos hx1, decide_eq_true hx1]; rfl
  · rw [if_neg hx1, decide_eq_false hx1]; rfl
end RunE
