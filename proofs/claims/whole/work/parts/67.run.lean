/-! the reference's pile and its orders in memory -/
def Pile (f : Nat → Int32) : List Int32 → Prop
  | [] => True
  | x :: s => f s.length = x ∧ Pile f s
theorem pile_up {f g : Nat → Int32} : ∀ {s : List Int32}, (∀ i, i < s.length → g i = f i) → Pile f s → Pile g s
  | [], _, _ => True.intro
  | x :: s, h, hp => ⟨(h s.length (by simp)).trans hp.1, pile_up (fun i hi => h i (by simp only [List.length_cons]; omega)) hp.2⟩
def PilX (X : Xr) (s : List Int32) : Prop := X 0 38 = nI s.length ∧ Pile (X 16) s
def FrP (X X' : Xr) : Prop := (∀ r, r ≠ 0 → r ≠ 16 → X' r = X r) ∧ ∀ j, j ≠ 38 → X' 0 j = X 0 j
theorem frp_rfl {X : Xr} : FrP X X := ⟨fun _ _ _ => rfl, fun _ _ => rfl⟩
theorem FrP.trans {X Y Z : Xr} (h1 : FrP X Y) (h2 : FrP Y Z) : FrP X Z := ⟨fun r a b => (h2.1 r a b).trans (h1.1 r a b), fun j a => (h2.2 j a).trans (h1.2 j a)⟩
section PilS
variable {X : Xr} {x z : Int32} {s : List Int32}
theorem pil_set (h : PilX X (x :: s)) (z : Int32) : PilX (xs X 16 s.length z) (z :: s) := ⟨by rw [xs_row _ _ _ (by decide)]; exact h.1, xs_eq _ _ _ _, pile_up (fun i hi => xs_idx _ _ _ (by omega)) h.2.2⟩
theorem pil_put (h : PilX X s) (z : Int32) : PilX (xs (xs X 16 s.length z) 0 38 (nI (s.length + 1))) (z :: s) := ⟨xs_eq _ _ _ _, by rw [xs_row _ _ _ (by decide), xs_eq], by rw [xs_row _ _ _ (by decide)]; exact pile_up (fun i hi => xs_idx _ _ _ (by omega)) h.2⟩
theorem pil_pop (h : PilX X (x :: s)) : PilX (xs X 0 38 (nI s.length)) s := ⟨xs_eq _ _ _ _, by rw [xs_row _ _ _ (by decide)]; exact h.2.2⟩
theorem frp_set (j : Nat) (z : Int32) : FrP X (xs X 16 j z) := ⟨fun r _ b => xs_row _ _ _ b, fun j' _ => by rw [xs_row _ _ _ (by decide)]⟩
theorem frp_38 (z : Int32) : FrP X (xs X 0 38 z) := ⟨fun r a _ => xs_row _ _ _ a, fun j' b => xs_idx _ _ _ b⟩
end PilS
theorem full_e : ∀ k, k < 5 → ((1 : Int32) <<< (nI k &&& 31)) - 1 = hfull k := by decide +kernel
section RunL
variable {n d m : Nat} {M : Mem} {X : Xr}
theorem x_put (hL : LayM m M) {s : List Int32} (ho : PilX X s) (h : s.length < 260) (w : Int32) : mR n (d + 1) 100 [.ref m, .int w] (wR m 17 M X) = some (.inl none, wR m 17 M (xs (xs X 16 s.length w) 0 38 (nI (s.length + 1)))) := by
  obtain ⟨h1, h2, h3⟩ := lm39 hL
  rw [eM_put]
  have hi : inA (nI s.length) 260 := inA_nI h (by decide)
  have hc : (nI s.length).toNatClampNeg = s.length := nI_clamp (by omega)
  simp only [fM_put_0, mK_wR, mP_wR, mL_wR, hL.1, h1, h2, h3, if_true, rzD_s, rzM_e, wR_at0 (K := 17) (by decide), ho.1, if_pos hi, hc, wR_set (K := 17) (r := 16) (by decide), wR_set0 (K := 17) (by decide), xs_row _ _ _ (show 0 ≠ 16 by decide), nI_1]
theorem x_pop (hL : LayM m M) {x : Int32} {s : List Int32} (ho : PilX X (x :: s)) (h : s.length < 260) : mR n (d + 1) 97 [.ref m] (wR m 17 M X) = some (.inl (some (.int x)), wR m 17 M (xs X 0 38 (nI s.length))) := by
  obtain ⟨h1, h2, h3⟩ := lm39 hL
  rw [eM_pop]
  have hi : inA (nI s.length) 260 := inA_nI h (by decide)
  have hc : (nI s.length).toNatClampNeg = s.length := nI_clamp (by omega)
  have h0 : X 0 38 = nI (s.length + 1) := ho.1
  have hx : xs X 0 38 (nI s.length) 16 s.length = x := by rw [xs_row _ _ _ (by decide)]; exact ho.2.1
  simp only [fM_pop_0, mK_wR, mP_wR, mL_wR, hL.1, h1, h2, h3, if_true, rzD_s, rzM_e, wR_at0 (K := 17) (by decide), h0, nI_pred, wR_set0 (K := 17) (by decide), xs_eq, if_pos hi, hc, wR_at (K := 17) (r := 16) (by decide), hx]
theorem x_count (hn : 5 ≤ n) (x : Int32) (M : Mem) : mR n (d + 1) 102 [.int x] M = some (.inl (some (.int (hcount x))), M) := by
  obtain ⟨n, rfl⟩ : ∃ n', n = n' + 5 := ⟨n - 5, by omega⟩
  rw [eM_count]
  have c0 : ¬ (4 : Int32) ≤ 0 := by decide
  have c1 : ¬ (4 : Int32) ≤ 0 + 1 := by decide
  have c2 : ¬ (4 : Int32) ≤ 0 + 1 + 1 := by decide
  have c3 : ¬ (4 : Int32) ≤ 0 + 1 + 1 + 1 := by decide
  have c4 : (4 : Int32) ≤ 0 + 1 + 1 + 1 + 1 := by decide
  have s0 : (0 : Int32) &&& 31 = 0 := by decide
  have s1 : (0 + 1 : Int32) &&& 31 = 1 := by decide
  have s2 : (0 + 1 + 1 : Int32) &&& 31 = 2 := by decide
  have s3 : (0 + 1 + 1 + 1 : Int32) &&& 31 = 3 := by decide
  have z : ∀ y : Int32, (0 : Int32) + y = y := fun y => Int32.zero_add y
  rw [fM_count_0, fM_count_4, if_neg c0, fM_count_4, if_neg c1, fM_count_4, if_neg c2, fM_count_4, if_neg c3, fM_count_4, if_pos c4, s0, s1, s2, s3]
  simp only [hcount, hbit, Int32.zero_add]
theorem x_lastOf (hL : LayM m M) {sz q : Nat} {s : Bool} (h35 : X 0 35 = nI sz) (hsz : sz ≤ 4) (hq : q < 4) (h5 : X 5 q = b2i s) : mR n (d + 1) 99 [.ref m, .int (nI q)] (wR m 17 M X) = some (.inl (some (.int (if s then hfull sz else 8))), wR m 17 M X) := by
  obtain ⟨h1, h2, h3⟩ := lm9 hL
  rw [eM_lastOf]
  have hi : inA (nI q) 4 := inA_nI hq (by decide)
  have hc : (nI q).toNatClampNeg = q := nI_clamp (by omega)
  have n1 : ¬ (1 : Int32) = 0 := by decide
  cases s
  · have h5' : X 5 q = 0 := h5
    simp only [fM_lastOf_0, fM_lastOf_22, mK_wR, mP_wR, mL_wR, hL.1, h1, h2, h3, if_true, rzD_s, if_pos hi, hc, wR_at (K := 17) (r := 5) (by decide), h5']
    rfl
  · have h5' : X 5 q = 1 := h5
    simp only [fM_lastOf_0, fM_lastOf_22, mK_wR, mP_wR, mL_wR, hL.1, h1, h2, h3, if_true, rzD_s, if_pos hi, hc, wR_at (K := 17) (r := 5) (by decide), wR_at0 (K := 17) (by decide), h5', if_neg n1, h35, full_e sz (by omega)]
/-- one value on top of the pile is put in the place of another -/
def Dne (n d m : Nat) (M : Mem) (X : Xr) (j : Nat) (args : List Value) (stk' : List Int32) : Prop := ∃ X', mR n d j args (wR m 17 M X) = some (.inl none, wR m 17 M X') ∧ PilX X' stk' ∧ FrP X X'
theorem stk1 {stk : List Int32} (h : 1 ≤ stk.length) : ∃ x s, stk = x :: s := by
  cases stk with
  | nil => exact absurd h (by simp)
  | cons x s => exact ⟨x, s, rfl⟩
theorem stk2 {stk : List Int32} (h : 2 ≤ stk.length) : ∃ y x s, stk = y :: x :: s := by
  cases stk with
  | nil => exact absurd h (by simp)
  | cons y s => cases s with
    | nil => exact absurd h (by simp)
    | cons x s => exact ⟨y, x, s, rfl⟩
theorem R_doSum (hn : 5 ≤ n) (hL : LayM m M) {sz w a : Nat} {vals : Ev} {stk : List Int32} (h35 : X 0 35 = nI sz) (hv : ∀ q, q < 4 → X 14 q = vals q) (hp : PilX X stk) (hw : w = 18 ∨ w = 16 ∨ w = 17 ∨ w = 11 ∨ w = 21 ∨ w = 13 ∨ w = 15 ∨ w = 14) (ho : need w ≤ stk.length) (hs : stk.length ≤ 255) (h14 : w = 14 → a < 4) (h21 : w = 21 → a ≠ 0) (ha : a < 10000) : Dne n (d + 2) m M X 101 [.ref m, .int (nI w), .int (nI a)] (vDo sz w a vals stk) := by
  obtain ⟨h1, h2, h3⟩ := lm39 hL
  unfold Dne
  rcases hw with rfl | rfl | rfl | rfl | rfl | rfl | rfl | rfl
  · obtain ⟨y, x, s, rfl⟩ := stk2 ho
    have hs' : s.length + 2 ≤ 255 := hs
    have hi : inA (nI s.length) 260 := inA_nI (by omega) (by decide)
    have hc : (nI s.length).toNatClampNeg = s.length := nI_clamp (by omega)
    have hp1 := pil_pop hp
    have e38 : xs X 0 38 (nI (x :: s).length) 0 38 = nI (s.length + 1) := xs_eq _ _ _ _
    refine ⟨_, ?_, pil_set hp1 (x + y), (frp_38 _).trans (frp_set _ _)⟩
    rw [show nI 18 = 18 from rfl, eM_doSum]
    simp only [fM_doSum_0, fM_doSum_202, if_true, mK_wR, mP_wR, mL_wR, hL.1, h1, h2, h3, rzD_s, rzM_e, rzC_l, rzI_e, x_pop hL hp (show (x :: s).length < 260 from by show s.length + 1 < 260; omega), wR_at0 (K := 17) (by decide), wR_at (K := 17) (r := 16) (by decide), e38, nI_pred, if_pos hi, hc, wR_set (K := 17) (r := 16) (by decide), hp1.2.1]
  · obtain ⟨x, s, rfl⟩ := stk1 ho
    have hs' : s.length + 1 ≤ 255 := hs
    have hi : inA (nI s.length) 260 := inA_nI (by omega) (by decide)
    have hc : (nI s.length).toNatClampNeg = s.length := nI_clamp (by omega)
    have e38 : X 0 38 = nI (s.length + 1) := hp.1
    refine ⟨_, ?_, pil_set hp (nI a * x), frp_set _ _⟩
    rw [show nI 16 = 16 from rfl, eM_doSum, fM_doSum_0, if_neg (show ¬ (16 : Int32) = 18 by decide), if_pos rfl]
    simp only [fM_doSum_202, if_true, mK_wR, mP_wR, mL_wR, hL.1, h1, h2, h3, rzD_s, rzM_e, wR_at0 (K := 17) (by decide), wR_at (K := 17) (r := 16) (by decide), e38, nI_pred, if_pos hi, hc, wR_set (K := 17) (r := 16) (by decide), hp.2.1]
  · obtain ⟨x, s, rfl⟩ := stk1 ho
    have hs' : s.length + 1 ≤ 255 := hs
    have hi : inA (nI s.length) 260 := inA_nI (by omega) (by decide)
    have hc : (nI s.length).toNatClampNeg = s.length := nI_clamp (by omega)
    have e38 : X 0 38 = nI (s.length + 1) := hp.1
    refine ⟨_, ?_, pil_set hp (-x), frp_set _ _⟩
    rw [show nI 17 = 17 from rfl, eM_doSum, fM_doSum_0, if_neg (show ¬ (17 : Int32) = 18 by decide), if_neg (show ¬ (17 : Int32) = 16 by decide), if_pos rfl]
    simp only [fM_doSum_202, if_true, mK_wR, mP_wR, mL_wR, hL.1, h1, h2, h3, rzD_s, rzM_e, wR_at0 (K := 17) (by decide), wR_at (K := 17) (r := 16) (by decide), e38, nI_pred, if_pos hi, hc, wR_set (K := 17) (r := 16) (by decide), hp.2.1]
  · obtain ⟨x, s, rfl⟩ := stk1 ho
    have hs' : s.length + 1 ≤ 255 := hs
    have hi : inA (nI s.length) 260 := inA_nI (by omega) (by decide)
    have hc : (nI s.length).toNatClampNeg = s.length := nI_clamp (by omega)
    have e38 : X 0 38 = nI (s.length + 1) := hp.1
    refine ⟨_, ?_, pil_set hp (hcount x), frp_set _ _⟩
    rw [show nI 11 = 11 from rfl, eM_doSum, fM_doSum_0, if_neg (show ¬ (11 : Int32) = 18 by decide), if_neg (show ¬ (11 : Int32) = 16 by decide), if_neg (show ¬ (11 : Int32) = 17 by decide), if_pos rfl]
    simp only [fM_doSum_202, if_true, mK_wR, mP_wR, mL_wR, hL.1, h1, h2, h3, rzD_s, rzM_e, rzC_l, rzI_e, x_count hn, wR_at0 (K := 17) (by decide), wR_at (K := 17) (r := 16) (by decide), e38, nI_pred, if_pos hi, hc, wR_set (K := 17) (r := 16) (by decide), hp.2.1]
  · obtain ⟨x, s, rfl⟩ := stk1 ho
    have hs' : s.length + 1 ≤ 255 := hs
    have hi : inA (nI s.length) 260 := inA_nI (by omega) (by decide)
    have hc : (nI s.length).toNatClampNeg = s.length := nI_clamp (by omega)
    have e38 : X 0 38 = nI (s.length + 1) := hp.1
    have ha0 : ¬ nI a = 0 := nI_ne0 (by have := h21 rfl; omega) (by omega)
    refine ⟨_, ?_, pil_set hp (b2i (decide (x - x / nI a * nI a = 0))), frp_set _ _⟩
    rw [show nI 21 = 21 from rfl, eM_doSum, fM_doSum_0, if_neg (show ¬ (21 : Int32) = 18 by decide), if_neg (show ¬ (21 : Int32) = 16 by decide), if_neg (show ¬ (21 : Int32) = 17 by decide), if_neg (show ¬ (21 : Int32) = 11 by decide), if_pos rfl]
    by_cases hz : x - x / nI a * nI a = 0
    · simp only [fM_doSum_165, fM_doSum_202, if_true, mK_wR, mP_wR, mL_wR, hL.1, h1, h2, h3, rzD_s, rzM_e, wR_at0 (K := 17) (by decide), wR_at (K := 17) (r := 16) (by decide), e38, nI_pred, if_pos hi, hc, wR_set (K := 17) (r := 16) (by decide), hp.2.1, if_pos ha0, if_pos hz, decide_eq_true hz, b2i]
    · simp only [fM_doSum_165, fM_doSum_202, if_true, mK_wR, mP_wR, mL_wR, hL.1, h1, h2, h3, rzD_s, rzM_e, wR_at0 (K := 17) (by decide), wR_at (K := 17) (r := 16) (by decide), e38, nI_pred, if_pos hi, hc, wR_set (K := 17) (r := 16) (by decide), hp.2.1, if_pos ha0, if_neg hz, decide_eq_false hz, b2i, Bool.false_eq_true, if_false]
  · refine ⟨_, ?_, pil_put hp (nI a), (frp_set _ _).trans (frp_38 _)⟩
    rw [show nI 13 = 13 from rfl, eM_doSum, fM_doSum_0, if_neg (show ¬ (13 : Int32) = 18 by decide), if_neg (show ¬ (13 : Int32) = 16 by decide), if_neg (show ¬ (13 : Int32) = 17 by decide), if_neg (show ¬ (13 : Int32) = 11 by decide), if_neg (show ¬ (13 : Int32) = 21 by decide), if_pos rfl]
    simp only [fM_doSum_199, fM_doSum_202, mK_wR, hL.1, if_true, x_put hL hp (show stk.length < 260 by omega), rzC_l, rzV_e]
  · refine ⟨_, ?_, pil_put hp (nI sz), (frp_set _ _).trans (frp_38 _)⟩
    rw [show nI 15 = 15 from rfl, eM_doSum, fM_doSum_0, if_neg (show ¬ (15 : Int32) = 18 by decide), if_neg (show ¬ (15 : Int32) = 16 by decide), if_neg (show ¬ (15 : Int32) = 17 by decide), if_neg (show ¬ (15 : Int32) = 11 by decide), if_neg (show ¬ (15 : Int32) = 21 by decide), if_neg (show ¬ (15 : Int32) = 13 by decide), if_pos rfl]
    simp only [fM_doSum_199, fM_doSum_202, mK_wR, hL.1, if_true, wR_at0 (K := 17) (by decide), h35, x_put hL hp (show stk.length < 260 by omega), rzC_l, rzV_e]
  · have ha4 := h14 rfl
    obtain ⟨g1, g2, g3⟩ := lm36 hL
    have hi : inA (nI a) 4 := inA_nI (by omega) (by decide)
    have hc : (nI a).toNatClampNeg = a := nI_clamp (by omega)
    refine ⟨_, ?_, pil_put hp (vals a), (frp_set _ _).trans (frp_38 _)⟩
    rw [show nI 14 = 14 from rfl, eM_doSum, fM_doSum_0, if_neg (show ¬ (14 : Int32) = 18 by decide), if_neg (show ¬ (14 : Int32) = 16 by decide), if_neg (show ¬ (14 : Int32) = 17 by decide), if_neg (show ¬ (14 : Int32) = 11 by decide), if_neg (show ¬ (14 : Int32) = 21 by decide), if_neg (show ¬ (14 : Int32) = 13 by decide), if_neg (show ¬ (14 : Int32) = 15 by decide)]
    simp only [fM_doSum_199, fM_doSum_202, mK_wR, mP_wR, mL_wR, hL.1, g1, g2, g3, rzD_s, if_true, if_pos hi, hc, wR_at (K := 17) (r := 14) (by decide), hv a ha4, x_put hL hp (show stk.length < 260 by omega), rzC_l, rzV_e]
theorem R_doOther (hL : LayM m M) {sz w a : Nat} {vals : Ev} {stk : List Int32} (h35 : X 0 35 = nI sz) (hsz : sz ≤ 4) (hp : PilX X stk) (hw : ¬ (w = 18 ∨ w = 16 ∨ w = 17 ∨ w = 11 ∨ w = 21 ∨ w = 13 ∨ w = 15 ∨ w = 14)) (h12 : w ≠ 12) (h5 : w ≠ 5) (hw24 : w ≤ 24) (ho : need w ≤ stk.length) (hs : stk.length ≤ 255) : Dne n (d + 2) m M X 103 [.ref m, .int (nI w)] (vDo sz w a vals stk) := by
  obtain ⟨h1, h2, h3⟩ := lm39 hL
  have hf := full_e sz (by omega)
  have q23 : nI w = 23 ↔ w = 23 := cq (by omega) 23 (by omega) rfl
  have q24 : nI w = 24 ↔ w = 24 := cq (by omega) 24 (by omega) rfl
  have q9 : nI w = 9 ↔ w = 9 := cq (by omega) 9 (by omega) rfl
  have q3 : nI w = 3 ↔ w = 3 := cq (by omega) 3 (by omega) rfl
  have q7 : nI w = 7 ↔ w = 7 := cq (by omega) 7 (by omega) rfl
  have q1 : nI w = 1 ↔ w = 1 := cq (by omega) 1 (by omega) rfl
  have q8 : nI w = 8 ↔ w = 8 := cq (by omega) 8 (by omega) rfl
  have q2 : nI w = 2 ↔ w = 2 := cq (by omega) 2 (by omega) rfl
  have q20 : nI w = 20 ↔ w = 20 := cq (by omega) 20 (by omega) rfl
  have q19 : nI w = 19 ↔ w = 19 := cq (by omega) 19 (by omega) rfl
  unfold Dne
  by_cases w23 : w = 23
  · subst w23
    refine ⟨_, ?_, pil_put hp 0, (frp_set _ _).trans (frp_38 _)⟩
    rw [eM_doOther]
    simp only [fM_doOther_0, fM_doOther_21, fM_doOther_33, fM_doOther_225, mK_wR, hL.1, if_true, if_pos (q23.mpr rfl), x_put hL hp (show stk.length < 260 by omega), rzC_l, rzV_e]
  · by_cases w24 : w = 24
    · subst w24
      refine ⟨_, ?_, pil_put hp (hfull sz), (frp_set _ _).trans (frp_38 _)⟩
      rw [eM_doOther]
      simp only [fM_doOther_0, fM_doOther_21, fM_doOther_33, fM_doOther_225, mK_wR, hL.1, if_true, if_neg (fun q => w23 (q23.mp q)), if_pos (q24.mpr rfl), wR_at0 (K := 17) (by decide), h35, hf, x_put hL hp (show stk.length < 260 by omega), rzC_l, rzV_e]
    · by_cases w9 : w = 9
      · subst w9
        obtain ⟨x, s, rfl⟩ := stk1 ho
        have hs' : s.length + 1 ≤ 255 := hs
        have hi : inA (nI s.length) 260 := inA_nI (by omega) (by decide)
        have hc : (nI s.length).toNatClampNeg = s.length := nI_clamp (by omega)
        have e38 : X 0 38 = nI (s.length + 1) := hp.1
        refine ⟨_, ?_, pil_set hp (hfull sz &&& hnot x), frp_set _ _⟩
        rw [eM_doOther]
        simp only [fM_doOther_0, fM_doOther_225, mK_wR, mP_wR, mL_wR, hL.1, h1, h2, h3, rzD_s, rzM_e, if_true, if_neg (fun q => w23 (q23.mp q)), if_neg (fun q => w24 (q24.mp q)), if_pos (q9.mpr rfl), wR_at0 (K := 17) (by decide), wR_at (K := 17) (r := 16) (by decide), h35, hf, e38, nI_pred, if_pos hi, hc, wR_set (K := 17) (r := 16) (by decide), hp.2.1, hnot]
      · by_cases w3 : w = 3
        · subst w3
          obtain ⟨x, s, rfl⟩ := stk1 ho
          have hs' : s.length + 1 ≤ 255 := hs
          have hi : inA (nI s.length) 260 := inA_nI (by omega) (by decide)
          have hc : (nI s.length).toNatClampNeg = s.length := nI_clamp (by omega)
          have e38 : X 0 38 = nI (s.length + 1) := hp.1
          refine ⟨_, ?_, pil_set hp (1 - x), frp_set _ _⟩
          rw [eM_doOther]
          simp only [fM_doOther_0, fM_doOther_225, mK_wR, mP_wR, mL_wR, hL.1, h1, h2, h3, rzD_s, rzM_e, if_true, if_neg (fun q => w23 (q23.mp q)), if_neg (fun q => w24 (q24.mp q)), if_neg (fun q => w9 (q9.mp q)), if_pos (q3.mpr rfl), wR_at0 (K := 17) (by decide), wR_at (K := 17) (r := 16) (by decide), e38, nI_pred, if_pos hi, hc, wR_set (K := 17) (r := 16) (by decide), hp.2.1]
        · have ho2 : 2 ≤ stk.length := by
            have : need w = 2 := by unfold need; rw [if_neg (by omega), if_neg (by omega)]
            omega
          obtain ⟨y, x, s, rfl⟩ := stk2 ho2
          have hs' : s.length + 2 ≤ 255 := hs
          have hi : inA (nI s.length) 260 := inA_nI (by omega) (by decide)
          have hc : (nI s.length).toNatClampNeg = s.length := nI_clamp (by omega)
          have hp1 := pil_pop hp
          have e38 : xs X 0 38 (nI (x :: s).length) 0 38 = nI (s.length + 1) := xs_eq _ _ _ _
          have key : ∀ z, vDo sz w a vals (y :: x :: s) = z :: s → fM_doOther_0 n (d + 1) (mR n (d + 1)) m (nI w) (wR m 17 M X) = fM_doOther_224 n (d + 1) (mR n (d + 1)) z (nI s.length) (some (m + 16)) (wR m 17 M (xs X 0 38 (nI (x :: s).length))) → ∃ X', mR n (d + 2) 103 [.ref m, .int (nI w)] (wR m 17 M X) = some (.inl none, wR m 17 M X') ∧ PilX X' (vDo sz w a vals (y :: x :: s)) ∧ FrP X X' := by
            intro z hz hf
            refine ⟨_, ?_, by rw [hz]; exact pil_set hp1 z, (frp_38 _).trans (frp_set _ _)⟩
            rw [eM_doOther, hf]
            simp only [fM_doOther_224, fM_doOther_225, mK_wR, mL_wR, h2, h3, rzD_s, rzM_e, if_true, if_pos hi, hc, wR_set (K := 17) (r := 16) (by decide)]
          have hvd : vDo sz w a vals (y :: x :: s) = (if w = 7 ∨ w = 1 then x ||| y else if w = 8 ∨ w = 2 then x &&& y else if w = 20 then b2i (decide (x = y)) else if w = 19 then b2i (decide (x < y)) else b2i (decide (x &&& hnot y = 0))) :: s := by
            unfold vDo
            rw [if_neg (by omega), if_neg (by omega), if_neg (by omega), if_neg (by omega), if_neg (by omega), if_neg (by omega), if_neg (by omega), if_neg (by omega), if_neg (by omega), if_neg (by omega), if_neg (by omega), if_neg (by omega)]
            rfl
          refine key _ hvd ?_
          simp only [fM_doOther_0, fM_doOther_145, fM_doOther_163, mK_wR, mP_wR, mL_wR, hL.1, h1, h2, h3, rzD_s, rzC_l, rzI_e, if_true, if_neg (fun q => w23 (q23.mp q)), if_neg (fun q => w24 (q24.mp q)), if_neg (fun q => w9 (q9.mp q)), if_neg (fun q => w3 (q3.mp q)), x_pop hL hp (show (x :: s).length < 260 from by show s.length + 1 < 260; omega), wR_at0 (K := 17) (by decide), wR_at (K := 17) (r := 16) (by decide), e38, nI_pred, if_pos hi, hc, hp1.2.1]
          by_cases w7 : w = 7
          · rw [if_pos (q7.mpr w7), if_pos (Or.inl w7)]
          · rw [if_neg (fun q => w7 (q7.mp q))]
            by_cases w1 : w = 1
            · rw [if_pos (q1.mpr w1), if_pos (Or.inr w1)]
            · rw [if_neg (fun q => w1 (q1.mp q)), if_neg (show ¬ (w = 7 ∨ w = 1) by omega)]
              by_cases w8 : w = 8
              · rw [if_pos (q8.mpr w8), if_pos (Or.inl w8)]
              · rw [if_neg (fun q => w8 (q8.mp q))]
                by_cases w2 : w = 2
                · rw [if_pos (q2.mpr w2), if_pos (Or.inr w2)]
                · rw [if_neg (fun q => w2 (q2.mp q)), if_neg (show ¬ (w = 8 ∨ w = 2) by omega)]
                  by_cases w20 : w = 20
                  · rw [if_pos (q20.mpr w20), if_pos w20]
                    by_cases hxy : x = y
                    · rw [if_pos hxy, decide_eq_true hxy]; rfl
                    · rw [if_neg hxy, decide_eq_false hxy]; rfl
                  · rw [if_neg (fun q => w20 (q20.mp q)), if_neg w20]
                    by_cases w19 : w = 19
                    · rw [if_pos (q19.mpr w19), if_pos w19]
                      by_cases hxy : y ≤ x
                      · rw [if_pos hxy, decide_eq_false (Int32.not_lt.mpr hxy)]; rfl
                      · rw [if_neg hxy, decide_eq_true (Int32.not_le.mp hxy)]; rfl
                    · rw [if_neg (fun q => w19 (q19.mp q)), if_neg w19]
                      by_cases hxy : x &&& hnot y = 0
                      · rw [decide_eq_true hxy]; exact if_pos hxy
                      · rw [decide_eq_false hxy]; exact if_neg hxy
end RunL
