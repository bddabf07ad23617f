/-! the parser's objects in memory, and its smallest methods -/
def PaM (p sg bd rw : Nat) (M : Mem) : Prop := mK M p = 2 ∧ mP M p 0 = some sg ∧ mK M sg = 22 ∧ mL M sg = 120 ∧ mP M p 4 = some bd ∧ mK M bd = 23 ∧ mL M bd = 6 ∧ mP M p 5 = some rw ∧ mK M rw = 25 ∧ mL M rw = 120
/-- a row of pieces, no piece twice -/
def RowI (rw : Nat) (M : Mem) : Prop := (∀ j a, j < 120 → mP M rw j = some a → mK M a = 4 ∧ a < mS M) ∧ ∀ j j' a, j < 120 → j' < 120 → mP M rw j = some a → mP M rw j' = some a → j = j'
def Room (M : Mem) (k : Nat) : Prop := mS M + k ≤ mC M 0 ∧ mU M + 6 * k ≤ SLm
/-- the parser at place i of the text T: qn quantifiers, mk pieces made, b bound -/
def PaG (r p sg bd rw : Nat) (M : Mem) (T : List Nat) (i qn mk : Nat) (b : Bd) : Prop :=
  PaM p sg bd rw M ∧ (mI M p 1 = nI T.length ∧ mI M p 2 = nI i ∧ mI M p 3 = nI qn ∧ mI M p 7 = nI mk) ∧ (∀ j x, T[j]? = some x → mI M sg j = nI x) ∧ (∀ v, v < 6 → mI M bd v = b2i (b v).isSome) ∧ RowI rw M ∧ (∀ j, j < mk → ∃ a, mP M rw j = some a) ∧ (i ≤ T.length ∧ T.length ≤ 120 ∧ mk ≤ 120 ∧ qn ≤ 5) ∧ (p < mS M ∧ sg < mS M ∧ bd < mS M ∧ rw < mS M) ∧ Room M r ∧ ∀ x ∈ T, 33 ≤ x ∧ x ≤ 126
abbrev PaS (p sg bd rw : Nat) (M : Mem) (T : List Nat) (i qn mk : Nat) (b : Bd) : Prop := PaG (121 - mk) p sg bd rw M T i qn mk b
/-- what a call of the parser leaves alone, mk pieces being made before; at most k new cells -/
def FrK (p bd rw mk k : Nat) (M M' : Mem) : Prop :=
  (∀ c, c < mS M → mK M' c = mK M c ∧ mL M' c = mL M c) ∧
  (∀ c, c < mS M → c ≠ p → c ≠ bd → c ≠ rw → (∀ j, mk ≤ j → j < 120 → mP M rw j ≠ some c) → mI M' c = mI M c ∧ mP M' c = mP M c ∧ mJ M' c = mJ M c) ∧
  (mC M' = mC M ∧ mS M ≤ mS M' ∧ mS M' ≤ mS M + k ∧ mU M' ≤ mU M + 6 * k) ∧
  (mP M' p = mP M p ∧ mI M' p 1 = mI M p 1) ∧ (∀ j a, mP M rw j = some a → mP M' rw j = some a) ∧ ∀ j a, j < 120 → mP M' rw j = some a → mP M rw j = some a ∨ mS M ≤ a
theorem frk_refl {p bd rw mk k : Nat} {M : Mem} : FrK p bd rw mk k M M := ⟨fun _ _ => ⟨rfl, rfl⟩, fun _ _ _ _ _ _ => ⟨rfl, rfl, rfl⟩, ⟨rfl, Nat.le_refl _, by omega, by omega⟩, ⟨rfl, rfl⟩, fun _ _ h => h, fun _ _ _ h => Or.inl h⟩
theorem FrK.trans {p bd rw mk mk1 k1 k2 k : Nat} {M M1 M2 : Mem} (h1 : FrK p bd rw mk k1 M M1) (h2 : FrK p bd rw mk1 k2 M1 M2) (hmk : mk ≤ mk1) (hk : k1 + k2 ≤ k) : FrK p bd rw mk k M M2 := by
  obtain ⟨a1, a2, ⟨a3, a4, a5, a6⟩, ⟨a7, a8⟩, a9, a10⟩ := h1
  obtain ⟨b1, b2, ⟨b3, b4, b5, b6⟩, ⟨b7, b8⟩, b9, b10⟩ := h2
  refine ⟨fun c hc => ⟨(b1 c (by omega)).1.trans (a1 c hc).1, (b1 c (by omega)).2.trans (a1 c hc).2⟩, fun c hc hp hb hr hn => ?_, ⟨b3.trans a3, by omega, by omega, by omega⟩, ⟨b7.trans a7, b8.trans a8⟩, fun j a h => b9 j a (a9 j a h), fun j a hj h => ?_⟩
  · have x1 := a2 c hc hp hb hr hn
    have x2 := b2 c (by omega) hp hb hr (fun j hj hj2 h => by
      rcases a10 j c hj2 h with h | h
      · exact hn j (by omega) hj2 h
      · omega)
    exact ⟨x2.1.trans x1.1, x2.2.1.trans x1.2.1, x2.2.2.trans x1.2.2⟩
  · rcases b10 j a hj h with h | h
    · rcases a10 j a hj h with h | h
      · exact Or.inl h
      · exact Or.inr h
    · exact Or.inr (by omega)
theorem FrK.mono {p bd rw mk mk1 k k1 : Nat} {M M1 : Mem} (h : FrK p bd rw mk1 k M M1) (hmk : mk ≤ mk1) (hk : k ≤ k1) : FrK p bd rw mk k1 M M1 := by
  obtain ⟨a1, a2, ⟨a3, a4, a5, a6⟩, a7, a9, a10⟩ := h
  exact ⟨a1, fun c hc hp hb hr hn => a2 c hc hp hb hr (fun j hj => hn j (by omega)), ⟨a3, a4, by omega, by omega⟩, a7, a9, a10⟩
/-- the pieces from number mk to mk' -/
def FpS (rw : Nat) (M : Mem) (mk mk' : Nat) (F : Nat → Prop) : Prop := ∀ c, F c → ∃ j, mk ≤ j ∧ j < mk' ∧ mP M rw j = some c
section PaL
variable {n d p sg bd rw : Nat} {M : Mem} {T : List Nat} {i qn mk : Nat} {b : Bd}
/-- pieces made before stay as they are -/
theorem frk_keep {k mk0 mk1 : Nat} {M1 : Mem} {F : Nat → Prop} (hr : RowI rw M) (hK : mK M p = 2 ∧ mK M bd = 23 ∧ mK M rw = 25) (hm : mk1 ≤ 120) (hF : FpS rw M mk0 mk1 F) (h : FrK p bd rw mk1 k M M1) : AgZ F M M1 := by
  intro c hc
  obtain ⟨j, h1, h2, h3⟩ := hF c hc
  obtain ⟨hk, hs⟩ := hr.1 j c (by omega) h3
  have hp : c ≠ p := fun q => by rw [q, hK.1] at hk; exact absurd hk (by decide)
  have hb : c ≠ bd := fun q => by rw [q, hK.2.1] at hk; exact absurd hk (by decide)
  have hw : c ≠ rw := fun q => by rw [q, hK.2.2] at hk; exact absurd hk (by decide)
  have x := h.2.1 c hs hp hb hw (fun j' hj' hj2 q => by have := hr.2 j j' c (by omega) hj2 h3 q; omega)
  exact ⟨(h.1 c hs).1, x.1, by rw [x.2.1], by rw [x.2.1]⟩
theorem agz_n {F : Nat → Prop} {a : Nat} {M1 : Mem} (h : AgZ F M M1) : AgN F a M M1 := fun c hc => ⟨(h c hc).1, (h c hc).2.1, (h c hc).2.2.1, fun _ => (h c hc).2.2.2⟩
theorem PaS.kinds (h : PaS p sg bd rw M T i qn mk b) : mK M p = 2 ∧ mK M bd = 23 ∧ mK M rw = 25 := ⟨h.1.1, h.1.2.2.2.2.2.1, h.1.2.2.2.2.2.2.2.2.1⟩
theorem fps_mono {k : Nat} {M1 : Mem} {F : Nat → Prop} {mk0 mk1 mk2 : Nat} (hF : FpS rw M mk0 mk1 F) (h : FrK p bd rw mk2 k M M1) : FpS rw M1 mk0 mk1 F := fun c hc => by
  obtain ⟨j, a, e, f⟩ := hF c hc
  exact ⟨j, a, e, h.2.2.2.2.1 j c f⟩
theorem fps_wid {F : Nat → Prop} {a0 a1 b0 b1 : Nat} (h : FpS rw M a0 a1 F) (h0 : b0 ≤ a0) (h1 : a1 ≤ b1) : FpS rw M b0 b1 F := fun c hc => by
  obtain ⟨j, a, e, f⟩ := h c hc
  exact ⟨j, by omega, by omega, f⟩
theorem fps_u {F G : Nat → Prop} {a0 a1 : Nat} (h : FpS rw M a0 a1 F) (g : FpS rw M a0 a1 G) : FpS rw M a0 a1 (fU F G) := fun c hc => hc.elim (h c) (g c)
theorem fps_1 {a j : Nat} (h : mP M rw j = some a) : FpS rw M j (j + 1) (fS1 a) := fun c hc => ⟨j, Nat.le_refl _, by omega, by rw [h, show c = a from hc]⟩
theorem fps_dis {F G : Nat → Prop} {a0 a1 b0 b1 : Nat} (hr : RowI rw M) (h : FpS rw M a0 a1 F) (g : FpS rw M b0 b1 G) (hd : a1 ≤ b0 ∨ b1 ≤ a0) (ha : a1 ≤ 120) (hb : b1 ≤ 120) : ∀ x, F x → ¬ G x := fun x hx gx => by
  obtain ⟨j, a, e, f⟩ := h x hx
  obtain ⟨j', a', e', f'⟩ := g x gx
  have := hr.2 j j' x (by omega) (by omega) f f'
  omega
theorem drop_hd {i : Nat} (h : i < T.length) : ∃ x, T[i]? = some x ∧ T.drop i = x :: T.drop (i + 1) := ⟨T[i], List.getElem?_eq_getElem h, List.drop_eq_getElem_cons h⟩
theorem fits_ch {x : Nat} (h : x ≤ 126) : fits .char (.int (nI x)) = true := by
  have : ∀ k, k < 127 → fits .char (.int (nI k)) = true := by decide +kernel
  exact this x (by omega)
/-- the next sign, 0 at the end -/
theorem x_peek (h : PaS p sg bd rw M T i qn mk b) : mR n (d + 1) 17 [.ref p] M = some (.inl (some (.int (nI ((T.drop i).headD 0)))), M) := by
  obtain ⟨⟨k1, k2, k3, k4, -⟩, ⟨c1, c2, -, -⟩, hs, -, -, -, ⟨hi, hT, -, -⟩, -, -, hx⟩ := h
  rw [eP_peek]
  by_cases hlt : i < T.length
  · obtain ⟨x, hx1, hx2⟩ := drop_hd hlt
    have h1 : ¬ nI T.length ≤ nI i := nI_ge hlt (by omega)
    have h2 : ¬ nI 120 ≤ nI i := nI_ge (by omega) (by decide)
    have hin : inA (nI i) 120 := inA_nI (by omega) (by decide)
    have hc : (nI i).toNatClampNeg = i := nI_clamp (by omega)
    have hm : x ∈ T := List.mem_of_getElem? hx1
    rw [hx2]
    simp only [fP_peek_0, fP_peek_36, k1, if_true, c1, c2, if_neg h1, k2, rzD_s, k3, k4, if_neg h2, if_pos hin, hc, hs i x hx1, fits_ch (hx x hm).2, List.headD_cons]
  · have h1 : nI T.length ≤ nI i := nI_le (by omega) (by omega)
    rw [List.drop_eq_nil_of_le (by omega)]
    simp only [fP_peek_0, fP_peek_35, fP_peek_36, k1, if_true, c1, c2, if_pos h1]
    rfl
/-- a place of the parser's own is set -/
theorem pa_at (h : PaS p sg bd rw M T i qn mk b) {i' : Nat} (hi' : i' ≤ T.length) : PaS p sg bd rw (setI M p 2 (nI i')) T i' qn mk b ∧ ∀ k0 k, FrK p bd rw k0 k M (setI M p 2 (nI i')) := by
  obtain ⟨⟨k1, k2, k3, k4, k5, k6, k7, k8, k9, k10⟩, ⟨c1, c2, c3, c4⟩, hs, hb, hr, hf, ⟨hi, hT, hm, hq⟩, hsz, hro, hx⟩ := h
  have hsp : sg ≠ p := fun q => by rw [q, k1] at k3; exact absurd k3 (by decide)
  have hbp : bd ≠ p := fun q => by rw [q, k1] at k6; exact absurd k6 (by decide)
  refine ⟨⟨⟨k1, k2, k3, k4, k5, k6, k7, k8, k9, k10⟩, ⟨?_, ?_, ?_, ?_⟩, fun j x hj => ?_, fun v hv => ?_, hr, hf, ⟨hi', hT, hm, hq⟩, hsz, hro, hx⟩, fun k0 k => ⟨fun _ _ => ⟨rfl, rfl⟩, fun c hc hp _ _ _ => ⟨?_, rfl, rfl⟩, ⟨rfl, Nat.le_refl _, ?_, ?_⟩, ⟨rfl, ?_⟩, fun _ _ q => q, fun _ _ _ q => Or.inl q⟩⟩
  · rw [mI_setI, fu_ne _ _ (by omega)]; exact c1
  · rw [mI_setI, fu_eq]
  · rw [mI_setI, fu_ne _ _ (by omega)]; exact c3
  · rw [mI_setI, fu_ne _ _ (by omega)]; exact c4
  · rw [mI_setI, fu_row _ _ hsp]; exact hs j x hj
  · rw [mI_setI, fu_row _ _ hbp]; exact hb v hv
  · rw [mI_setI, fu_row _ _ hp]
  · show mS M ≤ mS M + k; omega
  · show mU M ≤ mU M + 6 * k; omega
  · rw [mI_setI, fu_ne _ _ (by omega)]
/-- next -/
theorem x_next (h : PaS p sg bd rw M T i qn mk b) : ∃ M' i', mR n (d + 2) 19 [.ref p] M = some (.inl (some (.int (nI ((T.drop i).headD 0)))), M') ∧ PaS p sg bd rw M' T i' qn mk b ∧ T.drop i' = (T.drop i).tail ∧ ∀ k0 k, FrK p bd rw k0 k M M' := by
  have hpk := x_peek (n := n) (d := d) h
  have h0 := h
  obtain ⟨⟨k1, -⟩, ⟨c1, c2, -, -⟩, -, -, -, -, ⟨hi, hT, -, -⟩, -, -, hx⟩ := h0
  have hfit : fits .char (.int (nI ((T.drop i).headD 0))) = true := by
    refine fits_ch ?_
    cases hd : T.drop i with
    | nil => exact Nat.zero_le _
    | cons x r => exact (hx x (List.mem_of_mem_drop (by rw [hd]; exact List.mem_cons_self))).2
  rw [eP_next]
  by_cases hlt : i < T.length
  · have h1 : ¬ nI T.length ≤ nI i := nI_ge hlt (by omega)
    obtain ⟨p1, p2⟩ := pa_at h (i' := i + 1) (by omega)
    refine ⟨_, i + 1, ?_, p1, ?_, p2⟩
    · simp only [fP_next_0, fP_next_26, k1, if_true, hpk, rzC_l, rzI_e, c1, c2, if_neg h1, rzM_e, nI_1, hfit]
    · obtain ⟨x, hx1, hx2⟩ := drop_hd hlt
      rw [hx2]; rfl
  · have h1 : nI T.length ≤ nI i := nI_le (by omega) (by omega)
    refine ⟨M, i, ?_, h, ?_, fun k0 k => frk_refl⟩
    · simp only [fP_next_0, fP_next_26, k1, if_true, hpk, rzC_l, rzI_e, c1, c2, if_pos h1, hfit]
    · rw [List.drop_eq_nil_of_le (by omega)]; rfl
/-- take: a sign that isn't 0 -/
theorem x_take (h : PaS p sg bd rw M T i qn mk b) {c : Nat} (hc : c < 1000) {x : Int32} (hx : x = nI c) : ∃ M' i', mR n (d + 3) 31 [.ref p, .int x] M = some (.inl (some (.int (b2i (decide ((T.drop i).headD 0 = c))))), M') ∧ PaS p sg bd rw M' T i' qn mk b ∧ T.drop i' = (if (T.drop i).headD 0 = c then (T.drop i).tail else T.drop i) ∧ ∀ k0 k, FrK p bd rw k0 k M M' := by
  have hpk := x_peek (n := n) (d := d + 1) h
  have hh : (T.drop i).headD 0 < 1000 := by
    cases hd : T.drop i with
    | nil => exact (by decide : 0 < 1000)
    | cons y r => exact Nat.lt_of_le_of_lt (h.2.2.2.2.2.2.2.2.2 y (List.mem_of_mem_drop (by rw [hd]; exact List.mem_cons_self))).2 (by decide)
  have hq := cq hh c hc hx
  have k1 := h.1.1
  rw [eP_take]
  by_cases he : (T.drop i).headD 0 = c
  · obtain ⟨M', i', e1, e2, e3, e4⟩ := x_next (n := n) (d := d) h
    refine ⟨M', i', ?_, e2, by rw [if_pos he]; exact e3, e4⟩
    have n1 : ¬ (1 : Int32) = 0 := by decide
    simp only [fP_take_0, fP_take_13, fP_take_23, k1, if_true, hpk, rzC_l, rzI_e, if_pos (hq.mpr he), if_neg n1, e1, fbb1, decide_eq_true he]
    rfl
  · refine ⟨M, i, ?_, h, by rw [if_neg he], fun k0 k => frk_refl⟩
    simp only [fP_take_0, fP_take_13, fP_take_23, k1, if_true, hpk, rzC_l, rzI_e, if_neg (fun q => he (hq.mp q)), fbb0, decide_eq_false he]
    rfl
theorem x_insist1 (M : Mem) : mR n (d + 1) 16 [.int 1] M = some (.inl none, M) := by
  rw [eP_insist, fP_insist_0, if_neg (by decide)]
/-- it throws, and leaves alone what a call must -/
def Thr (p bd rw mk : Nat) (M : Mem) (res : Rz) : Prop := ∃ M', res = some (.inr 1, M') ∧ FrK p bd rw mk (121 - mk) M M' ∧ RowI rw M'
theorem x_insist0 (hd : 8 ≤ d) (h : PaS p sg bd rw M T i qn mk b) : Thr p bd rw mk M (mR n (d + 1) 16 [.int 0] M) := by
  obtain ⟨-, -, -, -, hr, hf, ⟨-, -, hm, -⟩, ⟨z1, z2, z3, z4⟩, hro, -⟩ := h
  have r1 : mS M + 1 ≤ mC M 0 := by have := hro.1; omega
  have r2 : mU M + 6 ≤ SLm := by have := hro.2; omega
  refine ⟨newC M 0 0 6, ?_, ⟨fun c hc => ?_, fun c hc _ _ _ _ => ?_, ⟨rfl, ?_, ?_, ?_⟩, ⟨?_, ?_⟩, fun j a q => ?_, fun j a hj q => ?_⟩, fun j a hj q => ?_, fun j j' a hj hj' q q' => ?_⟩
  · rw [eP_insist, fP_insist_0, if_pos rfl, if_pos hd, if_pos r1, if_pos r2]
  · exact ⟨by rw [mK_newC]; exact va_up_ne _ _ (by omega), by rw [mL_newC]; exact va_up_ne _ _ (by omega)⟩
  · exact ⟨by rw [mI_newC, fz_row _ _ (by omega)], by rw [mP_newC, fz_row _ _ (by omega)], by rw [mJ_newC, fz_row _ _ (by omega)]⟩
  · show mS M ≤ mS M + 1; omega
  · show mS M + 1 ≤ mS M + (121 - mk); omega
  · show mU M + 6 ≤ mU M + 6 * (121 - mk); omega
  · rw [mP_newC, fz_row _ _ (by omega)]
  · rw [mI_newC, fz_row _ _ (by omega)]
  · rw [mP_newC, fz_row _ _ (by omega)]; exact q
  · rw [mP_newC, fz_row _ _ (by omega)] at q; exact Or.inl q
  · rw [mP_newC, fz_row _ _ (by omega)] at q
    have := hr.1 j a hj q
    exact ⟨by rw [mK_newC]; exact (va_up_ne _ _ (by omega)).trans this.1, by show a < mS M + 1; omega⟩
  · rw [mP_newC, fz_row _ _ (by omega)] at q q'
    exact hr.2 j j' a hj hj' q q'
theorem Thr.frm {mk1 k : Nat} {M1 : Mem} {res : Rz} (h : Thr p bd rw mk1 M1 res) (hf : FrK p bd rw mk k M M1) (hm : mk ≤ mk1) (hk : k + (121 - mk1) ≤ 121 - mk) : Thr p bd rw mk M res := by
  obtain ⟨M', e1, e2, e3⟩ := h
  exact ⟨M', e1, hf.trans e2 hm hk, e3⟩
theorem thr_c {c : Rz} {f : Option Value → Mem → Rz} (h : Thr p bd rw mk M c) : Thr p bd rw mk M (rzC c f) := by
  obtain ⟨M', e1, e2⟩ := h
  exact ⟨M', by rw [e1, rzC_r], e2⟩
/-- a piece of our own is changed -/
theorem nd_set {M1 : Mem} {j a : Nat} (h : PaS p sg bd rw M T i qn mk b) (hj : j < mk) (ha : mP M rw j = some a) (hI : ∀ c, c ≠ a → mI M1 c = mI M c) (hP : ∀ c, c ≠ a → mP M1 c = mP M c) (hrest : M1.2.2 = M.2.2) : PaS p sg bd rw M1 T i qn mk b ∧ ∀ k0 k, k0 ≤ j → FrK p bd rw k0 k M M1 := by
  obtain ⟨⟨k1, k2, k3, k4, k5, k6, k7, k8, k9, k10⟩, ⟨c1, c2, c3, c4⟩, hs, hb, hr, hf, ⟨hi, hT, hm, hq⟩, hsz, hro, hx⟩ := h
  have hK : mK M1 = mK M := congrArg (fun z => z.2.1) hrest
  have hLn : mL M1 = mL M := congrArg (fun z => z.2.2.1) hrest
  have hSz : mS M1 = mS M := congrArg (fun z => z.2.2.2.1) hrest
  have hU : mU M1 = mU M := congrArg (fun z => z.2.2.2.2.1) hrest
  have hC : mC M1 = mC M := congrArg (fun z => z.2.2.2.2.2) hrest
  have hJ : mJ M1 = mJ M := congrArg (fun z => z.1) hrest
  have hak := (hr.1 j a (by omega) ha).1
  have np : p ≠ a := fun q => by rw [← q, k1] at hak; exact absurd hak (by decide)
  have ns : sg ≠ a := fun q => by rw [← q, k3] at hak; exact absurd hak (by decide)
  have nb' : bd ≠ a := fun q => by rw [← q, k6] at hak; exact absurd hak (by decide)
  have nr : rw ≠ a := fun q => by rw [← q, k9] at hak; exact absurd hak (by decide)
  refine ⟨⟨⟨by rw [hK]; exact k1, by rw [hP p np]; exact k2, by rw [hK]; exact k3, by rw [hLn]; exact k4, by rw [hP p np]; exact k5, by rw [hK]; exact k6, by rw [hLn]; exact k7, by rw [hP p np]; exact k8, by rw [hK]; exact k9, by rw [hLn]; exact k10⟩, ⟨by rw [hI p np]; exact c1, by rw [hI p np]; exact c2, by rw [hI p np]; exact c3, by rw [hI p np]; exact c4⟩, fun j x q => by rw [hI sg ns]; exact hs j x q, fun v q => by rw [hI bd nb']; exact hb v q, ⟨fun j a hj q => by rw [hP rw nr] at q; rw [hK, hSz]; exact hr.1 j a hj q, fun j j' a hj hj' q q' => by rw [hP rw nr] at q q'; exact hr.2 j j' a hj hj' q q'⟩, fun j q => by rw [hP rw nr]; exact hf j q, ⟨hi, hT, hm, hq⟩, by rw [hSz]; exact hsz, ⟨by rw [hSz, hC]; exact hro.1, by rw [hU]; exact hro.2⟩, hx⟩, fun k0 k hk0 => ⟨fun c hc => ⟨by rw [hK], by rw [hLn]⟩, fun c hc _ _ _ hn => ?_, ⟨hC, by omega, by omega, by omega⟩, ⟨hP p np, by rw [hI p np]⟩, fun j a q => by rw [hP rw nr]; exact q, fun j a hj q => by rw [hP rw nr] at q; exact Or.inl q⟩⟩
  have hca : c ≠ a := fun q => hn j hk0 (by omega) (by rw [q]; exact ha)
  exact ⟨hI c hca, hP c hca, by rw [hJ]⟩
theorem nd_setP {j a f : Nat} (h : PaS p sg bd rw M T i qn mk b) (hj : j < mk) (ha : mP M rw j = some a) (r : Option Nat) : PaS p sg bd rw (setP M a f r) T i qn mk b ∧ ∀ k0 k, k0 ≤ j → FrK p bd rw k0 k M (setP M a f r) :=
  nd_set h hj ha (fun c _ => rfl) (fun c hc => by rw [mP_setP, fu_row _ _ hc]) rfl
theorem nd_setI {j a f : Nat} (h : PaS p sg bd rw M T i qn mk b) (hj : j < mk) (ha : mP M rw j = some a) (x : Int32) : PaS p sg bd rw (setI M a f x) T i qn mk b ∧ ∀ k0 k, k0 ≤ j → FrK p bd rw k0 k M (setI M a f x) :=
  nd_set h hj ha (fun c hc => by rw [mI_setI, fu_row _ _ hc]) (fun c _ => rfl) rfl
/-- a fresh piece -/
def Fresh (M : Mem) (a : Nat) (x : Int32) : Prop := mK M a = 4 ∧ mI M a 0 = x ∧ mI M a 1 = 0 ∧ mI M a 2 = 0 ∧ mP M a 3 = none ∧ mP M a 4 = none
theorem x_reset {a : Nat} {x : Int32} (hk : mK M a = 4) (hf : fits .char (.int x) = true) : mR n (d + 1) 22 [.ref a, .int x] M = some (.inl none, setP (setP (setI (setI (setI M a 0 x) a 1 0) a 2 0) a 3 none) a 4 none) := by
  rw [eN_reset]
  simp only [fN_reset_0, hk, if_true, hf, rzM_e]
theorem fresh_reset {a : Nat} {x : Int32} (hk : mK M a = 4) : Fresh (setP (setP (setI (setI (setI M a 0 x) a 1 0) a 2 0) a 3 none) a 4 none) a x := by
  refine ⟨hk, ?_, ?_, ?_, ?_, ?_⟩ <;> simp [mI_setP, mI_setI, mP_setP, mP_setI, fu]
/-- the number of pieces is one more -/
theorem pa_made {r : Nat} (h : PaG r p sg bd rw M T i qn mk b) (hm : mk < 120) {a : Nat} (ha : mP M rw mk = some a) : PaG r p sg bd rw (setI M p 7 (nI (mk + 1))) T i qn (mk + 1) b ∧ ∀ k0 k, FrK p bd rw k0 k M (setI M p 7 (nI (mk + 1))) := by
  obtain ⟨⟨k1, k2, k3, k4, k5, k6, k7, k8, k9, k10⟩, ⟨c1, c2, c3, c4⟩, hs, hb, hr, hf, ⟨hi, hT, -, hq⟩, hsz, hro, hx⟩ := h
  have hsp : sg ≠ p := fun q => by rw [q, k1] at k3; exact absurd k3 (by decide)
  have hbp : bd ≠ p := fun q => by rw [q, k1] at k6; exact absurd k6 (by decide)
  refine ⟨⟨⟨k1, k2, k3, k4, k5, k6, k7, k8, k9, k10⟩, ⟨?_, ?_, ?_, ?_⟩, fun j x hj => ?_, fun v hv => ?_, hr, fun j hj => ?_, ⟨hi, hT, by omega, hq⟩, hsz, hro, hx⟩, fun k0 k => ⟨fun _ _ => ⟨rfl, rfl⟩, fun c hc hp _ _ _ => ⟨?_, rfl, rfl⟩, ⟨rfl, Nat.le_refl _, ?_, ?_⟩, ⟨rfl, ?_⟩, fun _ _ q => q, fun _ _ _ q => Or.inl q⟩⟩
  · rw [mI_setI, fu_ne _ _ (by omega)]; exact c1
  · rw [mI_setI, fu_ne _ _ (by omega)]; exact c2
  · rw [mI_setI, fu_ne _ _ (by omega)]; exact c3
  · rw [mI_setI, fu_eq]
  · rw [mI_setI, fu_row _ _ hsp]; exact hs j x hj
  · rw [mI_setI, fu_row _ _ hbp]; exact hb v hv
  · by_cases hjm : j = mk
    · exact ⟨a, by rw [hjm]; exact ha⟩
    · exact hf j (by omega)
  · rw [mI_setI, fu_row _ _ hp]
  · show mS M ≤ mS M + k; omega
  · show mU M ≤ mU M + 6 * k; omega
  · rw [mI_setI, fu_ne _ _ (by omega)]
/-- a new piece in the row -/
theorem pa_new (h : PaS p sg bd rw M T i qn mk b) (hm : mk < 120) (hno : mP M rw mk = none) {M1 : Mem} (hM1 : M1 = setP (newC M 4 0 5) rw mk (some (mS M))) : PaG (120 - mk) p sg bd rw M1 T i qn mk b ∧ mP M1 rw mk = some (mS M) ∧ mK M1 (mS M) = 4 ∧ FrK p bd rw mk 1 M M1 := by
  subst hM1
  obtain ⟨M1, hM1⟩ : ∃ M1, M1 = setP (newC M 4 0 5) rw mk (some (mS M)) := ⟨_, rfl⟩
  rw [← hM1]
  obtain ⟨⟨k1, k2, k3, k4, k5, k6, k7, k8, k9, k10⟩, ⟨c1, c2, c3, c4⟩, hs, hb, hr, hf, ⟨hi, hT, -, hq⟩, ⟨z1, z2, z3, z4⟩, hro, hx⟩ := h
  have eK : ∀ c, c < mS M → mK M1 c = mK M c := fun c hc => by rw [hM1]; exact va_up_ne _ _ (by omega)
  have eL : ∀ c, c < mS M → mL M1 c = mL M c := fun c hc => by rw [hM1]; exact va_up_ne _ _ (by omega)
  have eI : ∀ c, c < mS M → mI M1 c = mI M c := fun c hc => by rw [hM1]; exact fz_row _ _ (by omega)
  have eP : ∀ c, c < mS M → c ≠ rw → mP M1 c = mP M c := fun c hc hr => by
    rw [hM1]
    show fu (fz (mP M) (mS M) none) rw mk (some (mS M)) c = mP M c
    rw [fu_row _ _ hr, fz_row _ _ (by omega)]
  have eJ : ∀ c, c < mS M → mJ M1 c = mJ M c := fun c hc => by rw [hM1]; exact fz_row _ _ (by omega)
  have eR : ∀ j, j ≠ mk → mP M1 rw j = mP M rw j := fun j hj => by
    rw [hM1]
    show fu (fz (mP M) (mS M) none) rw mk (some (mS M)) rw j = mP M rw j
    rw [fu_ne _ _ (fun q => hj q.2), fz_row _ _ (by omega)]
  have eRm : mP M1 rw mk = some (mS M) := by rw [hM1]; exact fu_eq _ _ _ _
  have hSz : mS M1 = mS M + 1 := by rw [hM1]; rfl
  have hUz : mU M1 = mU M + 5 := by rw [hM1]; rfl
  have hCz : mC M1 = mC M := by rw [hM1]; rfl
  have npr : p ≠ rw := fun q => by rw [q, k9] at k1; exact absurd k1 (by decide)
  have hKn : mK M1 (mS M) = 4 := by rw [hM1]; exact va_up_self _ _ _
  have hrow : RowI rw M1 := by
    refine ⟨fun j a hj q => ?_, fun j j' a hj hj' q q' => ?_⟩
    · by_cases hjm : j = mk
      · rw [hjm, eRm] at q
        cases q
        exact ⟨hKn, by rw [hSz]; omega⟩
      · rw [eR j hjm] at q
        have := hr.1 j a hj q
        exact ⟨(eK a this.2).trans this.1, by rw [hSz]; omega⟩
    · by_cases hjm : j = mk
      · by_cases hjm' : j' = mk
        · rw [hjm, hjm']
        · rw [hjm, eRm] at q
          rw [eR j' hjm'] at q'
          cases q
          exact absurd (hr.1 j' _ hj' q').2 (by omega)
      · by_cases hjm' : j' = mk
        · rw [hjm', eRm] at q'
          rw [eR j hjm] at q
          cases q'
          exact absurd (hr.1 j _ hj q).2 (by omega)
        · rw [eR j hjm] at q
          rw [eR j' hjm'] at q'
          exact hr.2 j j' a hj hj' q q'
  refine ⟨⟨⟨by rw [eK p z1]; exact k1, by rw [eP p z1 npr]; exact k2, by rw [eK sg z2]; exact k3, by rw [eL sg z2]; exact k4, by rw [eP p z1 npr]; exact k5, by rw [eK bd z3]; exact k6, by rw [eL bd z3]; exact k7, by rw [eP p z1 npr]; exact k8, by rw [eK rw z4]; exact k9, by rw [eL rw z4]; exact k10⟩, ⟨by rw [eI p z1]; exact c1, by rw [eI p z1]; exact c2, by rw [eI p z1]; exact c3, by rw [eI p z1]; exact c4⟩, fun j x q => by rw [eI sg z2]; exact hs j x q, fun v q => by rw [eI bd z3]; exact hb v q, hrow, fun j q => by rw [eR j (by omega)]; exact hf j q, ⟨hi, hT, by omega, hq⟩, ⟨by rw [hSz]; omega, by rw [hSz]; omega, by rw [hSz]; omega, by rw [hSz]; omega⟩, ⟨by rw [hSz, hCz]; have := hro.1; omega, by rw [hUz]; have := hro.2; omega⟩, hx⟩, eRm, hKn, ⟨fun c hc => ⟨eK c hc, eL c hc⟩, fun c hc _ _ hr' _ => ⟨eI c hc, eP c hc hr', eJ c hc⟩, ⟨hCz, by rw [hSz]; omega, by rw [hSz]; omega, by rw [hUz]; omega⟩, ⟨eP p z1 npr, by rw [eI p z1]⟩, fun j a q => ?_, fun j a hj q => ?_⟩⟩
  · have hjm : j ≠ mk := fun e => by rw [e, hno] at q; cases q
    rw [eR j hjm]; exact q
  · by_cases hjm : j = mk
    · rw [hjm, eRm] at q
      cases q
      exact Or.inr (Nat.le_refl _)
    · rw [eR j hjm] at q
      exact Or.inl q
theorem x_make (h : PaS p sg bd rw M T i qn mk b) (hm : mk < 120) {x : Int32} (hf : fits .char (.int x) = true) : ∃ M' a, mR n (d + 2) 20 [.ref p, .int x] M = some (.inl (some (.ref a)), M') ∧ PaS p sg bd rw M' T i qn (mk + 1) b ∧ FrK p bd rw mk 1 M M' ∧ mP M' rw mk = some a ∧ Fresh M' a x := by
  have hP := h
  obtain ⟨⟨k1, -, -, -, -, -, -, k8, k9, k10⟩, ⟨-, -, -, c4⟩, -, -, hr, -, ⟨-, -, -, -⟩, ⟨z1, -, -, z4⟩, hro, -⟩ := h
  have hle : ¬ nI 120 ≤ nI mk := nI_ge hm (by decide)
  have hin : inA (nI mk) 120 := inA_nI hm (by decide)
  have hc : (nI mk).toNatClampNeg = mk := nI_clamp (by omega)
  have e48 : ∀ (M1 : Mem) (a : Nat) (D : Nat), PaG (120 - mk) p sg bd rw M1 T i qn mk b → mP M1 rw mk = some a → FrK p bd rw mk 1 M M1 → ∃ M', fP_make_48 n D (mR n (d + 1)) p x M1 = some (.inl (some (.ref a)), M') ∧ PaS p sg bd rw M' T i qn (mk + 1) b ∧ FrK p bd rw mk 1 M M' ∧ mP M' rw mk = some a ∧ Fresh M' a x := by
    intro M1 a D h1 ha hfr
    obtain ⟨p1, p2⟩ := pa_made h1 hm ha
    have p1 : PaS p sg bd rw (setI M1 p 7 (nI (mk + 1))) T i qn (mk + 1) b := by
      show PaG (121 - (mk + 1)) p sg bd rw _ T i qn (mk + 1) b
      rw [show 121 - (mk + 1) = 120 - mk by omega]
      exact p1
    have hak : mK (setI M1 p 7 (nI (mk + 1))) a = 4 := (h1.2.2.2.2.1.1 mk a hm ha).1
    have ha2 : mP (setI M1 p 7 (nI (mk + 1))) rw mk = some a := ha
    obtain ⟨q1, q2⟩ := nd_set (M1 := setP (setP (setI (setI (setI (setI M1 p 7 (nI (mk + 1))) a 0 x) a 1 0) a 2 0) a 3 none) a 4 none) p1 (by omega) ha2 (fun c hc => by rw [mI_setP, mI_setP, mI_setI, fu_row _ _ hc, mI_setI, fu_row _ _ hc, mI_setI, fu_row _ _ hc]) (fun c hc => by rw [mP_setP, fu_row _ _ hc, mP_setP, fu_row _ _ hc]; rfl) rfl
    have hra : rw ≠ a := fun q => by
      have := (h1.2.2.2.2.1.1 mk a hm ha).1
      rw [← q, h1.1.2.2.2.2.2.2.2.2.1] at this
      exact absurd this (by decide)
    refine ⟨_, ?_, q1, hfr.trans ((p2 mk 0).trans (q2 mk 0 (Nat.le_refl _)) (Nat.le_refl _) (Nat.le_refl _)) (Nat.le_refl _) (Nat.le_refl _), ?_, fresh_reset hak⟩
    · obtain ⟨⟨j1, -, -, -, -, -, -, j8, j9, j10⟩, ⟨-, -, -, j4⟩, -⟩ := h1
      have hrs := x_reset (n := n) (d := d) hak hf
      simp only [fP_make_48, j1, if_true, j8, rzD_s, j9, j10, j4, if_pos hin, rzM_e, nI_1, hc, ha, hak, hrs, rzC_l, rzV_e]
      rfl
    · rw [mP_setP, fu_row _ _ hra, mP_setP, fu_row _ _ hra]
      exact ha
  rw [eP_make]
  cases hno : mP M rw mk with
  | some a =>
    have hG : PaG (120 - mk) p sg bd rw M T i qn mk b := by
      obtain ⟨y1, y2, y3, y4, y5, y6, y7, y8, y9, y10⟩ := hP
      exact ⟨y1, y2, y3, y4, y5, y6, y7, y8, ⟨by have := y9.1; omega, by have := y9.2; omega⟩, y10⟩
    obtain ⟨M', e1, e2⟩ := e48 M a (d + 1) hG hno frk_refl
    refine ⟨M', a, ?_, e2⟩
    simp only [fP_make_0, fP_make_17, k1, if_true, k8, rzD_s, k9, k10, c4, if_neg hle, x_insist1, rzC_l, rzV_e, if_pos hin, hc, hno, rzN_s, e1]
  | none =>
    obtain ⟨M1, hM1⟩ : ∃ M1, M1 = setP (newC M 4 0 5) rw mk (some (mS M)) := ⟨_, rfl⟩
    obtain ⟨g1, g2, g3, g4⟩ := pa_new hP hm hno hM1
    obtain ⟨M', e1, e2⟩ := e48 M1 (mS M) (d + 1) g1 g2 g4
    refine ⟨M', mS M, ?_, e2⟩
    have r1 : mS M + 1 ≤ mC M 0 := by have := hro.1; omega
    have r2 : mU M + 5 ≤ SLm := by have := hro.2; omega
    have hi : mR n (d + 1) 21 [.ref (mS M)] (newC M 4 0 5) = some (.inl none, newC M 4 0 5) := by rw [eN_init, fN_init_0]
    have f1 : mK (newC M 4 0 5) rw = 25 := (va_up_ne _ _ (by omega)).trans k9
    have f2 : mL (newC M 4 0 5) rw = 120 := (va_up_ne _ _ (by omega)).trans k10
    have f3 : mK (newC M 4 0 5) (mS M) = 4 := va_up_self _ _ _
    simp only [fP_make_0, fP_make_17, k1, if_true, k8, rzD_s, k9, k10, c4, if_neg hle, x_insist1, rzC_l, rzV_e, if_pos hin, hc, hno, rzN_n, if_pos r1, if_pos r2, rzM_e, hi, f1, f2, f3]
    rw [← hM1]
    exact e1
theorem x_make_t (hd : 8 ≤ d) (h : PaS p sg bd rw M T i qn mk b) (hm : ¬ mk < 120) (x : Int32) : Thr p bd rw mk M (mR n (d + 2) 20 [.ref p, .int x] M) := by
  have hP := h
  obtain ⟨⟨k1, -, -, -, -, -, -, k8, k9, k10⟩, ⟨-, -, -, c4⟩, -, -, -, -, ⟨-, -, hm2, -⟩, -⟩ := h
  have hle : nI 120 ≤ nI mk := nI_le (by omega) (by omega)
  rw [eP_make]
  simp only [fP_make_0, fP_make_17, k1, if_true, k8, rzD_s, k9, k10, c4, if_pos hle]
  exact thr_c (x_insist0 (n := n) hd hP)
end PaL
