/-! the objects are made -/
def pl : List (Nat × Nat × Nat) → Nat → Nat → Option Nat
  | [], _, _ => none
  | x :: r, a, f => if x.1 = a ∧ x.2.1 = f then some x.2.2 else pl r a f
/-- the cells from z on: kinds and lengths, references, all ints 0 -/
def Bt (z : Nat) (M : Mem) (ks : List (Nat × Nat)) (ps : List (Nat × Nat × Nat)) (u k0 : Nat) : Prop := mS M = z + ks.length ∧ mU M = u ∧ mC M 0 = k0 ∧ (∀ i x, ks[i]? = some x → mK M (z + i) = x.1 ∧ mL M (z + i) = x.2) ∧ (∀ i, i < ks.length → mI M (z + i) = fun _ => 0) ∧ (∀ i f, i < ks.length → mP M (z + i) f = (pl ps i f).map (fun b => z + b)) ∧ ∀ x ∈ ps, x.1 < ks.length
theorem pl_none : ∀ (ps : List (Nat × Nat × Nat)) (a f : Nat), (∀ x ∈ ps, x.1 < a) → pl ps a f = none
  | [], a, f, _ => rfl
  | x :: r, a, f, h => by
    have h1 := h x List.mem_cons_self
    unfold pl
    rw [if_neg (fun q => by omega)]
    exact pl_none r a f (fun y hy => h y (List.mem_cons_of_mem _ hy))
section BtS
variable {z u k0 : Nat} {M : Mem} {ks : List (Nat × Nat)} {ps : List (Nat × Nat × Nat)}
theorem bt_new (h : Bt z M ks ps u k0) (kd ln sl : Nat) : Bt z (newC M kd ln sl) (ks ++ [(kd, ln)]) ps (u + sl) k0 := by
  obtain ⟨h1, h2, h3, h4, h5, h6, h7⟩ := h
  have hl : (ks ++ [(kd, ln)]).length = ks.length + 1 := by simp
  refine ⟨?_, ?_, h3, fun i x hx => ?_, fun i hi => ?_, fun i f hi => ?_, fun x hx => ?_⟩
  · rw [mS_newC, h1, hl]; omega
  · rw [mU_newC, h2]
  · by_cases hi : i = ks.length
    · subst hi
      have : x = (kd, ln) := by simpa using hx.symm
      rw [this, mK_newC, mL_newC, h1]
      exact ⟨va_up_self _ _ _, va_up_self _ _ _⟩
    · have hil := (List.getElem?_eq_some_iff.mp hx).1
      rw [hl] at hil
      rw [List.getElem?_append_left (by omega)] at hx
      rw [mK_newC, mL_newC, va_up_ne _ _ (by omega), va_up_ne _ _ (by omega)]
      exact h4 i x hx
  · rw [hl] at hi
    by_cases hie : i = ks.length
    · funext j
      rw [mI_newC, hie, ← h1, fz_eq]
    · rw [mI_newC, fz_row _ _ (by omega)]; exact h5 i (by omega)
  · rw [hl] at hi
    by_cases hie : i = ks.length
    · rw [mP_newC, hie, ← h1, fz_eq, pl_none ps _ f h7]; rfl
    · rw [mP_newC, fz_row _ _ (by omega)]; exact h6 i f (by omega)
  · rw [hl]; have := h7 x hx; omega
theorem bt_setP (h : Bt z M ks ps u k0) {a f b : Nat} (ha : a < ks.length) : Bt z (setP M (z + a) f (some (z + b))) ks ((a, f, b) :: ps) u k0 := by
  obtain ⟨h1, h2, h3, h4, h5, h6, h7⟩ := h
  refine ⟨h1, h2, h3, h4, h5, fun i g hi => ?_, fun x hx => ?_⟩
  · rw [mP_setP]
    unfold pl
    by_cases hc : a = i ∧ f = g
    · rw [if_pos hc, ← hc.1, ← hc.2, fu_eq]; rfl
    · rw [if_neg hc, fu_ne _ _ (fun q => hc ⟨by omega, q.2.symm⟩)]; exact h6 i g hi
  · rcases List.mem_cons.mp hx with rfl | hx
    · exact ha
    · exact h7 x hx
theorem bt_setI (h : Bt z M ks ps u k0) {a f : Nat} (ha : a < ks.length) : Bt z (setI M (z + a) f 0) ks ps u k0 := by
  obtain ⟨h1, h2, h3, h4, h5, h6, h7⟩ := h
  refine ⟨h1, h2, h3, h4, fun i hi => ?_, h6, h7⟩
  funext j
  rw [mI_setI]
  by_cases hc : z + i = z + a ∧ j = f
  · rw [hc.1, hc.2, fu_eq]
  · rw [fu_ne _ _ hc, h5 i hi]
theorem bt_setN (h : Bt z M ks ps u k0) {a f : Nat} (ha : a < ks.length) (hn : pl ps a f = none) : Bt z (setP M (z + a) f none) ks ps u k0 := by
  obtain ⟨h1, h2, h3, h4, h5, h6, h7⟩ := h
  refine ⟨h1, h2, h3, h4, h5, fun i g hi => ?_, h7⟩
  rw [mP_setP]
  by_cases hc : z + i = z + a ∧ g = f
  · have : i = a := by omega
    rw [hc.1, hc.2, fu_eq, this, hn]; rfl
  · rw [fu_ne _ _ hc]; exact h6 i g hi
theorem bt_al (h : Bt z M ks ps u k0) {sl : Nat} (hk : z + ks.length + 1 ≤ k0) : mS M + 1 ≤ mC M 0 := by rw [h.1, h.2.2.1]; exact hk
end BtS
theorem slm_big : 7000000 ≤ SLm := by decide +kernel
theorem x_len {n d : Nat} (M : Mem) : mR n (d + 2) 2 [.ref (mC M 1)] M = some (.inl (some (.int 6)), M) := by
  have e3 : mR n (d + 1) 3 [.ref (mC M 1)] M = some (.inl (some (.int 0)), M) := by
    rw [eS_coder, fS_coder_0, if_neg (by decide), if_pos rfl]
    rfl
  rw [eS_length]
  simp only [fS_length_0, if_true, e3, rzC_l, rzI_e]
  rfl
section Ini
variable {n d z k0 : Nat} {M : Mem}
theorem I_par (hk : z + 1000 ≤ k0) (b0 : Bt z M [(1, 0), (22, 120), (2, 0)] [(0, 0, 1)] 134 k0) : ∃ M', mR n (d + 3) 1 [.ref (z + 2)] M = some (.inl none, M') ∧ Bt z M' [(1, 0), (22, 120), (2, 0), (22, 120), (23, 6), (25, 120), (25, 120)] [(2, 6, 6), (2, 5, 5), (2, 4, 4), (2, 0, 3), (0, 0, 1)] 500 k0 := by
  rw [eP_init]
  unfold fP_init_0
  rw [show (120 : Int32).toNatClampNeg = 120 from rfl]
  rw [if_pos (show ¬ (120 : Int32) < 0 by decide), if_pos (show 120 ≤ 1000 by decide)]
  rw [if_pos (bt_al (sl := 0) b0 (by simp only [List.length_cons, List.length_nil]; omega)), if_pos (show mU M + 120 ≤ SLm by rw [b0.2.1]; have := slm_big; omega), rzM_e]
  obtain ⟨N1, e1⟩ : ∃ N1, N1 = newC M 22 120 120 := ⟨_, rfl⟩
  have b1 : Bt z N1 [(1, 0), (22, 120), (2, 0), (22, 120)] [(0, 0, 1)] 254 k0 := by rw [e1]; exact bt_new b0 22 120 120
  rw [← e1]
  rw [if_pos (show mK N1 (z + 2) = 2 from (b1.2.2.2.1 2 (2, 0) rfl).1)]
  rw [rzM_e]
  obtain ⟨N2, e2⟩ : ∃ N2, N2 = setP N1 (z + 2) 0 (some (mS M)) := ⟨_, rfl⟩
  have b2 : Bt z N2 [(1, 0), (22, 120), (2, 0), (22, 120)] [(2, 0, 3), (0, 0, 1)] 254 k0 := by rw [e2, show mS M = z + 3 from b0.1]; exact bt_setP b1 (by decide)
  rw [← e2]
  rw [if_pos rfl, x_len, rzC_l, rzI_e]
  rw [show (6 : Int32).toNatClampNeg = 6 from rfl]
  rw [if_pos (show ¬ (6 : Int32) < 0 by decide), if_pos (show 6 ≤ 1000 by decide)]
  rw [if_pos (bt_al (sl := 0) b2 (by simp only [List.length_cons, List.length_nil]; omega)), if_pos (show mU N2 + 6 ≤ SLm by rw [b2.2.1]; have := slm_big; omega), rzM_e]
  obtain ⟨N3, e3⟩ : ∃ N3, N3 = newC N2 23 6 6 := ⟨_, rfl⟩
  have b3 : Bt z N3 [(1, 0), (22, 120), (2, 0), (22, 120), (23, 6)] [(2, 0, 3), (0, 0, 1)] 260 k0 := by rw [e3]; exact bt_new b2 23 6 6
  rw [← e3]
  rw [if_pos (show mK N3 (z + 2) = 2 from (b3.2.2.2.1 2 (2, 0) rfl).1)]
  rw [rzM_e]
  obtain ⟨N4, e4⟩ : ∃ N4, N4 = setP N3 (z + 2) 4 (some (mS N2)) := ⟨_, rfl⟩
  have b4 : Bt z N4 [(1, 0), (22, 120), (2, 0), (22, 120), (23, 6)] [(2, 4, 4), (2, 0, 3), (0, 0, 1)] 260 k0 := by rw [e4, show mS N2 = z + 4 from b2.1]; exact bt_setP b3 (by decide)
  rw [← e4]
  rw [if_pos (show ¬ (120 : Int32) < 0 by decide), if_pos (show 120 ≤ 1000 by decide)]
  rw [if_pos (bt_al (sl := 0) b4 (by simp only [List.length_cons, List.length_nil]; omega)), if_pos (show mU N4 + 120 ≤ SLm by rw [b4.2.1]; have := slm_big; omega), rzM_e]
  obtain ⟨N5, e5⟩ : ∃ N5, N5 = newC N4 25 120 120 := ⟨_, rfl⟩
  have b5 : Bt z N5 [(1, 0), (22, 120), (2, 0), (22, 120), (23, 6), (25, 120)] [(2, 4, 4), (2, 0, 3), (0, 0, 1)] 380 k0 := by rw [e5]; exact bt_new b4 25 120 120
  rw [← e5]
  rw [rzM_e]
  obtain ⟨N6, e6⟩ : ∃ N6, N6 = setP N5 (z + 2) 5 (some (mS N4)) := ⟨_, rfl⟩
  have b6 : Bt z N6 [(1, 0), (22, 120), (2, 0), (22, 120), (23, 6), (25, 120)] [(2, 5, 5), (2, 4, 4), (2, 0, 3), (0, 0, 1)] 380 k0 := by rw [e6, show mS N4 = z + 5 from b4.1]; exact bt_setP b5 (by decide)
  rw [← e6]
  rw [if_pos (show ¬ (120 : Int32) < 0 by decide), if_pos (show 120 ≤ 1000 by decide)]
  rw [if_pos (bt_al (sl := 0) b6 (by simp only [List.length_cons, List.length_nil]; omega)), if_pos (show mU N6 + 120 ≤ SLm by rw [b6.2.1]; have := slm_big; omega), rzM_e]
  obtain ⟨N7, e7⟩ : ∃ N7, N7 = newC N6 25 120 120 := ⟨_, rfl⟩
  have b7 : Bt z N7 [(1, 0), (22, 120), (2, 0), (22, 120), (23, 6), (25, 120), (25, 120)] [(2, 5, 5), (2, 4, 4), (2, 0, 3), (0, 0, 1)] 500 k0 := by rw [e7]; exact bt_new b6 25 120 120
  rw [← e7]
  rw [rzM_e]
  obtain ⟨N8, e8⟩ : ∃ N8, N8 = setP N7 (z + 2) 6 (some (mS N6)) := ⟨_, rfl⟩
  have b8 : Bt z N8 [(1, 0), (22, 120), (2, 0), (22, 120), (23, 6), (25, 120), (25, 120)] [(2, 6, 6), (2, 5, 5), (2, 4, 4), (2, 0, 3), (0, 0, 1)] 500 k0 := by rw [e8, show mS N6 = z + 6 from b6.1]; exact bt_setP b7 (by decide)
  rw [← e8]
  exact ⟨_, rfl, b8⟩
theorem I_wor (hk : z + 1000 ≤ k0) (b0 : Bt z M [(1, 0), (22, 120), (2, 0), (22, 120), (23, 6), (25, 120), (25, 120), (3, 0)] [(0, 2, 2), (2, 6, 6), (2, 5, 5), (2, 4, 4), (2, 0, 3), (0, 0, 1)] 503 k0) : ∃ M', mR n (d + 3) 4 [.ref (z + 7)] M = some (.inl none, M') ∧ Bt z M' [(1, 0), (22, 120), (2, 0), (22, 120), (23, 6), (25, 120), (25, 120), (3, 0), (21, 6)] [(7, 2, 8), (0, 2, 2), (2, 6, 6), (2, 5, 5), (2, 4, 4), (2, 0, 3), (0, 0, 1)] 509 k0 := by
  rw [eO_init]
  unfold fO_init_0
  rw [if_pos rfl, x_len, rzC_l, rzI_e]
  rw [show (6 : Int32).toNatClampNeg = 6 from rfl]
  rw [if_pos (show ¬ (6 : Int32) < 0 by decide), if_pos (show 6 ≤ 1000 by decide)]
  rw [if_pos (bt_al (sl := 0) b0 (by simp only [List.length_cons, List.length_nil]; omega)), if_pos (show mU M + 6 ≤ SLm by rw [b0.2.1]; have := slm_big; omega), rzM_e]
  obtain ⟨N1, e1⟩ : ∃ N1, N1 = newC M 21 6 6 := ⟨_, rfl⟩
  have b1 : Bt z N1 [(1, 0), (22, 120), (2, 0), (22, 120), (23, 6), (25, 120), (25, 120), (3, 0), (21, 6)] [(0, 2, 2), (2, 6, 6), (2, 5, 5), (2, 4, 4), (2, 0, 3), (0, 0, 1)] 509 k0 := by rw [e1]; exact bt_new b0 21 6 6
  rw [← e1]
  rw [if_pos (show mK N1 (z + 7) = 3 from (b1.2.2.2.1 7 (3, 0) rfl).1)]
  rw [rzM_e]
  obtain ⟨N2, e2⟩ : ∃ N2, N2 = setP N1 (z + 7) 2 (some (mS M)) := ⟨_, rfl⟩
  have b2 : Bt z N2 [(1, 0), (22, 120), (2, 0), (22, 120), (23, 6), (25, 120), (25, 120), (3, 0), (21, 6)] [(7, 2, 8), (0, 2, 2), (2, 6, 6), (2, 5, 5), (2, 4, 4), (2, 0, 3), (0, 0, 1)] 509 k0 := by rw [e2, show mS M = z + 8 from b0.1]; exact bt_setP b1 (by decide)
  rw [← e2]
  exact ⟨_, rfl, b2⟩
theorem I_hc (hk : z + 1000 ≤ k0) (b0 : Bt z M [(1, 0)] [] 6 k0) : ∃ M', mR n (d + 4) 0 [.ref (z + 0)] M = some (.inl none, M') ∧ Bt z M' [(1, 0), (22, 120), (2, 0), (22, 120), (23, 6), (25, 120), (25, 120), (3, 0), (21, 6), (21, 5)] [(0, 5, 9), (0, 3, 7), (7, 2, 8), (0, 2, 2), (2, 6, 6), (2, 5, 5), (2, 4, 4), (2, 0, 3), (0, 0, 1)] 514 k0 := by
  rw [eH_init]
  unfold fH_init_0
  rw [show (120 : Int32).toNatClampNeg = 120 from rfl, show (5 : Int32).toNatClampNeg = 5 from rfl]
  rw [if_pos (show ¬ (120 : Int32) < 0 by decide), if_pos (show 120 ≤ 1000 by decide)]
  rw [if_pos (bt_al (sl := 0) b0 (by simp only [List.length_cons, List.length_nil]; omega)), if_pos (show mU M + 120 ≤ SLm by rw [b0.2.1]; have := slm_big; omega), rzM_e]
  obtain ⟨N1, e1⟩ : ∃ N1, N1 = newC M 22 120 120 := ⟨_, rfl⟩
  have b1 : Bt z N1 [(1, 0), (22, 120)] [] 126 k0 := by rw [e1]; exact bt_new b0 22 120 120
  rw [← e1]
  rw [if_pos (show mK N1 (z + 0) = 1 from (b1.2.2.2.1 0 (1, 0) rfl).1)]
  rw [rzM_e]
  obtain ⟨N2, e2⟩ : ∃ N2, N2 = setP N1 (z + 0) 0 (some (mS M)) := ⟨_, rfl⟩
  have b2 : Bt z N2 [(1, 0), (22, 120)] [(0, 0, 1)] 126 k0 := by rw [e2, show mS M = z + 1 from b0.1]; exact bt_setP b1 (by decide)
  rw [← e2]
  rw [rzM_e]
  obtain ⟨N3, e3⟩ : ∃ N3, N3 = setI N2 (z + 0) 1 0 := ⟨_, rfl⟩
  have b3 : Bt z N3 [(1, 0), (22, 120)] [(0, 0, 1)] 126 k0 := by rw [e3]; exact bt_setI b2 (by decide)
  rw [← e3]
  rw [if_pos (bt_al (sl := 0) b3 (by simp only [List.length_cons, List.length_nil]; omega)), if_pos (show mU N3 + 8 ≤ SLm by rw [b3.2.1]; have := slm_big; omega), rzM_e]
  obtain ⟨N4, e4⟩ : ∃ N4, N4 = newC N3 2 0 8 := ⟨_, rfl⟩
  have b4 : Bt z N4 [(1, 0), (22, 120), (2, 0)] [(0, 0, 1)] 134 k0 := by rw [e4]; exact bt_new b3 2 0 8
  rw [← e4]
  rw [show mS N3 = z + 2 from b3.1]
  obtain ⟨N5, i5, b5⟩ := I_par (n := n) (d := d) hk b4
  rw [i5, rzC_l, rzV_e]
  rw [if_pos (show mK N5 (z + 0) = 1 from (b5.2.2.2.1 0 (1, 0) rfl).1)]
  rw [rzM_e]
  obtain ⟨N6, e6⟩ : ∃ N6, N6 = setP N5 (z + 0) 2 (some (z + 2)) := ⟨_, rfl⟩
  have b6 : Bt z N6 [(1, 0), (22, 120), (2, 0), (22, 120), (23, 6), (25, 120), (25, 120)] [(0, 2, 2), (2, 6, 6), (2, 5, 5), (2, 4, 4), (2, 0, 3), (0, 0, 1)] 500 k0 := by rw [e6]; exact bt_setP b5 (by decide)
  rw [← e6]
  rw [if_pos (bt_al (sl := 0) b6 (by simp only [List.length_cons, List.length_nil]; omega)), if_pos (show mU N6 + 3 ≤ SLm by rw [b6.2.1]; have := slm_big; omega), rzM_e]
  obtain ⟨N7, e7⟩ : ∃ N7, N7 = newC N6 3 0 3 := ⟨_, rfl⟩
  have b7 : Bt z N7 [(1, 0), (22, 120), (2, 0), (22, 120), (23, 6), (25, 120), (25, 120), (3, 0)] [(0, 2, 2), (2, 6, 6), (2, 5, 5), (2, 4, 4), (2, 0, 3), (0, 0, 1)] 503 k0 := by rw [e7]; exact bt_new b6 3 0 3
  rw [← e7]
  rw [show mS N6 = z + 7 from b6.1]
  obtain ⟨N8, i8, b8⟩ := I_wor (n := n) (d := d) hk b7
  rw [i8, rzC_l, rzV_e]
  rw [if_pos (show mK N8 (z + 0) = 1 from (b8.2.2.2.1 0 (1, 0) rfl).1)]
  rw [rzM_e]
  obtain ⟨N9, e9⟩ : ∃ N9, N9 = setP N8 (z + 0) 3 (some (z + 7)) := ⟨_, rfl⟩
  have b9 : Bt z N9 [(1, 0), (22, 120), (2, 0), (22, 120), (23, 6), (25, 120), (25, 120), (3, 0), (21, 6)] [(0, 3, 7), (7, 2, 8), (0, 2, 2), (2, 6, 6), (2, 5, 5), (2, 4, 4), (2, 0, 3), (0, 0, 1)] 509 k0 := by rw [e9]; exact bt_setP b8 (by decide)
  rw [← e9]
  rw [rzM_e]
  obtain ⟨N10, e10⟩ : ∃ N10, N10 = setP N9 (z + 0) 4 none := ⟨_, rfl⟩
  have b10 : Bt z N10 [(1, 0), (22, 120), (2, 0), (22, 120), (23, 6), (25, 120), (25, 120), (3, 0), (21, 6)] [(0, 3, 7), (7, 2, 8), (0, 2, 2), (2, 6, 6), (2, 5, 5), (2, 4, 4), (2, 0, 3), (0, 0, 1)] 509 k0 := by rw [e10]; exact bt_setN b9 (by decide) (by decide)
  rw [← e10]
  rw [if_pos (show ¬ (5 : Int32) < 0 by decide), if_pos (show 5 ≤ 1000 by decide)]
  rw [if_pos (bt_al (sl := 0) b10 (by simp only [List.length_cons, List.length_nil]; omega)), if_pos (show mU N10 + 5 ≤ SLm by rw [b10.2.1]; have := slm_big; omega), rzM_e]
  obtain ⟨N11, e11⟩ : ∃ N11, N11 = newC N10 21 5 5 := ⟨_, rfl⟩
  have b11 : Bt z N11 [(1, 0), (22, 120), (2, 0), (22, 120), (23, 6), (25, 120), (25, 120), (3, 0), (21, 6), (21, 5)] [(0, 3, 7), (7, 2, 8), (0, 2, 2), (2, 6, 6), (2, 5, 5), (2, 4, 4), (2, 0, 3), (0, 0, 1)] 514 k0 := by rw [e11]; exact bt_new b10 21 5 5
  rw [← e11]
  rw [rzM_e]
  obtain ⟨N12, e12⟩ : ∃ N12, N12 = setP N11 (z + 0) 5 (some (mS N10)) := ⟨_, rfl⟩
  have b12 : Bt z N12 [(1, 0), (22, 120), (2, 0), (22, 120), (23, 6), (25, 120), (25, 120), (3, 0), (21, 6), (21, 5)] [(0, 5, 9), (0, 3, 7), (7, 2, 8), (0, 2, 2), (2, 6, 6), (2, 5, 5), (2, 4, 4), (2, 0, 3), (0, 0, 1)] 514 k0 := by rw [e12, show mS N10 = z + 9 from b10.1]; exact bt_setP b11 (by decide)
  rw [← e12]
  exact ⟨_, rfl, b12⟩
theorem I_mod (hk : z + 1000 ≤ k0) (b0 : Bt z M [(1, 0), (22, 120), (2, 0), (22, 120), (23, 6), (25, 120), (25, 120), (3, 0), (21, 6), (21, 5), (5, 0)] [(0, 5, 9), (0, 3, 7), (7, 2, 8), (0, 2, 2), (2, 6, 6), (2, 5, 5), (2, 4, 4), (2, 0, 3), (0, 0, 1)] 555 k0) : ∃ M', mR n (d + 1) 65 [.ref (z + 10)] M = some (.inl none, M') ∧ Bt z M' [(1, 0), (22, 120), (2, 0), (22, 120), (23, 6), (25, 120), (25, 120), (3, 0), (21, 6), (21, 5), (5, 0), (22, 120), (21, 260), (21, 260), (23, 4), (23, 4), (21, 260), (21, 260), (23, 4), (23, 4), (21, 140), (21, 140), (21, 140), (21, 6), (21, 4), (21, 4), (21, 260)] [(10, 39, 26), (10, 37, 25), (10, 36, 24), (10, 23, 23), (10, 22, 22), (10, 21, 21), (10, 20, 20), (10, 17, 19), (10, 16, 18), (10, 15, 17), (10, 14, 16), (10, 9, 15), (10, 8, 14), (10, 7, 13), (10, 6, 12), (10, 2, 11), (0, 5, 9), (0, 3, 7), (7, 2, 8), (0, 2, 2), (2, 6, 6), (2, 5, 5), (2, 4, 4), (2, 0, 3), (0, 0, 1)] 2425 k0 := by
  rw [eM_init]
  unfold fM_init_0
  simp only [show (120 : Int32).toNatClampNeg = 120 from rfl, show (260 : Int32).toNatClampNeg = 260 from rfl, show (4 : Int32).toNatClampNeg = 4 from rfl, show (140 : Int32).toNatClampNeg = 140 from rfl, show (6 : Int32).toNatClampNeg = 6 from rfl]
  rw [if_pos (show ¬ (120 : Int32) < 0 by decide), if_pos (show 120 ≤ 1000 by decide)]
  rw [if_pos (bt_al (sl := 0) b0 (by simp only [List.length_cons, List.length_nil]; omega)), if_pos (show mU M + 120 ≤ SLm by rw [b0.2.1]; have := slm_big; omega), rzM_e]
  obtain ⟨N1, e1⟩ : ∃ N1, N1 = newC M 22 120 120 := ⟨_, rfl⟩
  have b1 : Bt z N1 [(1, 0), (22, 120), (2, 0), (22, 120), (23, 6), (25, 120), (25, 120), (3, 0), (21, 6), (21, 5), (5, 0), (22, 120)] [(0, 5, 9), (0, 3, 7), (7, 2, 8), (0, 2, 2), (2, 6, 6), (2, 5, 5), (2, 4, 4), (2, 0, 3), (0, 0, 1)] 675 k0 := by rw [e1]; exact bt_new b0 22 120 120
  rw [← e1]
  rw [if_pos (show mK N1 (z + 10) = 5 from (b1.2.2.2.1 10 (5, 0) rfl).1)]
  rw [rzM_e]
  obtain ⟨N2, e2⟩ : ∃ N2, N2 = setP N1 (z + 10) 2 (some (mS M)) := ⟨_, rfl⟩
  have b2 : Bt z N2 [(1, 0), (22, 120), (2, 0), (22, 120), (23, 6), (25, 120), (25, 120), (3, 0), (21, 6), (21, 5), (5, 0), (22, 120)] [(10, 2, 11), (0, 5, 9), (0, 3, 7), (7, 2, 8), (0, 2, 2), (2, 6, 6), (2, 5, 5), (2, 4, 4), (2, 0, 3), (0, 0, 1)] 675 k0 := by rw [e2, show mS M = z + 11 from b0.1]; exact bt_setP b1 (by decide)
  rw [← e2]
  rw [if_pos (show ¬ (260 : Int32) < 0 by decide), if_pos (show 260 ≤ 1000 by decide)]
  rw [if_pos (bt_al (sl := 0) b2 (by simp only [List.length_cons, List.length_nil]; omega)), if_pos (show mU N2 + 260 ≤ SLm by rw [b2.2.1]; have := slm_big; omega), rzM_e]
  obtain ⟨N3, e3⟩ : ∃ N3, N3 = newC N2 21 260 260 := ⟨_, rfl⟩
  have b3 : Bt z N3 [(1, 0), (22, 120), (2, 0), (22, 120), (23, 6), (25, 120), (25, 120), (3, 0), (21, 6), (21, 5), (5, 0), (22, 120), (21, 260)] [(10, 2, 11), (0, 5, 9), (0, 3, 7), (7, 2, 8), (0, 2, 2), (2, 6, 6), (2, 5, 5), (2, 4, 4), (2, 0, 3), (0, 0, 1)] 935 k0 := by rw [e3]; exact bt_new b2 21 260 260
  rw [← e3]
  rw [rzM_e]
  obtain ⟨N4, e4⟩ : ∃ N4, N4 = setP N3 (z + 10) 6 (some (mS N2)) := ⟨_, rfl⟩
  have b4 : Bt z N4 [(1, 0), (22, 120), (2, 0), (22, 120), (23, 6), (25, 120), (25, 120), (3, 0), (21, 6), (21, 5), (5, 0), (22, 120), (21, 260)] [(10, 6, 12), (10, 2, 11), (0, 5, 9), (0, 3, 7), (7, 2, 8), (0, 2, 2), (2, 6, 6), (2, 5, 5), (2, 4, 4), (2, 0, 3), (0, 0, 1)] 935 k0 := by rw [e4, show mS N2 = z + 12 from b2.1]; exact bt_setP b3 (by decide)
  rw [← e4]
  rw [if_pos (show ¬ (260 : Int32) < 0 by decide), if_pos (show 260 ≤ 1000 by decide)]
  rw [if_pos (bt_al (sl := 0) b4 (by simp only [List.length_cons, List.length_nil]; omega)), if_pos (show mU N4 + 260 ≤ SLm by rw [b4.2.1]; have := slm_big; omega), rzM_e]
  obtain ⟨N5, e5⟩ : ∃ N5, N5 = newC N4 21 260 260 := ⟨_, rfl⟩
  have b5 : Bt z N5 [(1, 0), (22, 120), (2, 0), (22, 120), (23, 6), (25, 120), (25, 120), (3, 0), (21, 6), (21, 5), (5, 0), (22, 120), (21, 260), (21, 260)] [(10, 6, 12), (10, 2, 11), (0, 5, 9), (0, 3, 7), (7, 2, 8), (0, 2, 2), (2, 6, 6), (2, 5, 5), (2, 4, 4), (2, 0, 3), (0, 0, 1)] 1195 k0 := by rw [e5]; exact bt_new b4 21 260 260
  rw [← e5]
  rw [rzM_e]
  obtain ⟨N6, e6⟩ : ∃ N6, N6 = setP N5 (z + 10) 7 (some (mS N4)) := ⟨_, rfl⟩
  have b6 : Bt z N6 [(1, 0), (22, 120), (2, 0), (22, 120), (23, 6), (25, 120), (25, 120), (3, 0), (21, 6), (21, 5), (5, 0), (22, 120), (21, 260), (21, 260)] [(10, 7, 13), (10, 6, 12), (10, 2, 11), (0, 5, 9), (0, 3, 7), (7, 2, 8), (0, 2, 2), (2, 6, 6), (2, 5, 5), (2, 4, 4), (2, 0, 3), (0, 0, 1)] 1195 k0 := by rw [e6, show mS N4 = z + 13 from b4.1]; exact bt_setP b5 (by decide)
  rw [← e6]
  rw [if_pos (show ¬ (4 : Int32) < 0 by decide), if_pos (show 4 ≤ 1000 by decide)]
  rw [if_pos (bt_al (sl := 0) b6 (by simp only [List.length_cons, List.length_nil]; omega)), if_pos (show mU N6 + 4 ≤ SLm by rw [b6.2.1]; have := slm_big; omega), rzM_e]
  obtain ⟨N7, e7⟩ : ∃ N7, N7 = newC N6 23 4 4 := ⟨_, rfl⟩
  have b7 : Bt z N7 [(1, 0), (22, 120), (2, 0), (22, 120), (23, 6), (25, 120), (25, 120), (3, 0), (21, 6), (21, 5), (5, 0), (22, 120), (21, 260), (21, 260), (23, 4)] [(10, 7, 13), (10, 6, 12), (10, 2, 11), (0, 5, 9), (0, 3, 7), (7, 2, 8), (0, 2, 2), (2, 6, 6), (2, 5, 5), (2, 4, 4), (2, 0, 3), (0, 0, 1)] 1199 k0 := by rw [e7]; exact bt_new b6 23 4 4
  rw [← e7]
  rw [rzM_e]
  obtain ⟨N8, e8⟩ : ∃ N8, N8 = setP N7 (z + 10) 8 (some (mS N6)) := ⟨_, rfl⟩
  have b8 : Bt z N8 [(1, 0), (22, 120), (2, 0), (22, 120), (23, 6), (25, 120), (25, 120), (3, 0), (21, 6), (21, 5), (5, 0), (22, 120), (21, 260), (21, 260), (23, 4)] [(10, 8, 14), (10, 7, 13), (10, 6, 12), (10, 2, 11), (0, 5, 9), (0, 3, 7), (7, 2, 8), (0, 2, 2), (2, 6, 6), (2, 5, 5), (2, 4, 4), (2, 0, 3), (0, 0, 1)] 1199 k0 := by rw [e8, show mS N6 = z + 14 from b6.1]; exact bt_setP b7 (by decide)
  rw [← e8]
  rw [if_pos (show ¬ (4 : Int32) < 0 by decide), if_pos (show 4 ≤ 1000 by decide)]
  rw [if_pos (bt_al (sl := 0) b8 (by simp only [List.length_cons, List.length_nil]; omega)), if_pos (show mU N8 + 4 ≤ SLm by rw [b8.2.1]; have := slm_big; omega), rzM_e]
  obtain ⟨N9, e9⟩ : ∃ N9, N9 = newC N8 23 4 4 := ⟨_, rfl⟩
  have b9 : Bt z N9 [(1, 0), (22, 120), (2, 0), (22, 120), (23, 6), (25, 120), (25, 120), (3, 0), (21, 6), (21, 5), (5, 0), (22, 120), (21, 260), (21, 260), (23, 4), (23, 4)] [(10, 8, 14), (10, 7, 13), (10, 6, 12), (10, 2, 11), (0, 5, 9), (0, 3, 7), (7, 2, 8), (0, 2, 2), (2, 6, 6), (2, 5, 5), (2, 4, 4), (2, 0, 3), (0, 0, 1)] 1203 k0 := by rw [e9]; exact bt_new b8 23 4 4
  rw [← e9]
  rw [rzM_e]
  obtain ⟨N10, e10⟩ : ∃ N10, N10 = setP N9 (z + 10) 9 (some (mS N8)) := ⟨_, rfl⟩
  have b10 : Bt z N10 [(1, 0), (22, 120), (2, 0), (22, 120), (23, 6), (25, 120), (25, 120), (3, 0), (21, 6), (21, 5), (5, 0), (22, 120), (21, 260), (21, 260), (23, 4), (23, 4)] [(10, 9, 15), (10, 8, 14), (10, 7, 13), (10, 6, 12), (10, 2, 11), (0, 5, 9), (0, 3, 7), (7, 2, 8), (0, 2, 2), (2, 6, 6), (2, 5, 5), (2, 4, 4), (2, 0, 3), (0, 0, 1)] 1203 k0 := by rw [e10, show mS N8 = z + 15 from b8.1]; exact bt_setP b9 (by decide)
  rw [← e10]
  rw [if_pos (show ¬ (260 : Int32) < 0 by decide), if_pos (show 260 ≤ 1000 by decide)]
  rw [if_pos (bt_al (sl := 0) b10 (by simp only [List.length_cons, List.length_nil]; omega)), if_pos (show mU N10 + 260 ≤ SLm by rw [b10.2.1]; have := slm_big; omega), rzM_e]
  obtain ⟨N11, e11⟩ : ∃ N11, N11 = newC N10 21 260 260 := ⟨_, rfl⟩
  have b11 : Bt z N11 [(1, 0), (22, 120), (2, 0), (22, 120), (23, 6), (25, 120), (25, 120), (3, 0), (21, 6), (21, 5), (5, 0), (22, 120), (21, 260), (21, 260), (23, 4), (23, 4), (21, 260)] [(10, 9, 15), (10, 8, 14), (10, 7, 13), (10, 6, 12), (10, 2, 11), (0, 5, 9), (0, 3, 7), (7, 2, 8), (0, 2, 2), (2, 6, 6), (2, 5, 5), (2, 4, 4), (2, 0, 3), (0, 0, 1)] 1463 k0 := by rw [e11]; exact bt_new b10 21 260 260
  rw [← e11]
  rw [rzM_e]
  obtain ⟨N12, e12⟩ : ∃ N12, N12 = setP N11 (z + 10) 14 (some (mS N10)) := ⟨_, rfl⟩
  have b12 : Bt z N12 [(1, 0), (22, 120), (2, 0), (22, 120), (23, 6), (25, 120), (25, 120), (3, 0), (21, 6), (21, 5), (5, 0), (22, 120), (21, 260), (21, 260), (23, 4), (23, 4), (21, 260)] [(10, 14, 16), (10, 9, 15), (10, 8, 14), (10, 7, 13), (10, 6, 12), (10, 2, 11), (0, 5, 9), (0, 3, 7), (7, 2, 8), (0, 2, 2), (2, 6, 6), (2, 5, 5), (2, 4, 4), (2, 0, 3), (0, 0, 1)] 1463 k0 := by rw [e12, show mS N10 = z + 16 from b10.1]; exact bt_setP b11 (by decide)
  rw [← e12]
  rw [if_pos (show ¬ (260 : Int32) < 0 by decide), if_pos (show 260 ≤ 1000 by decide)]
  rw [if_pos (bt_al (sl := 0) b12 (by simp only [List.length_cons, List.length_nil]; omega)), if_pos (show mU N12 + 260 ≤ SLm by rw [b12.2.1]; have := slm_big; omega), rzM_e]
  obtain ⟨N13, e13⟩ : ∃ N13, N13 = newC N12 21 260 260 := ⟨_, rfl⟩
  have b13 : Bt z N13 [(1, 0), (22, 120), (2, 0), (22, 120), (23, 6), (25, 120), (25, 120), (3, 0), (21, 6), (21, 5), (5, 0), (22, 120), (21, 260), (21, 260), (23, 4), (23, 4), (21, 260), (21, 260)] [(10, 14, 16), (10, 9, 15), (10, 8, 14), (10, 7, 13), (10, 6, 12), (10, 2, 11), (0, 5, 9), (0, 3, 7), (7, 2, 8), (0, 2, 2), (2, 6, 6), (2, 5, 5), (2, 4, 4), (2, 0, 3), (0, 0, 1)] 1723 k0 := by rw [e13]; exact bt_new b12 21 260 260
  rw [← e13]
  rw [rzM_e]
  obtain ⟨N14, e14⟩ : ∃ N14, N14 = setP N13 (z + 10) 15 (some (mS N12)) := ⟨_, rfl⟩
  have b14 : Bt z N14 [(1, 0), (22, 120), (2, 0), (22, 120), (23, 6), (25, 120), (25, 120), (3, 0), (21, 6), (21, 5), (5, 0), (22, 120), (21, 260), (21, 260), (23, 4), (23, 4), (21, 260), (21, 260)] [(10, 15, 17), (10, 14, 16), (10, 9, 15), (10, 8, 14), (10, 7, 13), (10, 6, 12), (10, 2, 11), (0, 5, 9), (0, 3, 7), (7, 2, 8), (0, 2, 2), (2, 6, 6), (2, 5, 5), (2, 4, 4), (2, 0, 3), (0, 0, 1)] 1723 k0 := by rw [e14, show mS N12 = z + 17 from b12.1]; exact bt_setP b13 (by decide)
  rw [← e14]
  rw [if_pos (show ¬ (4 : Int32) < 0 by decide), if_pos (show 4 ≤ 1000 by decide)]
  rw [if_pos (bt_al (sl := 0) b14 (by simp only [List.length_cons, List.length_nil]; omega)), if_pos (show mU N14 + 4 ≤ SLm by rw [b14.2.1]; have := slm_big; omega), rzM_e]
  obtain ⟨N15, e15⟩ : ∃ N15, N15 = newC N14 23 4 4 := ⟨_, rfl⟩
  have b15 : Bt z N15 [(1, 0), (22, 120), (2, 0), (22, 120), (23, 6), (25, 120), (25, 120), (3, 0), (21, 6), (21, 5), (5, 0), (22, 120), (21, 260), (21, 260), (23, 4), (23, 4), (21, 260), (21, 260), (23, 4)] [(10, 15, 17), (10, 14, 16), (10, 9, 15), (10, 8, 14), (10, 7, 13), (10, 6, 12), (10, 2, 11), (0, 5, 9), (0, 3, 7), (7, 2, 8), (0, 2, 2), (2, 6, 6), (2, 5, 5), (2, 4, 4), (2, 0, 3), (0, 0, 1)] 1727 k0 := by rw [e15]; exact bt_new b14 23 4 4
  rw [← e15]
  rw [rzM_e]
  obtain ⟨N16, e16⟩ : ∃ N16, N16 = setP N15 (z + 10) 16 (some (mS N14)) := ⟨_, rfl⟩
  have b16 : Bt z N16 [(1, 0), (22, 120), (2, 0), (22, 120), (23, 6), (25, 120), (25, 120), (3, 0), (21, 6), (21, 5), (5, 0), (22, 120), (21, 260), (21, 260), (23, 4), (23, 4), (21, 260), (21, 260), (23, 4)] [(10, 16, 18), (10, 15, 17), (10, 14, 16), (10, 9, 15), (10, 8, 14), (10, 7, 13), (10, 6, 12), (10, 2, 11), (0, 5, 9), (0, 3, 7), (7, 2, 8), (0, 2, 2), (2, 6, 6), (2, 5, 5), (2, 4, 4), (2, 0, 3), (0, 0, 1)] 1727 k0 := by rw [e16, show mS N14 = z + 18 from b14.1]; exact bt_setP b15 (by decide)
  rw [← e16]
  rw [if_pos (show ¬ (4 : Int32) < 0 by decide), if_pos (show 4 ≤ 1000 by decide)]
  rw [if_pos (bt_al (sl := 0) b16 (by simp only [List.length_cons, List.length_nil]; omega)), if_pos (show mU N16 + 4 ≤ SLm by rw [b16.2.1]; have := slm_big; omega), rzM_e]
  obtain ⟨N17, e17⟩ : ∃ N17, N17 = newC N16 23 4 4 := ⟨_, rfl⟩
  have b17 : Bt z N17 [(1, 0), (22, 120), (2, 0), (22, 120), (23, 6), (25, 120), (25, 120), (3, 0), (21, 6), (21, 5), (5, 0), (22, 120), (21, 260), (21, 260), (23, 4), (23, 4), (21, 260), (21, 260), (23, 4), (23, 4)] [(10, 16, 18), (10, 15, 17), (10, 14, 16), (10, 9, 15), (10, 8, 14), (10, 7, 13), (10, 6, 12), (10, 2, 11), (0, 5, 9), (0, 3, 7), (7, 2, 8), (0, 2, 2), (2, 6, 6), (2, 5, 5), (2, 4, 4), (2, 0, 3), (0, 0, 1)] 1731 k0 := by rw [e17]; exact bt_new b16 23 4 4
  rw [← e17]
  rw [rzM_e]
  obtain ⟨N18, e18⟩ : ∃ N18, N18 = setP N17 (z + 10) 17 (some (mS N16)) := ⟨_, rfl⟩
  have b18 : Bt z N18 [(1, 0), (22, 120), (2, 0), (22, 120), (23, 6), (25, 120), (25, 120), (3, 0), (21, 6), (21, 5), (5, 0), (22, 120), (21, 260), (21, 260), (23, 4), (23, 4), (21, 260), (21, 260), (23, 4), (23, 4)] [(10, 17, 19), (10, 16, 18), (10, 15, 17), (10, 14, 16), (10, 9, 15), (10, 8, 14), (10, 7, 13), (10, 6, 12), (10, 2, 11), (0, 5, 9), (0, 3, 7), (7, 2, 8), (0, 2, 2), (2, 6, 6), (2, 5, 5), (2, 4, 4), (2, 0, 3), (0, 0, 1)] 1731 k0 := by rw [e18, show mS N16 = z + 19 from b16.1]; exact bt_setP b17 (by decide)
  rw [← e18]
  rw [if_pos (show ¬ (140 : Int32) < 0 by decide), if_pos (show 140 ≤ 1000 by decide)]
  rw [if_pos (bt_al (sl := 0) b18 (by simp only [List.length_cons, List.length_nil]; omega)), if_pos (show mU N18 + 140 ≤ SLm by rw [b18.2.1]; have := slm_big; omega), rzM_e]
  obtain ⟨N19, e19⟩ : ∃ N19, N19 = newC N18 21 140 140 := ⟨_, rfl⟩
  have b19 : Bt z N19 [(1, 0), (22, 120), (2, 0), (22, 120), (23, 6), (25, 120), (25, 120), (3, 0), (21, 6), (21, 5), (5, 0), (22, 120), (21, 260), (21, 260), (23, 4), (23, 4), (21, 260), (21, 260), (23, 4), (23, 4), (21, 140)] [(10, 17, 19), (10, 16, 18), (10, 15, 17), (10, 14, 16), (10, 9, 15), (10, 8, 14), (10, 7, 13), (10, 6, 12), (10, 2, 11), (0, 5, 9), (0, 3, 7), (7, 2, 8), (0, 2, 2), (2, 6, 6), (2, 5, 5), (2, 4, 4), (2, 0, 3), (0, 0, 1)] 1871 k0 := by rw [e19]; exact bt_new b18 21 140 140
  rw [← e19]
  rw [rzM_e]
  obtain ⟨N20, e20⟩ : ∃ N20, N20 = setP N19 (z + 10) 20 (some (mS N18)) := ⟨_, rfl⟩
  have b20 : Bt z N20 [(1, 0), (22, 120), (2, 0), (22, 120), (23, 6), (25, 120), (25, 120), (3, 0), (21, 6), (21, 5), (5, 0), (22, 120), (21, 260), (21, 260), (23, 4), (23, 4), (21, 260), (21, 260), (23, 4), (23, 4), (21, 140)] [(10, 20, 20), (10, 17, 19), (10, 16, 18), (10, 15, 17), (10, 14, 16), (10, 9, 15), (10, 8, 14), (10, 7, 13), (10, 6, 12), (10, 2, 11), (0, 5, 9), (0, 3, 7), (7, 2, 8), (0, 2, 2), (2, 6, 6), (2, 5, 5), (2, 4, 4), (2, 0, 3), (0, 0, 1)] 1871 k0 := by rw [e20, show mS N18 = z + 20 from b18.1]; exact bt_setP b19 (by decide)
  rw [← e20]
  rw [if_pos (show ¬ (140 : Int32) < 0 by decide), if_pos (show 140 ≤ 1000 by decide)]
  rw [if_pos (bt_al (sl := 0) b20 (by simp only [List.length_cons, List.length_nil]; omega)), if_pos (show mU N20 + 140 ≤ SLm by rw [b20.2.1]; have := slm_big; omega), rzM_e]
  obtain ⟨N21, e21⟩ : ∃ N21, N21 = newC N20 21 140 140 := ⟨_, rfl⟩
  have b21 : Bt z N21 [(1, 0), (22, 120), (2, 0), (22, 120), (23, 6), (25, 120), (25, 120), (3, 0), (21, 6), (21, 5), (5, 0), (22, 120), (21, 260), (21, 260), (23, 4), (23, 4), (21, 260), (21, 260), (23, 4), (23, 4), (21, 140), (21, 140)] [(10, 20, 20), (10, 17, 19), (10, 16, 18), (10, 15, 17), (10, 14, 16), (10, 9, 15), (10, 8, 14), (10, 7, 13), (10, 6, 12), (10, 2, 11), (0, 5, 9), (0, 3, 7), (7, 2, 8), (0, 2, 2), (2, 6, 6), (2, 5, 5), (2, 4, 4), (2, 0, 3), (0, 0, 1)] 2011 k0 := by rw [e21]; exact bt_new b20 21 140 140
  rw [← e21]
  rw [rzM_e]
  obtain ⟨N22, e22⟩ : ∃ N22, N22 = setP N21 (z + 10) 21 (some (mS N20)) := ⟨_, rfl⟩
  have b22 : Bt z N22 [(1, 0), (22, 120), (2, 0), (22, 120), (23, 6), (25, 120), (25, 120), (3, 0), (21, 6), (21, 5), (5, 0), (22, 120), (21, 260), (21, 260), (23, 4), (23, 4), (21, 260), (21, 260), (23, 4), (23, 4), (21, 140), (21, 140)] [(10, 21, 21), (10, 20, 20), (10, 17, 19), (10, 16, 18), (10, 15, 17), (10, 14, 16), (10, 9, 15), (10, 8, 14), (10, 7, 13), (10, 6, 12), (10, 2, 11), (0, 5, 9), (0, 3, 7), (7, 2, 8), (0, 2, 2), (2, 6, 6), (2, 5, 5), (2, 4, 4), (2, 0, 3), (0, 0, 1)] 2011 k0 := by rw [e22, show mS N20 = z + 21 from b20.1]; exact bt_setP b21 (by decide)
  rw [← e22]
  rw [if_pos (show ¬ (140 : Int32) < 0 by decide), if_pos (show 140 ≤ 1000 by decide)]
  rw [if_pos (bt_al (sl := 0) b22 (by simp only [List.length_cons, List.length_nil]; omega)), if_pos (show mU N22 + 140 ≤ SLm by rw [b22.2.1]; have := slm_big; omega), rzM_e]
  obtain ⟨N23, e23⟩ : ∃ N23, N23 = newC N22 21 140 140 := ⟨_, rfl⟩
  have b23 : Bt z N23 [(1, 0), (22, 120), (2, 0), (22, 120), (23, 6), (25, 120), (25, 120), (3, 0), (21, 6), (21, 5), (5, 0), (22, 120), (21, 260), (21, 260), (23, 4), (23, 4), (21, 260), (21, 260), (23, 4), (23, 4), (21, 140), (21, 140), (21, 140)] [(10, 21, 21), (10, 20, 20), (10, 17, 19), (10, 16, 18), (10, 15, 17), (10, 14, 16), (10, 9, 15), (10, 8, 14), (10, 7, 13), (10, 6, 12), (10, 2, 11), (0, 5, 9), (0, 3, 7), (7, 2, 8), (0, 2, 2), (2, 6, 6), (2, 5, 5), (2, 4, 4), (2, 0, 3), (0, 0, 1)] 2151 k0 := by rw [e23]; exact bt_new b22 21 140 140
  rw [← e23]
  rw [rzM_e]
  obtain ⟨N24, e24⟩ : ∃ N24, N24 = setP N23 (z + 10) 22 (some (mS N22)) := ⟨_, rfl⟩
  have b24 : Bt z N24 [(1, 0), (22, 120), (2, 0), (22, 120), (23, 6), (25, 120), (25, 120), (3, 0), (21, 6), (21, 5), (5, 0), (22, 120), (21, 260), (21, 260), (23, 4), (23, 4), (21, 260), (21, 260), (23, 4), (23, 4), (21, 140), (21, 140), (21, 140)] [(10, 22, 22), (10, 21, 21), (10, 20, 20), (10, 17, 19), (10, 16, 18), (10, 15, 17), (10, 14, 16), (10, 9, 15), (10, 8, 14), (10, 7, 13), (10, 6, 12), (10, 2, 11), (0, 5, 9), (0, 3, 7), (7, 2, 8), (0, 2, 2), (2, 6, 6), (2, 5, 5), (2, 4, 4), (2, 0, 3), (0, 0, 1)] 2151 k0 := by rw [e24, show mS N22 = z + 22 from b22.1]; exact bt_setP b23 (by decide)
  rw [← e24]
  rw [if_pos (show ¬ (6 : Int32) < 0 by decide), if_pos (show 6 ≤ 1000 by decide)]
  rw [if_pos (bt_al (sl := 0) b24 (by simp only [List.length_cons, List.length_nil]; omega)), if_pos (show mU N24 + 6 ≤ SLm by rw [b24.2.1]; have := slm_big; omega), rzM_e]
  obtain ⟨N25, e25⟩ : ∃ N25, N25 = newC N24 21 6 6 := ⟨_, rfl⟩
  have b25 : Bt z N25 [(1, 0), (22, 120), (2, 0), (22, 120), (23, 6), (25, 120), (25, 120), (3, 0), (21, 6), (21, 5), (5, 0), (22, 120), (21, 260), (21, 260), (23, 4), (23, 4), (21, 260), (21, 260), (23, 4), (23, 4), (21, 140), (21, 140), (21, 140), (21, 6)] [(10, 22, 22), (10, 21, 21), (10, 20, 20), (10, 17, 19), (10, 16, 18), (10, 15, 17), (10, 14, 16), (10, 9, 15), (10, 8, 14), (10, 7, 13), (10, 6, 12), (10, 2, 11), (0, 5, 9), (0, 3, 7), (7, 2, 8), (0, 2, 2), (2, 6, 6), (2, 5, 5), (2, 4, 4), (2, 0, 3), (0, 0, 1)] 2157 k0 := by rw [e25]; exact bt_new b24 21 6 6
  rw [← e25]
  rw [rzM_e]
  obtain ⟨N26, e26⟩ : ∃ N26, N26 = setP N25 (z + 10) 23 (some (mS N24)) := ⟨_, rfl⟩
  have b26 : Bt z N26 [(1, 0), (22, 120), (2, 0), (22, 120), (23, 6), (25, 120), (25, 120), (3, 0), (21, 6), (21, 5), (5, 0), (22, 120), (21, 260), (21, 260), (23, 4), (23, 4), (21, 260), (21, 260), (23, 4), (23, 4), (21, 140), (21, 140), (21, 140), (21, 6)] [(10, 23, 23), (10, 22, 22), (10, 21, 21), (10, 20, 20), (10, 17, 19), (10, 16, 18), (10, 15, 17), (10, 14, 16), (10, 9, 15), (10, 8, 14), (10, 7, 13), (10, 6, 12), (10, 2, 11), (0, 5, 9), (0, 3, 7), (7, 2, 8), (0, 2, 2), (2, 6, 6), (2, 5, 5), (2, 4, 4), (2, 0, 3), (0, 0, 1)] 2157 k0 := by rw [e26, show mS N24 = z + 23 from b24.1]; exact bt_setP b25 (by decide)
  rw [← e26]
  rw [if_pos (show ¬ (4 : Int32) < 0 by decide), if_pos (show 4 ≤ 1000 by decide)]
  rw [if_pos (bt_al (sl := 0) b26 (by simp only [List.length_cons, List.length_nil]; omega)), if_pos (show mU N26 + 4 ≤ SLm by rw [b26.2.1]; have := slm_big; omega), rzM_e]
  obtain ⟨N27, e27⟩ : ∃ N27, N27 = newC N26 21 4 4 := ⟨_, rfl⟩
  have b27 : Bt z N27 [(1, 0), (22, 120), (2, 0), (22, 120), (23, 6), (25, 120), (25, 120), (3, 0), (21, 6), (21, 5), (5, 0), (22, 120), (21, 260), (21, 260), (23, 4), (23, 4), (21, 260), (21, 260), (23, 4), (23, 4), (21, 140), (21, 140), (21, 140), (21, 6), (21, 4)] [(10, 23, 23), (10, 22, 22), (10, 21, 21), (10, 20, 20), (10, 17, 19), (10, 16, 18), (10, 15, 17), (10, 14, 16), (10, 9, 15), (10, 8, 14), (10, 7, 13), (10, 6, 12), (10, 2, 11), (0, 5, 9), (0, 3, 7), (7, 2, 8), (0, 2, 2), (2, 6, 6), (2, 5, 5), (2, 4, 4), (2, 0, 3), (0, 0, 1)] 2161 k0 := by rw [e27]; exact bt_new b26 21 4 4
  rw [← e27]
  rw [rzM_e]
  obtain ⟨N28, e28⟩ : ∃ N28, N28 = setP N27 (z + 10) 36 (some (mS N26)) := ⟨_, rfl⟩
  have b28 : Bt z N28 [(1, 0), (22, 120), (2, 0), (22, 120), (23, 6), (25, 120), (25, 120), (3, 0), (21, 6), (21, 5), (5, 0), (22, 120), (21, 260), (21, 260), (23, 4), (23, 4), (21, 260), (21, 260), (23, 4), (23, 4), (21, 140), (21, 140), (21, 140), (21, 6), (21, 4)] [(10, 36, 24), (10, 23, 23), (10, 22, 22), (10, 21, 21), (10, 20, 20), (10, 17, 19), (10, 16, 18), (10, 15, 17), (10, 14, 16), (10, 9, 15), (10, 8, 14), (10, 7, 13), (10, 6, 12), (10, 2, 11), (0, 5, 9), (0, 3, 7), (7, 2, 8), (0, 2, 2), (2, 6, 6), (2, 5, 5), (2, 4, 4), (2, 0, 3), (0, 0, 1)] 2161 k0 := by rw [e28, show mS N26 = z + 24 from b26.1]; exact bt_setP b27 (by decide)
  rw [← e28]
  rw [if_pos (show ¬ (4 : Int32) < 0 by decide), if_pos (show 4 ≤ 1000 by decide)]
  rw [if_pos (bt_al (sl := 0) b28 (by simp only [List.length_cons, List.length_nil]; omega)), if_pos (show mU N28 + 4 ≤ SLm by rw [b28.2.1]; have := slm_big; omega), rzM_e]
  obtain ⟨N29, e29⟩ : ∃ N29, N29 = newC N28 21 4 4 := ⟨_, rfl⟩
  have b29 : Bt z N29 [(1, 0), (22, 120), (2, 0), (22, 120), (23, 6), (25, 120), (25, 120), (3, 0), (21, 6), (21, 5), (5, 0), (22, 120), (21, 260), (21, 260), (23, 4), (23, 4), (21, 260), (21, 260), (23, 4), (23, 4), (21, 140), (21, 140), (21, 140), (21, 6), (21, 4), (21, 4)] [(10, 36, 24), (10, 23, 23), (10, 22, 22), (10, 21, 21), (10, 20, 20), (10, 17, 19), (10, 16, 18), (10, 15, 17), (10, 14, 16), (10, 9, 15), (10, 8, 14), (10, 7, 13), (10, 6, 12), (10, 2, 11), (0, 5, 9), (0, 3, 7), (7, 2, 8), (0, 2, 2), (2, 6, 6), (2, 5, 5), (2, 4, 4), (2, 0, 3), (0, 0, 1)] 2165 k0 := by rw [e29]; exact bt_new b28 21 4 4
  rw [← e29]
  rw [rzM_e]
  obtain ⟨N30, e30⟩ : ∃ N30, N30 = setP N29 (z + 10) 37 (some (mS N28)) := ⟨_, rfl⟩
  have b30 : Bt z N30 [(1, 0), (22, 120), (2, 0), (22, 120), (23, 6), (25, 120), (25, 120), (3, 0), (21, 6), (21, 5), (5, 0), (22, 120), (21, 260), (21, 260), (23, 4), (23, 4), (21, 260), (21, 260), (23, 4), (23, 4), (21, 140), (21, 140), (21, 140), (21, 6), (21, 4), (21, 4)] [(10, 37, 25), (10, 36, 24), (10, 23, 23), (10, 22, 22), (10, 21, 21), (10, 20, 20), (10, 17, 19), (10, 16, 18), (10, 15, 17), (10, 14, 16), (10, 9, 15), (10, 8, 14), (10, 7, 13), (10, 6, 12), (10, 2, 11), (0, 5, 9), (0, 3, 7), (7, 2, 8), (0, 2, 2), (2, 6, 6), (2, 5, 5), (2, 4, 4), (2, 0, 3), (0, 0, 1)] 2165 k0 := by rw [e30, show mS N28 = z + 25 from b28.1]; exact bt_setP b29 (by decide)
  rw [← e30]
  rw [if_pos (show ¬ (260 : Int32) < 0 by decide), if_pos (show 260 ≤ 1000 by decide)]
  rw [if_pos (bt_al (sl := 0) b30 (by simp only [List.length_cons, List.length_nil]; omega)), if_pos (show mU N30 + 260 ≤ SLm by rw [b30.2.1]; have := slm_big; omega), rzM_e]
  obtain ⟨N31, e31⟩ : ∃ N31, N31 = newC N30 21 260 260 := ⟨_, rfl⟩
  have b31 : Bt z N31 [(1, 0), (22, 120), (2, 0), (22, 120), (23, 6), (25, 120), (25, 120), (3, 0), (21, 6), (21, 5), (5, 0), (22, 120), (21, 260), (21, 260), (23, 4), (23, 4), (21, 260), (21, 260), (23, 4), (23, 4), (21, 140), (21, 140), (21, 140), (21, 6), (21, 4), (21, 4), (21, 260)] [(10, 37, 25), (10, 36, 24), (10, 23, 23), (10, 22, 22), (10, 21, 21), (10, 20, 20), (10, 17, 19), (10, 16, 18), (10, 15, 17), (10, 14, 16), (10, 9, 15), (10, 8, 14), (10, 7, 13), (10, 6, 12), (10, 2, 11), (0, 5, 9), (0, 3, 7), (7, 2, 8), (0, 2, 2), (2, 6, 6), (2, 5, 5), (2, 4, 4), (2, 0, 3), (0, 0, 1)] 2425 k0 := by rw [e31]; exact bt_new b30 21 260 260
  rw [← e31]
  rw [rzM_e]
  obtain ⟨N32, e32⟩ : ∃ N32, N32 = setP N31 (z + 10) 39 (some (mS N30)) := ⟨_, rfl⟩
  have b32 : Bt z N32 [(1, 0), (22, 120), (2, 0), (22, 120), (23, 6), (25, 120), (25, 120), (3, 0), (21, 6), (21, 5), (5, 0), (22, 120), (21, 260), (21, 260), (23, 4), (23, 4), (21, 260), (21, 260), (23, 4), (23, 4), (21, 140), (21, 140), (21, 140), (21, 6), (21, 4), (21, 4), (21, 260)] [(10, 39, 26), (10, 37, 25), (10, 36, 24), (10, 23, 23), (10, 22, 22), (10, 21, 21), (10, 20, 20), (10, 17, 19), (10, 16, 18), (10, 15, 17), (10, 14, 16), (10, 9, 15), (10, 8, 14), (10, 7, 13), (10, 6, 12), (10, 2, 11), (0, 5, 9), (0, 3, 7), (7, 2, 8), (0, 2, 2), (2, 6, 6), (2, 5, 5), (2, 4, 4), (2, 0, 3), (0, 0, 1)] 2425 k0 := by rw [e32, show mS N30 = z + 26 from b30.1]; exact bt_setP b31 (by decide)
  rw [← e32]
  exact ⟨_, rfl, b32⟩
end Ini
def ksA : List (Nat × Nat) := [(1, 0), (22, 120), (2, 0), (22, 120), (23, 6), (25, 120), (25, 120), (3, 0), (21, 6), (21, 5), (5, 0), (22, 120), (21, 260), (21, 260), (23, 4), (23, 4), (21, 260), (21, 260), (23, 4), (23, 4), (21, 140), (21, 140), (21, 140), (21, 6), (21, 4), (21, 4), (21, 260)]
def psA : List (Nat × Nat × Nat) := [(10, 39, 26), (10, 37, 25), (10, 36, 24), (10, 23, 23), (10, 22, 22), (10, 21, 21), (10, 20, 20), (10, 17, 19), (10, 16, 18), (10, 15, 17), (10, 14, 16), (10, 9, 15), (10, 8, 14), (10, 7, 13), (10, 6, 12), (10, 2, 11), (0, 5, 9), (0, 3, 7), (7, 2, 8), (0, 2, 2), (2, 6, 6), (2, 5, 5), (2, 4, 4), (2, 0, 3), (0, 0, 1)]
def uA : Nat := 2425
