/-! the parser: all formulas -/
section PAl
variable {n W V p sg bd rw : Nat} {T : List Nat}
theorem SpG.map {α β : Type} {base mk : Nat} {M : Mem} {b : Bd} {ts : List Nat} {g : Option (α × List Nat)} {qf : α → Nat} {qf' : β → Nat} {R : α → (Nat → Prop) → Mem → Nat → Prop} {R' : β → (Nat → Prop) → Mem → Nat → Prop} {res : Rz} (f : α → β) (h : SpG p sg bd rw base M T mk b ts g qf R res) (hq : ∀ x, qf' (f x) = qf x) (hR : ∀ x F M a, R x F M a → R' (f x) F M a) : SpG p sg bd rw base M T mk b ts (g.bind fun y => some (f y.1, y.2)) qf' R' res := by
  cases g with
  | none => exact ⟨fun _ => h.1 rfl, fun y q => (by cases q)⟩
  | some x =>
    refine ⟨fun q => (by cases q), fun y q => ?_⟩
    cases q
    rcases h.2 x rfl with ⟨M', a, i', mk', F, e1, e2, e3, e4, e5, e6, e7, e8, e9⟩ | ⟨h1, h2⟩
    · exact Or.inl ⟨M', a, i', mk', F, e1, by rw [hq]; exact e2, e3, e4, e5, e6, e7, e8, hR _ _ _ _ e9⟩
    · exact Or.inr ⟨h1, h2⟩
theorem par_C0 (hn : 200 ≤ n) {k : Nat} (h0 : C0 n W V p sg bd rw T k) (h2 : C2 n W V p sg bd rw T k) : C0 n W V p sg bd rw T (k + 1) := by
  intro acc d i mk D b M hd hk hP hbq hq4 hD
  unfold hFo at hD
  obtain ⟨D, rfl⟩ : ∃ D', D = D' + 100 := ⟨D - 100, by omega⟩
  have e15 : mR n (D + 100) 15 [.ref p, .int (nI d)] M = fP_one_0 n (D + 99) (mR n (D + 99)) p (nI d) M := eP_one n (D + 99) p (nI d) M
  rw [e15]
  by_cases hd12 : d ≤ 12
  · have hlt : ¬ (12 : Int32) < nI d := nI_nlt (a := 12) (by omega) (by decide)
    have i1 : mR n (D + 99) 16 [.int 1] M = some (.inl none, M) := x_insist1 M
    have hpk := x_peek (n := n) (d := D + 98) hP
    have hpk : mR n (D + 99) 17 [.ref p] M = _ := hpk
    obtain ⟨c, hcE⟩ : ∃ c, c = (T.drop i).headD 0 := ⟨_, rfl⟩
    have hc127 := hd_lt hP
    rw [← hcE] at hpk hc127
    have hx : ∀ (kk : Nat), kk < 1000 → ∀ x : Int32, x = nI kk → (nI c = x ↔ c = kk) := fun kk hkk x hx => cq (by omega) kk hkk hx
    have cons : c ≠ 0 → T.drop i = c :: (T.drop i).tail := fun h0 => hd_cons h0 hcE.symm
    have clen : c ≠ 0 → (T.drop i).length = (T.drop i).tail.length + 1 := fun h0 => congrArg List.length (cons h0)
    rw [fP_one_0, if_neg hlt, fP_one_11]
    simp only [i1, rzC_l, rzV_e, hP.1.1, if_true, hpk, rzI_e]
    have hFo1 : hFo (d + 1) + 8 = hFo d := by unfold hFo; omega
    have hFod : hFo d ≤ D + 100 := by unfold hFo; omega
    have hSF : hS d + 20 ≤ hFo d := by unfold hS hFo; omega
    by_cases c33 : c = 33
    · rw [if_pos ((hx 33 (by decide) 33 rfl).mpr c33)]
      have hts := cons (by omega)
      have hl := clen (by omega)
      rw [c33] at hts
      have hg : pF (k + 1) 0 acc d b (T.drop i) = _ := (congrArg (pF (k + 1) 0 acc d b) hts).trans (by conv => lhs; unfold pF)
      have hp := par_not (n := n) hn h0 (acc := acc) (D := D + 98) hd12 hts (by omega) hP hbq hq4 (by omega)
      have hg2 : pF (k + 1) 0 acc d b (T.drop i) = (pF k 0 acc (d + 1) b (T.drop i).tail).bind fun y => some (((y.1.1.1 ++ [(3, 0)], fun n e => !(y.1.1.2.1 n e), none), y.1.2), y.2) := by
        rw [hg]; simp only [if_true, if_pos hd12]
      rw [hg2]
      exact itm hp
    · rw [if_neg (fun q => c33 ((hx 33 (by decide) 33 rfl).mp q))]
      by_cases c40 : c = 40
      · rw [if_pos ((hx 40 (by decide) 40 rfl).mpr c40)]
        have hts := cons (by omega)
        have hl := clen (by omega)
        rw [c40] at hts
        have hg : pF (k + 1) 0 acc d b (T.drop i) = _ := (congrArg (pF (k + 1) 0 acc d b) hts).trans (by conv => lhs; unfold pF)
        have hp := par_brk (n := n) hn h2 (acc := acc) (D := D + 98) hd12 hts (by omega) hP hbq hq4 (by omega)
        have hg2 : pF (k + 1) 0 acc d b (T.drop i) = (pF k 2 acc (d + 1) b (T.drop i).tail).bind fun y => cx 41 (((y.1.1.1, y.1.1.2.1, none), y.1.2), y.2) := by
          rw [hg]; simp only [if_true, if_pos hd12, show ¬ (40 : Nat) = 33 by decide, show ¬ ((40 : Nat) = 65 ∨ (40 : Nat) = 69) by decide, if_false]
        rw [hg2]
        exact itm hp
      · rw [if_neg (fun q => c40 ((hx 40 (by decide) 40 rfl).mp q))]
        by_cases cq' : c = 65 ∨ c = 69
        · have hts := cons (by omega)
          have hl := clen (by omega)
          have hg : pF (k + 1) 0 acc d b (T.drop i) = _ := (congrArg (pF (k + 1) 0 acc d b) hts).trans (by conv => lhs; unfold pF)
          have hp := par_qnt (n := n) hn h0 (acc := acc) (D := D + 98) hd12 cq' hts (by omega) hP hbq hq4 (by omega) (g := pF (k + 1) 0 acc d b (T.drop i)) (by
            rw [hg]; simp only [if_true, if_pos hd12, if_neg c33, if_pos cq']; rfl)
          have hone : ∀ R : Rz, R = fP_one_74 n (D + 99) (mR n (D + 99)) p (nI d) M → SpG p sg bd rw mk M T mk b (T.drop i) (pF (k + 1) 0 acc d b (T.drop i)) (fun y => y.2.length) (RF n (eFd d) W V b) R := by
            intro R hR
            rw [hR, fP_one_74, if_pos hP.1.1]
            exact itm hp
          rcases cq' with c65 | c69
          · rw [if_pos ((hx 65 (by decide) 65 rfl).mpr c65)]
            exact hone _ rfl
          · rw [if_neg (fun q => by have := (hx 65 (by decide) 65 rfl).mp q; omega), if_pos ((hx 69 (by decide) 69 rfl).mpr c69)]
            exact hone _ rfl
        · rw [if_neg (fun q => cq' (Or.inl ((hx 65 (by decide) 65 rfl).mp q))), if_neg (fun q => cq' (Or.inr ((hx 69 (by decide) 69 rfl).mp q)))]
          by_cases c91 : c = 91
          · rw [if_pos ((hx 91 (by decide) 91 rfl).mpr c91)]
            have hts := cons (by omega)
            have hl := clen (by omega)
            rw [c91] at hts
            have hg : pF (k + 1) 0 acc d b (T.drop i) = _ := (congrArg (pF (k + 1) 0 acc d b) hts).trans (by conv => lhs; unfold pF)
            have hg2 : pF (k + 1) 0 acc d b (T.drop i) = (pB k d b (T.drop i).tail).bind fun y => some (((y.1.1, y.1.2, none), acc.2), y.2) := by
              rw [hg]; simp only [if_true, if_pos hd12, show ¬ (91 : Nat) = 33 by decide, show ¬ ((91 : Nat) = 65 ∨ (91 : Nat) = 69) by decide, show ¬ (91 : Nat) = 40 by decide, if_false, nok]
            have hp := par_cset (n := n) (W := W) (V := V) (k := k) (i := i) hn (D := D + 98) hd12 hts (by omega) (by omega) hP
            rw [hg2]
            refine itm (SpG.map (qf' := fun y => y.2.length) (R' := RF n (eFd d) W V b) (fun x => (((x.1, x.2, none), acc.2) : FvT)) hp (fun x => rfl) (fun x F M a hR => ⟨hR.1.mono (by unfold eFd eSd; omega), ?_⟩))
            obtain ⟨ch, h1, h2, h3, h4⟩ := hR.2
            exact kdr_none h1 h2 h3 h4
          · rw [if_neg (fun q => c91 ((hx 91 (by decide) 91 rfl).mp q))]
            have hg2 : pF (k + 1) 0 acc d b (T.drop i) = (pC k d b (T.drop i)).bind fun y => some (((y.1.1, y.1.2, none), acc.2), y.2) := by
              by_cases hc0 : c = 0
              · have hnil : T.drop i = [] := by
                  cases hts : T.drop i with
                  | nil => rfl
                  | cons x r =>
                    rw [hts] at hcE
                    have hcE : c = x := hcE
                    have := (hP.2.2.2.2.2.2.2.2.2 x (List.mem_of_mem_drop (by rw [hts]; exact List.mem_cons_self))).1
                    omega
                rw [hnil]
                conv => lhs; unfold pF
                rw [if_pos rfl, if_pos hd12]
                rfl
              · have hts := cons hc0
                have hg : pF (k + 1) 0 acc d b (T.drop i) = _ := (congrArg (pF (k + 1) 0 acc d b) hts).trans (by conv => lhs; unfold pF)
                rw [hg]
                simp only [if_true, if_pos hd12, if_neg c33, if_neg cq', if_neg c40, if_neg c91, nok]
                rw [← hts]
            rw [hg2]
            have hleaf : ∀ {res : Rz} {g : Option ((Od × DF) × List Nat)}, SpG p sg bd rw mk M T mk b (T.drop i) g (fun _ => acc.2.length) (fun x F M' a => EvF n (eSd d + 2) W V F M' b a x.2 ∧ ∃ ch, mI M' a 0 = nI ch ∧ ch < 127 ∧ ch ≠ 65 ∧ ch ≠ 69) res → SpG p sg bd rw mk M T mk b (T.drop i) (g.bind fun y => some (((y.1.1, y.1.2, none), acc.2), y.2)) (fun y => y.2.length) (RF n (eFd d) W V b) (rzC res fun v M => rzP v fun r => some (.inl (some (va_rf r)), M)) := by
              intro res g hp
              refine itm (SpG.map (qf' := fun y => y.2.length) (R' := RF n (eFd d) W V b) (fun x => (((x.1, x.2, none), acc.2) : FvT)) hp (fun x => rfl) (fun x F M a hR => ⟨hR.1.mono (by unfold eFd eSd; omega), ?_⟩))
              obtain ⟨ch, h1, h2, h3, h4⟩ := hR.2
              exact kdr_none h1 h2 h3 h4
            obtain ⟨s1, s2, s3⟩ := x_swd (n := n) (D := D + 79) hn hP
            rw [← hcE] at s1 s2 s3
            have s1 : isDg c = false → mR n (D + 99) 33 [.ref p] M = some (.inl (some (.int 0)), M) := s1
            have s2 : isDg c = true → pN (T.drop i) = none → Thr p bd rw mk M (mR n (D + 99) 33 [.ref p] M) := s2
            have s3 : ∀ y, isDg c = true → pN (T.drop i) = some y → ∃ M', mR n (D + 99) 33 [.ref p] M = some (.inl (some (.int (b2i (coln y.2)))), M') ∧ PaS p sg bd rw M' T i acc.2.length mk b ∧ ∀ k0 k, FrK p bd rw k0 k M M' := s3
            have n1 : ¬ (1 : Int32) = 0 := by decide
            have hmk : mk ≤ 120 := hP.2.2.2.2.2.2.1.2.2.1
            cases hdg : isDg c with
            | false =>
              have hN : pN (T.drop i) = none := by
                unfold pN
                rw [(num_nd (by rw [← hcE]; exact hdg)).1, if_neg (by simp)]
              have hpc : pC k d b (T.drop i) = (pZ k d b (T.drop i)).bind fun y => pR k d b y.1 y.2 := by unfold pC; rw [hN]
              rw [hpc]
              simp only [s1 hdg, rzC_l, rzI_e, if_true, hP.1.1, fP_one_112]
              exact hleaf (par_cmp (n := n) (k := k) (i := i) (D := D + 98) hn hd12 (by omega) (by omega) hP)
            | true =>
              cases hN : pN (T.drop i) with
              | none =>
                have hts := cons (fun q => by rw [q] at hdg; exact absurd hdg (by decide))
                have hpz : pZ k d b (T.drop i) = none := by
                  rw [hts]
                  unfold pZ
                  have h45 : ¬ c = 45 := fun q => by rw [q] at hdg; exact absurd hdg (by decide)
                  simp only [if_neg h45]
                  unfold pP
                  simp only [hdg, if_true]
                  rw [← hts, hN]
                  rfl
                have hpc : pC k d b (T.drop i) = none := by
                  unfold pC
                  rw [hN]
                  simp only [hpz]
                  rfl
                rw [hpc]
                exact ⟨fun _ => thrg_c (thr_g (s2 hdg hN) (Nat.le_refl _) (Nat.le_refl _)), fun y q => (by cases q)⟩
              | some y =>
                obtain ⟨v, r'⟩ := y
                obtain ⟨M', t1, t2, t3⟩ := s3 _ hdg hN
                have t1 : mR n (D + 99) 33 [.ref p] M = some (.inl (some (.int (b2i (coln r')))), M') := t1
                simp only [t1, rzC_l, rzI_e]
                cases hcol : coln r' with
                | true =>
                  have hpc : pC k d b (T.drop i) = pD k d b v r'.tail := by unfold pC; rw [hN]; simp only [hcol, if_true]
                  rw [hpc, if_neg (show ¬ b2i true = 0 by decide), if_pos t2.1.1]
                  have hp := par_div (n := n) (W := W) (V := V) (k := k) (D := D + 98) hn hd12 (by omega) (by omega) t2 hN hcol
                  exact hleaf (hp.tr (t3 mk 0) (Nat.le_refl _) (Nat.zero_le _) hmk (Nat.le_refl _))
                | false =>
                  have hpc : pC k d b (T.drop i) = (pZ k d b (T.drop i)).bind fun y => pR k d b y.1 y.2 := by unfold pC; rw [hN]; simp only [hcol]; rfl
                  rw [hpc, if_pos (show b2i false = 0 from rfl), if_pos t2.1.1]
                  have hp := par_cmp (n := n) (W := W) (V := V) (k := k) (D := D + 98) hn hd12 (by omega) (by omega) t2
                  exact hleaf (hp.tr (t3 mk 0) (Nat.le_refl _) (Nat.zero_le _) hmk (Nat.le_refl _))
  · have hlt : (12 : Int32) < nI d := nI_lt (a := 12) (by omega) (by omega)
    have hg : pF (k + 1) 0 acc d b (T.drop i) = none := by
      conv => lhs; unfold pF
      rw [if_pos rfl, if_neg hd12]
    rw [hg]
    refine ⟨fun _ => ?_, fun y q => (by cases q)⟩
    rw [fP_one_0, if_pos hlt, fP_one_11]
    exact thr_g (thr_c (x_insist0 (n := n) (d := D + 98) (by omega) hP)) (Nat.le_refl _) (Nat.le_refl _)
theorem par_forms (hn : 200 ≤ n) : ∀ k, C0 n W V p sg bd rw T k ∧ C1 n W V p sg bd rw T k ∧ C2 n W V p sg bd rw T k ∧ E3 n W V p sg bd rw T k ∧ E4 n W V p sg bd rw T k
  | 0 => ⟨fun _ _ _ _ _ _ _ _ h => absurd h (by omega), fun _ _ _ _ _ _ _ _ h => absurd h (by omega), fun _ _ _ _ _ _ _ _ h => absurd h (by omega), fun _ _ _ _ _ _ _ _ _ _ _ _ _ _ _ _ _ _ h => absurd h (by omega), fun _ _ _ _ _ _ _ _ _ _ _ _ _ _ _ _ _ _ h => absurd h (by omega)⟩
  | k + 1 => by
    obtain ⟨a0, a1, a2, b3, b4⟩ := par_forms hn k
    exact ⟨par_C0 hn a0 a2, par_C1 hn a0 b3, par_C2 hn a1 b4, par_E3 hn a0 b3, par_E4 hn a1 b4⟩
end PAl
