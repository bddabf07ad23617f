/-! sums: the reader and the grammar -/
theorem setL_idem (a b : Nat) : ∀ (p : Pl) (c : Od), setL a b (setL a b p c).1 (setL a b p c).2 = setL a b p c
  | [], c => rfl
  | x :: p, c => by
    by_cases h : x.1 = a ∨ x.1 = b
    · simp only [setL, if_pos h]
      exact setL_idem a b p _
    · simp only [setL, if_neg h]
theorem fin_5 {d : Nat} {σ : Nat → Nat} {p : Pl} {c : Od} {b : Bd} {lp : List (Bool × Bool)} : ∀ r : List Nat, isDg (r.headD 0) = false → r.headD 0 ≠ 42 → ¬ (r.headD 0 = 58 ∧ σ 9 = 1) → aFin (5, d, σ, p, c, b, lp) r = aFin (7, d, wps σ, p, c ++ [(13, σ 3)] ++ wpc σ, b, lp) r
  | [], _, _, _ => rfl
  | ch :: r, h1, h2, h3 => by
    have h1 : isDg ch = false := h1
    have h2 : ch ≠ 42 := h2
    have h3 : ¬ (ch = 58 ∧ σ 9 = 1) := h3
    show aFin (tAfterNumber ch d σ p c b lp) r = aFin (tAfterPart ch d (wps σ) p (c ++ [(13, σ 3)] ++ wpc σ) b lp) r
    unfold tAfterNumber
    rw [h1, if_neg (by decide), if_neg h2, if_neg h3]
theorem fin_7 {d : Nat} {σ : Nat → Nat} {p : Pl} {c : Od} {b : Bd} {lp : List (Bool × Bool)} (h10 : σ 10 ≠ 0) : ∀ r : List Nat, r.headD 0 ≠ 43 → r.headD 0 ≠ 45 → aFin (7, d, σ, p, c, b, lp) r = aFin (tWOne d σ p (c ++ [relO σ]) b lp) r
  | [], _, _ => by
    have hn : aNext (7, d, σ, p, c, b, lp) 32 = tAfterOne 32 (wOneL p d (c ++ [relO σ]) b).2.1 σ (wOneL p d (c ++ [relO σ]) b).1 (wOneL p d (c ++ [relO σ]) b).2.2.1 (wOneL p d (c ++ [relO σ]) b).2.2.2 lp := by
      show tAfterPart 32 d σ p c b lp = _
      unfold tAfterPart
      rw [if_neg (by decide), if_neg h10]
    have he : aEnd (7, d, σ, p, c, b, lp) = (1, (wOneL p d (c ++ [relO σ]) b).2.1, σ, (setL 2 1 (wOneL p d (c ++ [relO σ]) b).1 (wOneL p d (c ++ [relO σ]) b).2.2.1).1, (setL 2 1 (wOneL p d (c ++ [relO σ]) b).1 (wOneL p d (c ++ [relO σ]) b).2.2.1).2, (wOneL p d (c ++ [relO σ]) b).2.2.2, lp) := by
      unfold aEnd
      rw [if_pos (Or.inr rfl), hn]
      have h0 : 0 < σ 10 := by omega
      have ht : ∀ (d : Nat) (p : Pl) (c : Od) (b : Bd), tAfterOne 32 d σ p c b lp = (10, d, σ, (setL 2 1 p c).1, (setL 2 1 p c).2, b, lp) := fun d p c b => by
        unfold tAfterOne
        rw [if_neg (by decide), if_neg (by decide), if_neg (fun q => absurd q.1 (by decide))]
      rw [ht]
      show ((if 0 < σ 10 then 1 else 10), _) = _
      rw [if_pos h0]
    have he2 : aEnd (tWOne d σ p (c ++ [relO σ]) b lp) = tWOne d σ p (c ++ [relO σ]) b lp := rfl
    show aAcc _ = aAcc _
    unfold aAcc
    rw [he, he2]
    simp [tWOne, setL_idem]
  | ch :: r, h1, h2 => by
    have h1 : ch ≠ 43 := h1
    have h2 : ch ≠ 45 := h2
    show aFin (tAfterPart ch d σ p c b lp) r = aFin (tAfterOne ch (wOneL p d (c ++ [relO σ]) b).2.1 σ (wOneL p d (c ++ [relO σ]) b).1 (wOneL p d (c ++ [relO σ]) b).2.2.1 (wOneL p d (c ++ [relO σ]) b).2.2.2 lp) r
    unfold tAfterPart
    rw [if_neg (fun q => q.elim h1 h2), if_neg h10]
theorem digs {d : Nat} {p : Pl} {c : Od} {b : Bd} {lp : List (Bool × Bool)} (r : List Nat) : ∀ (ds : List Nat) (σ : Nat → Nat), (∀ x ∈ ds, isDg x = true) → 1 ≤ σ 4 → σ 4 ≤ 3 →
    (3 < σ 4 + ds.length → aFin (5, d, σ, p, c, b, lp) (ds ++ r) = none) ∧ (σ 4 + ds.length ≤ 3 → ∃ τ : Nat → Nat, τ 3 = ds.foldl (fun v c => 10 * v + (c - 48)) (σ 3) ∧ (∀ j, j ≠ 3 → j ≠ 4 → τ j = σ j) ∧ aFin (5, d, σ, p, c, b, lp) (ds ++ r) = aFin (5, d, τ, p, c, b, lp) r)
  | [], σ, _, h1, h3 => ⟨fun h => by simp at h; omega, fun _ => ⟨σ, rfl, fun _ _ _ => rfl, rfl⟩⟩
  | x :: ds, σ, hx, h1, h3 => by
    have hd : isDg x = true := hx x List.mem_cons_self
    have hst : aFin (5, d, σ, p, c, b, lp) (x :: ds ++ r) = aFin ((if σ 4 + 1 < 4 then 5 else 10), d, su (su σ 3 (10 * σ 3 + (x - 48))) 4 (σ 4 + 1), p, c, b, lp) (ds ++ r) := by
      show aFin (tAfterNumber x d σ p c b lp) (ds ++ r) = _
      unfold tAfterNumber
      rw [if_pos hd]
    rw [hst]
    by_cases h4 : σ 4 + 1 < 4
    · rw [if_pos h4]
      have ih := digs (d := d) (p := p) (c := c) (b := b) (lp := lp) r ds (su (su σ 3 (10 * σ 3 + (x - 48))) 4 (σ 4 + 1)) (fun y hy => hx y (List.mem_cons_of_mem _ hy)) (by simp [su]) (by simp [su]; omega)
      have e4 : su (su σ 3 (10 * σ 3 + (x - 48))) 4 (σ 4 + 1) 4 = σ 4 + 1 := by simp [su]
      have e3 : su (su σ 3 (10 * σ 3 + (x - 48))) 4 (σ 4 + 1) 3 = 10 * σ 3 + (x - 48) := by simp [su]
      rw [e4, e3] at ih
      refine ⟨fun h => ih.1 (by simp only [List.length_cons] at h; omega), fun h => ?_⟩
      obtain ⟨τ, t1, t2, t3⟩ := ih.2 (by simp only [List.length_cons] at h; omega)
      exact ⟨τ, t1, fun j j3 j4 => by rw [t2 j j3 j4]; simp [su, j3, j4], t3⟩
    · rw [if_neg h4]
      exact ⟨fun _ => aFin_10 _ _, fun h => by simp only [List.length_cons] at h; omega⟩
theorem tw_dw {α : Type} (p : α → Bool) : ∀ l : List α, l.takeWhile p ++ l.dropWhile p = l
  | [] => rfl
  | a :: l => by
    by_cases h : p a = true
    · simp [List.takeWhile_cons, List.dropWhile_cons, h, tw_dw p l]
    · simp [List.takeWhile_cons, List.dropWhile_cons, h]
theorem dw_head (p : Nat → Bool) (h0 : p 0 = false) : ∀ l : List Nat, p ((l.dropWhile p).headD 0) = false
  | [] => h0
  | a :: l => by
    by_cases h : p a = true
    · rw [List.dropWhile_cons, if_pos h]; exact dw_head p h0 l
    · rw [List.dropWhile_cons, if_neg h]; simpa using h
theorem pN_some {ts : List Nat} {y : Nat × List Nat} (h : pN ts = some y) : y.2 = ts.dropWhile isDg ∧ y.1 = dgv (ts.takeWhile isDg) ∧ 1 ≤ (ts.takeWhile isDg).length ∧ (ts.takeWhile isDg).length ≤ 3 := by
  unfold pN at h
  split at h
  · cases h
    exact ⟨rfl, rfl, by assumption⟩
  · cases h
theorem pN_len {ts : List Nat} {y : Nat × List Nat} (h : pN ts = some y) : y.2.length < ts.length := by
  obtain ⟨h1, -, h2, -⟩ := pN_some h
  have h3 := congrArg List.length (tw_dw isDg ts)
  rw [List.length_append] at h3
  rw [h1]
  omega
theorem pT_len {k d : Nat} {b : Bd} {ts : List Nat} {y : (Od × Dn) × List Nat} (h : pT k d b ts = some y) : y.2.length < ts.length := by
  unfold pT at h
  cases ts with
  | nil => cases h
  | cons c r =>
    simp only at h
    split at h
    · cases h; simp
    · split at h
      · obtain ⟨z, g1, g2⟩ := Option.bind_eq_some_iff.mp h
        cases g2
        have := (pS_len _ _ _ _ _ _ _ g1).1
        simp only [List.length_cons]
        omega
      · obtain ⟨q, g1, g2⟩ := Option.bind_eq_some_iff.mp h
        cases g2; simp
theorem pM_len {k d v : Nat} {b : Bd} {ts : List Nat} {y : (Od × Dn) × List Nat} (h : pM k d b v ts = some y) : y.2.length ≤ ts.length := by
  unfold pM at h
  split at h
  · cases h; simp
  · split at h
    · obtain ⟨z, g1, g2⟩ := Option.bind_eq_some_iff.mp h
      have := pT_len g1
      cases g2
      simp only [List.length_cons]
      omega
    · cases h; simp
theorem pP_len {k d : Nat} {b : Bd} {ts : List Nat} {y : (Od × Dn) × List Nat} (h : pP k d b ts = some y) : y.2.length < ts.length := by
  unfold pP at h
  cases ts with
  | nil => cases h
  | cons c r =>
    simp only at h
    split at h
    · obtain ⟨z, g1, g2⟩ := Option.bind_eq_some_iff.mp h
      have h1 := pN_len g1
      have h2 := pM_len g2
      omega
    · exact pT_len h
theorem pZr_len : ∀ (k f d : Nat) (b : Bd) (acc : Od × Dn) (ts : List Nat) (y : (Od × Dn) × List Nat), pZr k f d b acc ts = some y → y.2.length ≤ ts.length ∧ y.2.headD 0 ≠ 43 ∧ y.2.headD 0 ≠ 45 := by
  intro k
  induction k with
  | zero => intro f d b acc ts y h; cases h
  | succ k ih =>
    intro f d b acc ts y h
    unfold pZr at h
    cases ts with
    | nil => cases h; exact ⟨Nat.le_refl _, nh (by decide), nh (by decide)⟩
    | cons c r =>
      simp only at h
      split at h
      · obtain ⟨z, g1, g2⟩ := Option.bind_eq_some_iff.mp h
        have h1 := pP_len g1
        obtain ⟨a1, a2⟩ := ih _ _ _ _ _ _ g2
        exact ⟨by simp only [List.length_cons]; omega, a2⟩
      · rename_i hn
        cases h
        exact ⟨Nat.le_refl _, fun q => hn (Or.inl q), fun q => hn (Or.inr q)⟩
theorem pZ_len {k d : Nat} {b : Bd} {ts : List Nat} {y : (Od × Dn) × List Nat} (h : pZ k d b ts = some y) : y.2.length < ts.length ∧ y.2.headD 0 ≠ 43 ∧ y.2.headD 0 ≠ 45 := by
  unfold pZ at h
  cases ts with
  | nil => cases h
  | cons c r =>
    simp only at h
    obtain ⟨z, g1, g2⟩ := Option.bind_eq_some_iff.mp h
    have h1 := pP_len g1
    obtain ⟨a1, a2⟩ := pZr_len _ _ _ _ _ _ _ g2
    have h3 : (if c = 45 then r else c :: r).length ≤ (c :: r).length := by split <;> simp
    exact ⟨by omega, a2⟩
theorem thing_auto {k d : Nat} {b : Bd} {ch : Nat} {r : List Nat} (hk : 3 * r.length + 1 ≤ k) (hd : d ≤ 12) (σ : Nat → Nat) (p : Pl) (c : Od) (lp : List (Bool × Bool)) : Lk (pT k d b (ch :: r)) (aFin (tThing ch d σ p c b lp) r) (fun τ => τ = wps σ) (fun x τ => (7, d, τ, p, c ++ x.1 ++ wpc σ, b, lp)) := by
  unfold pT tThing
  simp only
  by_cases h1 : ch = 110
  · rw [if_pos h1, if_pos h1]
    exact Lk.ret _ rfl rfl
  · rw [if_neg h1, if_neg h1]
    by_cases h2 : ch = 35
    · rw [if_pos h2, if_pos h2]
      unfold tDeep
      by_cases h12 : 12 ≤ d
      · rw [if_pos h12, pS_deep 0 (by decide) _ _ _ _ _ (by omega)]
        exact Lk.non (aFin_10 _ _)
      · rw [if_neg h12]
        refine ((pS_auto k).1 sv0 (d + 1) b r hk σ ((11, 0, none) :: p) c lp (by omega)).bind (fun y τ hy hτ => ?_)
        subst hτ
        refine Lk.ret _ rfl ?_
        show aFin (tWSin (d + 1) τ ((11, 0, none) :: p) (c ++ y.1.1) b lp) y.2 = aFin (7, d, wps τ, p, c ++ (y.1.1 ++ [(11, 0)]) ++ wpc τ, b, lp) y.2
        unfold tWSin
        rw [wSinL_id (tpn (by decide)), ← List.append_assoc c]
        rfl
    · rw [if_neg h2, if_neg h2]
      cases hv : vrN b ch with
      | none => exact Lk.non (aFin_10 _ _)
      | some q => exact Lk.ret _ rfl rfl
theorem wpc5 (σ : Nat → Nat) (h : σ 5 = 0) : wpc σ = sgc σ := by
  unfold wpc
  rw [h, if_neg (by decide)]
  rfl
theorem sgc_eq {σ τ : Nat → Nat} (h7 : τ 7 = σ 7) (h8 : τ 8 = σ 8) : sgc τ = sgc σ := by
  unfold sgc
  rw [h7, h8]
theorem part_auto {k d : Nat} {b : Bd} {ch : Nat} {r : List Nat} (hk : 3 * r.length + 1 ≤ k) (hd : d ≤ 12) (σ : Nat → Nat) (p : Pl) (c : Od) (lp : List (Bool × Bool)) (hbare : σ 9 = 1 → ∀ y, pN (ch :: r) = some y → coln y.2 = false) :
    Lk (pP k d b (ch :: r)) (aFin (tPart ch d σ p c b lp) r) (fun τ => τ 10 = σ 10 ∧ τ 11 = σ 11 ∧ τ 8 = 0 ∧ τ 9 = 0) (fun x τ => (7, d, τ, p, c ++ x.1 ++ sgc σ, b, lp)) := by
  unfold pP tPart
  simp only
  by_cases hg : isDg ch = true
  · rw [if_pos hg, if_pos hg]
    have htw : (ch :: r).takeWhile isDg = ch :: r.takeWhile isDg := by rw [List.takeWhile_cons, if_pos hg]
    have hdw : (ch :: r).dropWhile isDg = r.dropWhile isDg := by rw [List.dropWhile_cons, if_pos hg]
    have hdg := digs (d := d) (p := p) (c := c) (b := b) (lp := lp) (r.dropWhile isDg) (r.takeWhile isDg) (su (su (su σ 5 0) 3 (ch - 48)) 4 1) (fun x hx => mem_tw r x hx) (by simp [su]) (by simp [su])
    rw [tw_dw isDg r] at hdg
    have e4 : su (su (su σ 5 0) 3 (ch - 48)) 4 1 4 = 1 := by simp [su]
    have e3 : su (su (su σ 5 0) 3 (ch - 48)) 4 1 3 = ch - 48 := by simp [su]
    rw [e4, e3] at hdg
    by_cases hl : 1 + (r.takeWhile isDg).length ≤ 3
    · obtain ⟨τ, t3, tj, ht⟩ := hdg.2 hl
      have hpn : pN (ch :: r) = some (dgv (ch :: r.takeWhile isDg), r.dropWhile isDg) := by
        unfold pN
        rw [htw, hdw, if_pos (by simp only [List.length_cons]; omega)]
      rw [hpn, ht]
      have hv : τ 3 = dgv (ch :: r.takeWhile isDg) := by
        rw [t3]
        unfold dgv
        rw [List.foldl_cons]
        simp
      have hw5 : τ 5 = 0 := by rw [tj 5 (by decide) (by decide)]; simp [su]
      have hw7 : τ 7 = σ 7 := by rw [tj 7 (by decide) (by decide)]; simp [su]
      have hw8 : τ 8 = σ 8 := by rw [tj 8 (by decide) (by decide)]; simp [su]
      have hw9 : τ 9 = σ 9 := by rw [tj 9 (by decide) (by decide)]; simp [su]
      have hwa : τ 10 = σ 10 := by rw [tj 10 (by decide) (by decide)]; simp [su]
      have hwb : τ 11 = σ 11 := by rw [tj 11 (by decide) (by decide)]; simp [su]
      have hhd := dw_head isDg (by decide) r
      have hcol : σ 9 = 1 → coln (r.dropWhile isDg) = false := fun h => hbare h _ hpn
      show Lk (pM k d b (dgv (ch :: r.takeWhile isDg)) (r.dropWhile isDg)) _ _ _
      have hlen : (r.dropWhile isDg).length ≤ r.length := by
        have h3 := congrArg List.length (tw_dw isDg r)
        rw [List.length_append] at h3
        omega
      generalize r.dropWhile isDg = r' at *
      generalize dgv (ch :: r.takeWhile isDg) = v at *
      have hnum : isDg (r'.headD 0) = false → r'.headD 0 ≠ 42 → aFin (5, d, τ, p, c, b, lp) r' = aFin (7, d, wps τ, p, c ++ [(13, v)] ++ sgc σ, b, lp) r' := fun h1 h2 => by
        rw [fin_5 r' h1 h2 (fun q => ?_), hv, wpc5 τ hw5, sgc_eq hw7 hw8]
        have hc1 := hcol (hw9 ▸ q.2)
        cases r' with
        | nil => exact absurd q.1 (by decide)
        | cons x r' =>
          have hx : x = 58 := q.1
          subst hx
          cases hc1
      unfold pM
      cases r' with
      | nil =>
        simp only
        rw [hnum hhd (nh (by decide))]
        exact Lk.ret (wps τ) ⟨hwa, hwb, rfl, rfl⟩ rfl
      | cons x r2 =>
        simp only
        by_cases hx : x = 42
        · rw [if_pos hx]
          have hst : aFin (5, d, τ, p, c, b, lp) (x :: r2) = aFin (6, d, su (su τ 5 1) 6 (τ 3), p, c, b, lp) r2 := by
            show aFin (tAfterNumber x d τ p c b lp) r2 = _
            unfold tAfterNumber
            have hx0 : isDg x = false := hhd
            rw [hx0, if_neg (by decide), if_pos hx]
          rw [hst]
          cases r2 with
          | nil => exact Lk.non (aFin_e (by decide) (by decide) (by decide) _)
          | cons x2 r3 =>
            simp only [List.length_cons] at hlen
            refine (thing_auto (k := k) (by omega) hd (su (su τ 5 1) 6 (τ 3)) p c lp).bind (fun y τ2 hy hτ2 => ?_)
            subst hτ2
            have hwp : wpc (su (su τ 5 1) 6 (τ 3)) = [(16, v)] ++ sgc σ := by
              unfold wpc
              rw [sgc_eq (σ := σ) (by simp [su, hw7]) (by simp [su, hw8])]
              simp [su, hv]
            refine Lk.ret (wps (su (su τ 5 1) 6 (τ 3))) ⟨by simp [wps, su, hwa], by simp [wps, su, hwb], rfl, rfl⟩ ?_
            rw [hwp]
            simp only [List.append_assoc]
        · rw [if_neg hx, hnum hhd hx]
          exact Lk.ret (wps τ) ⟨hwa, hwb, rfl, rfl⟩ rfl
    · have hpn : pN (ch :: r) = none := by
        unfold pN
        rw [htw, if_neg (by simp only [List.length_cons]; omega)]
      rw [hpn, hdg.1 (by omega)]
      exact Lk.non rfl
  · rw [if_neg hg, if_neg hg]
    have h1 := thing_auto (b := b) (ch := ch) hk hd (su σ 5 0) p c lp
    rw [wpc5 (su σ 5 0) (by simp [su]), sgc_eq (σ := σ) (by simp [su]) (by simp [su])] at h1
    refine ⟨h1.1, fun y hy => ?_⟩
    obtain ⟨τ, e1, e2⟩ := h1.2 y hy
    exact ⟨τ, by rw [e1]; simp [wps, su], e2⟩
theorem hsgn_code (m : Bool) (x : Od × Dn) : (hsgn m x).1 = x.1 ++ (if m then [(17, 0)] else []) := by
  unfold hsgn
  cases m <;> simp
theorem rest_auto {d : Nat} {b : Bd} (hd : d ≤ 12) {f : Nat} (p : Pl) (c : Od) (lp : List (Bool × Bool)) : ∀ (k : Nat) (acc : Od × Dn) (ts : List Nat) (σ : Nat → Nat), ts.length < k → 3 * ts.length + 1 ≤ f → σ 8 = 0 → σ 9 = 0 → Lk (pZr k f d b acc ts) (aFin (7, d, σ, p, c ++ acc.1, b, lp) ts) (fun τ => τ 10 = σ 10 ∧ τ 11 = σ 11) (fun x τ => (7, d, τ, p, c ++ x.1, b, lp)) := by
  intro k
  induction k with
  | zero => intro acc ts σ h; omega
  | succ k ih =>
    intro acc ts σ hk hf h8 h9
    unfold pZr
    cases ts with
    | nil => exact Lk.ret σ ⟨rfl, rfl⟩ rfl
    | cons ch r =>
      simp only [List.length_cons] at hk hf
      simp only
      by_cases h1 : ch = 43 ∨ ch = 45
      · rw [if_pos h1]
        have hst : aFin (7, d, σ, p, c ++ acc.1, b, lp) (ch :: r) = aFin (4, d, su σ 7 (if ch = 45 then 1 else 0), p, c ++ acc.1, b, lp) r := by
          show aFin (tAfterPart ch d σ p (c ++ acc.1) b lp) r = _
          unfold tAfterPart
          rw [if_pos h1]
        rw [hst]
        cases r with
        | nil => exact Lk.non (aFin_e (by decide) (by decide) (by decide) _)
        | cons x r2 =>
          simp only [List.length_cons] at hk hf
          refine (part_auto (k := f) (b := b) (ch := x) (r := r2) (by omega) hd (su σ 7 (if ch = 45 then 1 else 0)) p (c ++ acc.1) lp (fun q => by simp [su, h9] at q)).bind (fun y τ hy hτ => ?_)
          obtain ⟨e1, e2, e3, e4⟩ := hτ
          have hl := pP_len hy
          simp only [List.length_cons] at hl
          have h10 := ih (acc.1 ++ (hsgn (decide (ch = 45)) y.1).1 ++ [(18, 0)], fun n e => acc.2 n e + (hsgn (decide (ch = 45)) y.1).2 n e) y.2 τ (by omega) (by omega) e3 e4
          have hsg : sgc (su σ 7 (if ch = 45 then 1 else 0)) = (if decide (ch = 45) = true then [(17, 0)] else []) ++ [(18, 0)] := by
            unfold sgc
            by_cases hc : ch = 45 <;> simp [su, h8, hc]
          rw [hsg]
          rw [hsgn_code] at h10
          refine ⟨fun q => ?_, fun z hz => ?_⟩
          · have := h10.1 (by rw [hsgn_code] at q; exact q)
            simpa only [List.append_assoc] using this
          · obtain ⟨τ2, g1, g2⟩ := h10.2 z (by rw [hsgn_code] at hz; exact hz)
            refine ⟨τ2, ⟨by rw [g1.1, e1]; simp [su], by rw [g1.2, e2]; simp [su]⟩, ?_⟩
            simpa only [List.append_assoc] using g2
      · rw [if_neg h1]
        exact Lk.ret σ ⟨rfl, rfl⟩ rfl
theorem sum_auto {k d : Nat} {b : Bd} {ch : Nat} {r : List Nat} (hk : 3 * r.length + 4 ≤ k) (hd : d ≤ 12) (σ : Nat → Nat) (p : Pl) (c : Od) (lp : List (Bool × Bool)) (hb : σ 10 = 0 → ∀ y, pN (ch :: r) = some y → coln y.2 = false) :
    Lk (pZ k d b (ch :: r)) (aFin (tSum ch d σ p c b lp) r) (fun τ => τ 10 = σ 10 ∧ τ 11 = σ 11) (fun x τ => (7, d, τ, p, c ++ x.1, b, lp)) := by
  unfold pZ tSum
  simp only
  have hgo : ∀ (x : Nat) (r2 : List Nat), 3 * r2.length + 1 ≤ k → r2.length + 1 < k → (ch ≠ 45 → x = ch ∧ r2 = r) → Lk ((pP k d b (x :: r2)).bind fun y => pZr k k d b (hsgn (decide (ch = 45)) y.1) y.2) (aFin (tPart x d (tSumS ch σ) p c b lp) r2) (fun τ => τ 10 = σ 10 ∧ τ 11 = σ 11) (fun x τ => (7, d, τ, p, c ++ x.1, b, lp)) := by
    intro x r2 hk2 hk3 hx
    refine (part_auto (k := k) (b := b) (ch := x) (r := r2) hk2 hd (tSumS ch σ) p c lp (fun q => ?_)).bind (fun y τ hy hτ => ?_)
    · have h10 : σ 10 = 0 ∧ ch ≠ 45 := by
        unfold tSumS at q
        simp only [su, if_true] at q
        split at q
        · assumption
        · cases q
      obtain ⟨rfl, rfl⟩ := hx h10.2
      exact hb h10.1
    · obtain ⟨e1, e2, e3, e4⟩ := hτ
      have hl := pP_len hy
      simp only [List.length_cons] at hl
      have h10 := rest_auto (b := b) hd (f := k) p c lp k (hsgn (decide (ch = 45)) y.1) y.2 τ (by omega) (by omega) e3 e4
      have hsg : c ++ y.1.1 ++ sgc (tSumS ch σ) = c ++ (hsgn (decide (ch = 45)) y.1).1 := by
        rw [hsgn_code]
        unfold sgc
        by_cases hc : ch = 45 <;> simp [su, tSumS, hc]
      rw [hsg]
      refine ⟨h10.1, fun z hz => ?_⟩
      obtain ⟨τ2, g1, g2⟩ := h10.2 z hz
      exact ⟨τ2, ⟨by rw [g1.1, e1]; simp [su, tSumS], by rw [g1.2, e2]; simp [su, tSumS]⟩, g2⟩
  by_cases hc : ch = 45
  · rw [if_pos hc, if_pos hc]
    cases r with
    | nil => exact Lk.non (aFin_e (by decide) (by decide) (by decide) _)
    | cons x r2 =>
      simp only [List.length_cons] at hk
      exact hgo x r2 (by omega) (by omega) (fun h => absurd hc h)
  · rw [if_neg hc, if_neg hc]
    exact hgo ch r (by omega) (by omega) (fun _ => ⟨rfl, rfl⟩)
theorem relO_1 {σ : Nat → Nat} (h : σ 10 = 1) : relO σ = (19, 0) := by unfold relO; rw [if_pos h]
theorem relO_2 {σ : Nat → Nat} (h : σ 10 = 2) : relO σ = (20, 0) := by unfold relO; rw [if_neg (by omega), if_pos h]
theorem relO_3 {σ : Nat → Nat} (h : σ 10 = 3) : relO σ = (21, σ 11) := by unfold relO; rw [if_neg (by omega), if_neg (by omega)]
theorem comp_auto {k d : Nat} {b : Bd} {ch : Nat} {r : List Nat} (hk : 3 * r.length + 4 ≤ k) (hd : d ≤ 12) (σ : Nat → Nat) (h10 : σ 10 = 0) (p : Pl) (c : Od) (lp : List (Bool × Bool)) :
    Lk (pC k d b (ch :: r)) (aFin (tSum ch d σ p c b lp) r) (fun _ => True) (fun x τ => tWOne d τ p (c ++ x.1) b lp) := by
  have hsums : (∀ y, pN (ch :: r) = some y → coln y.2 = false) → Lk ((pZ k d b (ch :: r)).bind fun y => pR k d b y.1 y.2) (aFin (tSum ch d σ p c b lp) r) (fun _ => True) (fun x τ => tWOne d τ p (c ++ x.1) b lp) := by
    intro hb
    refine (sum_auto (b := b) hk hd σ p c lp (fun _ => hb)).bind (fun y τ hy hτ => ?_)
    obtain ⟨e1, e2⟩ := hτ
    obtain ⟨hl, hh1, hh2⟩ := pZ_len hy
    simp only [List.length_cons] at hl
    obtain ⟨x, r2⟩ := y
    unfold pR
    cases r2 with
    | nil =>
      refine Lk.non ?_
      show aAcc _ = none
      unfold aAcc
      have he : (aEnd (7, d, τ, p, c ++ x.1, b, lp)).1 = 10 := by
        unfold aEnd
        rw [if_pos (Or.inr rfl)]
        show (if 0 < τ 10 then 1 else 10) = 10
        rw [if_neg (by omega)]
      rw [if_neg (by rw [he]; decide)]
    | cons t r3 =>
      have ht1 : t ≠ 43 := hh1
      have ht2 : t ≠ 45 := hh2
      simp only [List.length_cons] at hl
      have hst : aFin (7, d, τ, p, c ++ x.1, b, lp) (t :: r3) = aFin (if t = 60 then (3, d, su τ 10 1, p, c ++ x.1, b, lp) else if t = 61 then (3, d, su τ 10 2, p, c ++ x.1, b, lp) else (10, d, τ, p, c ++ x.1, b, lp)) r3 := by
        show aFin (tAfterPart t d τ p (c ++ x.1) b lp) r3 = _
        unfold tAfterPart
        rw [if_neg (fun q => q.elim ht1 ht2), if_pos (by omega)]
      rw [hst]
      have hsec : ∀ (v : Nat) (w : Nat × Nat) (D : (Od × Dn) → DF), v ≠ 0 → (∀ τ : Nat → Nat, τ 10 = v → relO τ = w) → Lk ((pZ k d b r3).bind fun y => some ((x.1 ++ y.1.1 ++ [w], D y.1), y.2)) (aFin (3, d, su τ 10 v, p, c ++ x.1, b, lp) r3) (fun _ => True) (fun x τ => tWOne d τ p (c ++ x.1) b lp) := by
        intro v w D hv hw
        cases r3 with
        | nil => exact Lk.non (aFin_e (by decide) (by decide) (by decide) _)
        | cons t2 r4 =>
          simp only [List.length_cons] at hl
          refine (sum_auto (b := b) (ch := t2) (r := r4) (k := k) (by omega) hd (su τ 10 v) p (c ++ x.1) lp (fun q => by simp [su] at q; omega)).bind (fun y2 τ2 hy2 hτ2 => ?_)
          have hv2 : τ2 10 = v := by rw [hτ2.1]; simp [su]
          obtain ⟨-, k1, k2⟩ := pZ_len hy2
          refine Lk.ret τ2 trivial ?_
          rw [fin_7 (by omega) _ k1 k2, hw τ2 hv2]
          simp only [List.append_assoc]
      by_cases h60 : t = 60
      · simp only [if_pos h60]
        exact hsec 1 (19, 0) (fun y n e => decide (x.2 n e < y.2 n e)) (by decide) (fun τ h => relO_1 h)
      · simp only [if_neg h60]
        by_cases h61 : t = 61
        · simp only [if_pos h61]
          exact hsec 2 (20, 0) (fun y n e => decide (x.2 n e = y.2 n e)) (by decide) (fun τ h => relO_2 h)
        · simp only [if_neg h61]
          exact Lk.non (aFin_10 _ _)
  unfold pC
  split
  · rename_i hn
    exact hsums (fun y hy => by rw [hn] at hy; cases hy)
  · rename_i v r' hn
    by_cases hc : coln r' = true
    · rw [if_pos hc]
      -- the number, then the colon
      have hg : isDg ch = true := by
        obtain ⟨-, -, h1, -⟩ := pN_some hn
        rw [List.takeWhile_cons] at h1
        split at h1
        · assumption
        · simp at h1
      have hc45 : ch ≠ 45 := fun q => by subst q; cases hg
      obtain ⟨hr', hvv, hl1, hl3⟩ := pN_some hn
      have htw : (ch :: r).takeWhile isDg = ch :: r.takeWhile isDg := by rw [List.takeWhile_cons, if_pos hg]
      have hdw : (ch :: r).dropWhile isDg = r.dropWhile isDg := by rw [List.dropWhile_cons, if_pos hg]
      simp only at hr' hvv
      rw [hdw] at hr'
      rw [htw] at hvv hl3
      simp only [List.length_cons] at hl3
      have hdg := digs (d := d) (p := p) (c := c) (b := b) (lp := lp) (r.dropWhile isDg) (r.takeWhile isDg) (su (su (su (tSumS ch σ) 5 0) 3 (ch - 48)) 4 1) (fun x hx => mem_tw r x hx) (by simp [su]) (by simp [su])
      rw [tw_dw isDg r] at hdg
      have e4 : su (su (su (tSumS ch σ) 5 0) 3 (ch - 48)) 4 1 4 = 1 := by simp [su]
      have e3 : su (su (su (tSumS ch σ) 5 0) 3 (ch - 48)) 4 1 3 = ch - 48 := by simp [su]
      rw [e4, e3] at hdg
      obtain ⟨τ, t3, tj, ht⟩ := hdg.2 (by omega)
      have hv3 : τ 3 = v := by
        rw [t3, hvv]
        unfold dgv
        rw [List.foldl_cons]
        simp
      have h9 : τ 9 = 1 := by rw [tj 9 (by decide) (by decide)]; simp [su, tSumS, h10, hc45]
      have hst0 : aFin (tSum ch d σ p c b lp) r = aFin (5, d, τ, p, c, b, lp) r' := by
        unfold tSum
        rw [if_neg hc45]
        unfold tPart
        rw [if_pos hg, ht, hr']
      rw [hst0]
      have hlen : r'.length ≤ r.length := by
        have h3 := congrArg List.length (tw_dw isDg r)
        rw [List.length_append] at h3
        rw [hr']
        omega
      cases r' with
      | nil => cases hc
      | cons x r2 =>
        have hx : x = 58 := by simpa [coln] using hc
        subst hx
        simp only [List.length_cons] at hlen
        have hst : aFin (5, d, τ, p, c, b, lp) (58 :: r2) = aFin ((if 0 < v then 3 else 10), d, su (su τ 10 3) 11 v, p, c, b, lp) r2 := by
          show aFin (tAfterNumber 58 d τ p c b lp) r2 = _
          unfold tAfterNumber
          rw [if_neg (by decide), if_neg (by decide), if_pos ⟨rfl, h9⟩, hv3]
        rw [hst]
        show Lk (pD k d b v r2) _ _ _
        unfold pD
        by_cases hv0 : v = 0
        · rw [if_pos hv0, if_neg (by omega)]
          exact Lk.non (aFin_10 _ _)
        · rw [if_neg hv0, if_pos (by omega)]
          cases r2 with
          | nil => exact Lk.non (aFin_e (by decide) (by decide) (by decide) _)
          | cons t2 r4 =>
            simp only [List.length_cons] at hlen
            refine (sum_auto (b := b) (ch := t2) (r := r4) (k := k) (by omega) hd (su (su τ 10 3) 11 v) p c lp (fun q => by simp [su] at q)).bind (fun y2 τ2 hy2 hτ2 => ?_)
            have hv2 : τ2 10 = 3 := by rw [hτ2.1]; simp [su]
            have hv4 : τ2 11 = v := by rw [hτ2.2]; simp [su]
            obtain ⟨-, k1, k2⟩ := pZ_len hy2
            refine Lk.ret τ2 trivial ?_
            rw [fin_7 (by omega) _ k1 k2, relO_3 hv2, hv4]
            simp only [List.append_assoc]
    · rw [if_neg hc]
      exact hsums (fun y hy => by rw [hn] at hy; cases hy; simpa using hc)
theorem sets_auto {k d : Nat} {b : Bd} {r : List Nat} (hk : 3 * r.length + 3 ≤ k) (hd : d ≤ 12) (σ : Nat → Nat) (h10 : σ 10 = 0) (p : Pl) (c : Od) (lp : List (Bool × Bool)) :
    Lk (pB k d b r) (aFin (8, d, σ, (6, 0, none) :: p, c, b, lp) r) (fun _ => True) (fun x τ => tWOne d τ p (c ++ x.1) b lp) := by
  unfold pB
  refine ((pS_auto k).2.2.1 sv0 d b r hk σ ((6, 0, none) :: p) c lp hd (tpn (by decide)) (tpn (by decide)) (tpn (by decide)) (tpn (by decide))).bind (fun y τ hy hτ => ?_)
  subst hτ
  have hl := (pS_len _ _ _ _ _ _ _ hy).2.1 (by decide)
  have hh := (pS_len _ _ _ _ _ _ _ hy).2.2.2 (Or.inl rfl)
  obtain ⟨x, r2⟩ := y
  unfold pQ
  cases r2 with
  | nil => exact Lk.non (aFin_e (by decide) (by decide) (by decide) _)
  | cons t r3 =>
    have ht1 : t ≠ 42 := hh.1
    have ht2 : t ≠ 43 := hh.2
    simp only [List.length_cons] at hl
    have hst : aFin (9, d, τ, (6, 0, none) :: p, c ++ x.1, b, lp) (t :: r3) = aFin (if t = 60 then (8, d, su τ 10 1, (6, 0, none) :: p, c ++ x.1, b, lp) else if t = 61 then (8, d, su τ 10 2, (6, 0, none) :: p, c ++ x.1, b, lp) else (10, d, τ, (6, 0, none) :: p, c ++ x.1, b, lp)) r3 := by
      show aFin (tAfterSingle t d τ ((6, 0, none) :: p) (c ++ x.1) b lp) r3 = _
      unfold tAfterSingle
      have h6a : ¬ (t = 41 ∧ topP ((6, 0, none) :: p) = 10) := fun q => absurd q.2 (tpn (by decide))
      have h6b : topP ((6, 0, none) :: p) = 6 := rfl
      rw [if_neg ht1, if_neg ht2, setL_id (tpn (by decide)) (tpn (by decide))]
      dsimp only
      rw [if_neg h6a, if_pos h6b, if_pos h10]
    rw [hst]
    have hsec : ∀ (v w : Nat) (D : (Od × Dn) → DF), v ≠ 0 → (if v = 1 then 22 else 20) = w → Lk ((pS k 2 sv0 d b r3).bind fun y => cx 93 (((x.1 ++ y.1.1 ++ [(w, 0)], D y.1) : Od × DF), y.2)) (aFin (8, d, su τ 10 v, (6, 0, none) :: p, c ++ x.1, b, lp) r3) (fun _ => True) (fun x τ => tWOne d τ p (c ++ x.1) b lp) := by
      intro v w D hv hw
      refine ((pS_auto k).2.2.1 sv0 d b r3 (by omega) (su τ 10 v) ((6, 0, none) :: p) (c ++ x.1) lp hd (tpn (by decide)) (tpn (by decide)) (tpn (by decide)) (tpn (by decide))).bind (fun y2 τ2 hy2 hτ2 => ?_)
      subst hτ2
      have hh2 := (pS_len _ _ _ _ _ _ _ hy2).2.2.2 (Or.inl rfl)
      obtain ⟨x2, r4⟩ := y2
      cases r4 with
      | nil => exact Lk.non (aFin_e (by decide) (by decide) (by decide) _)
      | cons t2 r5 =>
        have hu1 : t2 ≠ 42 := hh2.1
        have hu2 : t2 ≠ 43 := hh2.2
        have e10 : su τ 10 v 10 = v := by simp [su]
        show Lk (if t2 = 93 then some (((x.1 ++ x2.1 ++ [(w, 0)], D x2) : Od × DF), r5) else none) (aFin (tAfterSingle t2 d (su τ 10 v) ((6, 0, none) :: p) (c ++ x.1 ++ x2.1) b lp) r5) _ _
        unfold tAfterSingle
        have h6a : ¬ (t2 = 41 ∧ topP ((6, 0, none) :: p) = 10) := fun q => absurd q.2 (tpn (by decide))
        have h6b : topP ((6, 0, none) :: p) = 6 := rfl
        rw [if_neg hu1, if_neg hu2, setL_id (tpn (by decide)) (tpn (by decide))]
        dsimp only
        rw [if_neg h6a, if_pos h6b, e10, if_neg hv, hw]
        by_cases h93 : t2 = 93
        · rw [if_pos h93, if_pos h93]
          refine Lk.ret (su τ 10 v) trivial ?_
          show aFin (tWOne d (su τ 10 v) p (c ++ x.1 ++ x2.1 ++ [(w, 0)]) b lp) r5 = _
          simp only [List.append_assoc]
        · rw [if_neg h93, if_neg h93]
          exact Lk.non (aFin_10 _ _)
    by_cases h60 : t = 60
    · simp only [if_pos h60]
      exact hsec 1 22 (fun y n e => decide (x.2 n e &&& hnot (y.2 n e) = 0)) (by decide) rfl
    · simp only [if_neg h60]
      by_cases h61 : t = 61
      · simp only [if_pos h61]
        exact hsec 2 20 (fun y n e => decide (x.2 n e = y.2 n e)) (by decide) rfl
      · simp only [if_neg h61]
        exact Lk.non (aFin_10 _ _)
