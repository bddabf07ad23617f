/-! sets: the reader and the grammar -/
theorem tpn {w k : Nat} {v : Nat × Option Nat} {p : Pl} (h : w ≠ k) : topP ((w, v) :: p) ≠ k := h
theorem nh {k : Nat} (h : 0 ≠ k) : ([] : List Nat).headD 0 ≠ k := h
theorem cx_len {α : Type} {c : Nat} {y z : α × List Nat} (h : cx c y = some z) : z.2.length < y.2.length := by
  obtain ⟨-, h2⟩ := cx_some h
  rw [h2]
  exact Nat.lt_succ_self _
theorem pS_len : ∀ (k w : Nat) (acc : Od × Dn) (d : Nat) (b : Bd) (ts : List Nat) (y : (Od × Dn) × List Nat), pS k w acc d b ts = some y → y.2.length ≤ ts.length ∧ (w < 3 → y.2.length < ts.length) ∧ ((w = 1 ∨ w = 3) → y.2.headD 0 ≠ 42) ∧ ((w = 2 ∨ (3 < w ∧ ts.headD 0 ≠ 42)) → y.2.headD 0 ≠ 42 ∧ y.2.headD 0 ≠ 43) := by
  intro k
  induction k with
  | zero => intro w acc d b ts y h; cases h
  | succ k ih =>
    intro w acc d b ts y h
    unfold pS at h
    split at h
    · subst w
      have hg : y.2.length < ts.length := by
        split at h
        · cases ts with
          | nil => cases h
          | cons c r =>
            simp only at h
            split at h
            · obtain ⟨z, h1, h2⟩ := Option.bind_eq_some_iff.mp h
              have h3 := (ih _ _ _ _ _ _ h1).1
              have h4 := cx_len h2
              simp only [List.length_cons]
              omega
            · split at h
              · obtain ⟨z, h1, h2⟩ := Option.bind_eq_some_iff.mp h
                have h3 := (ih _ _ _ _ _ _ h1).1
                cases h2
                simp only [List.length_cons]
                omega
              · split at h
                · cases h; simp
                · split at h
                  · cases h; simp
                  · obtain ⟨q, h1, h2⟩ := Option.bind_eq_some_iff.mp h
                    cases h2; simp
        · cases h
      exact ⟨Nat.le_of_lt hg, fun _ => hg, by omega, by omega⟩
    · split at h
      · subst w
        obtain ⟨z, h1, h2⟩ := Option.bind_eq_some_iff.mp h
        obtain ⟨a1, a2, a3, a4⟩ := ih _ _ _ _ _ _ h1
        obtain ⟨b1, b2, b3, b4⟩ := ih _ _ _ _ _ _ h2
        have := a2 (by omega)
        exact ⟨by omega, fun _ => by omega, fun _ => b3 (by omega), by omega⟩
      · split at h
        · subst w
          obtain ⟨z, h1, h2⟩ := Option.bind_eq_some_iff.mp h
          obtain ⟨a1, a2, a3, a4⟩ := ih _ _ _ _ _ _ h1
          obtain ⟨b1, b2, b3, b4⟩ := ih _ _ _ _ _ _ h2
          have := a2 (by omega)
          exact ⟨by omega, fun _ => by omega, by omega, fun _ => b4 (Or.inr ⟨by omega, a3 (by omega)⟩)⟩
        · split at h
          · subst w
            cases ts with
            | nil => cases h; exact ⟨Nat.le_refl _, by omega, fun _ => nh (by decide), by omega⟩
            | cons c r =>
              simp only at h
              split at h
              · obtain ⟨z, h1, h2⟩ := Option.bind_eq_some_iff.mp h
                obtain ⟨a1, a2, a3, a4⟩ := ih _ _ _ _ _ _ h1
                obtain ⟨b1, b2, b3, b4⟩ := ih _ _ _ _ _ _ h2
                exact ⟨by simp only [List.length_cons]; omega, by omega, fun _ => b3 (by omega), by omega⟩
              · cases h
                exact ⟨Nat.le_refl _, by omega, fun _ => by assumption, by omega⟩
          · have hw : 3 < w := by omega
            cases ts with
            | nil => cases h; exact ⟨Nat.le_refl _, by omega, by omega, fun _ => ⟨nh (by decide), nh (by decide)⟩⟩
            | cons c r =>
              simp only at h
              split at h
              · obtain ⟨z, h1, h2⟩ := Option.bind_eq_some_iff.mp h
                obtain ⟨a1, a2, a3, a4⟩ := ih _ _ _ _ _ _ h1
                obtain ⟨b1, b2, b3, b4⟩ := ih _ _ _ _ _ _ h2
                exact ⟨by simp only [List.length_cons]; omega, by omega, by omega, fun _ => b4 (Or.inr ⟨by omega, a3 (by omega)⟩)⟩
              · cases h
                exact ⟨Nat.le_refl _, by omega, by omega, fun h9 => ⟨by rcases h9 with h9 | h9; omega; exact h9.2, by assumption⟩⟩
theorem pS_deep : ∀ (w : Nat), w < 3 → ∀ (k : Nat) (acc : Od × Dn) (d : Nat) (b : Bd) (ts : List Nat), 12 < d → pS k w acc d b ts = none := by
  have h0 : ∀ (k : Nat) (acc : Od × Dn) (d : Nat) (b : Bd) (ts : List Nat), 12 < d → pS k 0 acc d b ts = none := by
    intro k acc d b ts hd
    cases k with
    | zero => rfl
    | succ k => unfold pS; rw [if_pos rfl, if_neg (by omega)]
  have h1 : ∀ (k : Nat) (acc : Od × Dn) (d : Nat) (b : Bd) (ts : List Nat), 12 < d → pS k 1 acc d b ts = none := by
    intro k acc d b ts hd
    cases k with
    | zero => rfl
    | succ k => unfold pS; rw [if_neg (by decide), if_pos rfl, h0 _ _ _ _ _ hd]; rfl
  intro w hw k acc d b ts hd
  have hw3 : w = 0 ∨ w = 1 ∨ w = 2 := by omega
  rcases hw3 with rfl | rfl | rfl
  · exact h0 _ _ _ _ _ hd
  · exact h1 _ _ _ _ _ hd
  · cases k with
    | zero => rfl
    | succ k => unfold pS; rw [if_neg (by decide), if_neg (by decide), if_pos rfl, h1 _ _ _ _ _ hd]; rfl
def SA0 (k : Nat) : Prop := ∀ (acc : Od × Dn) (d : Nat) (b : Bd) (ts : List Nat), 3 * ts.length + 1 ≤ k → ∀ (σ : Nat → Nat) (p : Pl) (c : Od) (lp : List (Bool × Bool)), d ≤ 12 → Lk (pS k 0 acc d b ts) (aFin (8, d, σ, p, c, b, lp) ts) (fun τ => τ = σ) (fun x τ => tWSin d τ p (c ++ x.1) b lp)
def SA1 (k : Nat) : Prop := ∀ (acc : Od × Dn) (d : Nat) (b : Bd) (ts : List Nat), 3 * ts.length + 2 ≤ k → ∀ (σ : Nat → Nat) (p : Pl) (c : Od) (lp : List (Bool × Bool)), d ≤ 12 → topP p ≠ 8 → topP p ≠ 9 → topP p ≠ 11 → Lk (pS k 1 acc d b ts) (aFin (8, d, σ, p, c, b, lp) ts) (fun τ => τ = σ) (fun x τ => (9, d, τ, p, c ++ x.1, b, lp))
def SA2 (k : Nat) : Prop := ∀ (acc : Od × Dn) (d : Nat) (b : Bd) (ts : List Nat), 3 * ts.length + 3 ≤ k → ∀ (σ : Nat → Nat) (p : Pl) (c : Od) (lp : List (Bool × Bool)), d ≤ 12 → topP p ≠ 7 → topP p ≠ 8 → topP p ≠ 9 → topP p ≠ 11 → Lk (pS k 2 acc d b ts) (aFin (8, d, σ, p, c, b, lp) ts) (fun τ => τ = σ) (fun x τ => (9, d, τ, p, c ++ x.1, b, lp))
def SA3 (k : Nat) : Prop := ∀ (acc : Od × Dn) (d : Nat) (b : Bd) (ts : List Nat), 3 * ts.length + 1 ≤ k → ∀ (σ : Nat → Nat) (p : Pl) (c : Od) (lp : List (Bool × Bool)), d ≤ 12 → topP p ≠ 8 → topP p ≠ 9 → topP p ≠ 11 → Lk (pS k 3 acc d b ts) (aFin (9, d, σ, p, c ++ acc.1, b, lp) ts) (fun τ => τ = σ) (fun x τ => (9, d, τ, p, c ++ x.1, b, lp))
def SA4 (k : Nat) : Prop := ∀ (acc : Od × Dn) (d : Nat) (b : Bd) (ts : List Nat), 3 * ts.length + 1 ≤ k → ∀ (σ : Nat → Nat) (p : Pl) (c : Od) (lp : List (Bool × Bool)), d ≤ 12 → topP p ≠ 7 → topP p ≠ 8 → topP p ≠ 9 → topP p ≠ 11 → Lk (pS k 4 acc d b ts) (aFin (9, d, σ, p, c ++ acc.1, b, lp) ts) (fun τ => τ = σ) (fun x τ => (9, d, τ, p, c ++ x.1, b, lp))
theorem pS_auto : ∀ k, SA0 k ∧ SA1 k ∧ SA2 k ∧ SA3 k ∧ SA4 k := by
  intro k
  induction k with
  | zero => exact ⟨fun _ _ _ _ h => by omega, fun _ _ _ _ h => by omega, fun _ _ _ _ h => by omega, fun _ _ _ _ h => by omega, fun _ _ _ _ h => by omega⟩
  | succ k ih =>
    obtain ⟨i0, i1, i2, i3, i4⟩ := ih
    refine ⟨?_, ?_, ?_, ?_, ?_⟩
    · intro acc d b ts hk σ p c lp hd
      unfold pS
      rw [if_pos rfl, if_pos hd]
      cases ts with
      | nil => exact Lk.non (aFin_e (by decide) (by decide) (by decide) _)
      | cons ch r =>
        simp only [List.length_cons] at hk
        show Lk (if ch = 40 then _ else _) (aFin (tSingle ch d σ p c b lp) r) _ _
        unfold tSingle
        by_cases h40 : ch = 40
        · rw [if_pos h40, if_neg (by omega), if_pos h40]
          unfold tDeep
          by_cases h12 : 12 ≤ d
          · rw [if_pos h12, pS_deep 2 (by decide) _ _ _ _ _ (by omega)]
            exact Lk.non (aFin_10 _ _)
          · rw [if_neg h12]
            refine (i2 acc (d + 1) b r (by omega) σ ((10, 0, none) :: p) c lp (by omega) (tpn (by decide)) (tpn (by decide)) (tpn (by decide)) (tpn (by decide))).bind (fun y τ hy hτ => ?_)
            subst hτ
            have hh := (pS_len _ _ _ _ _ _ _ hy).2.2.2 (Or.inl rfl)
            obtain ⟨x, r2⟩ := y
            cases r2 with
            | nil => exact Lk.non (aFin_e (by decide) (by decide) (by decide) _)
            | cons t r3 =>
              have ht1 : t ≠ 42 := hh.1
              have ht2 : t ≠ 43 := hh.2
              show Lk (if t = 41 then some (x, r3) else none) (aFin (tAfterSingle t (d + 1) τ ((10, 0, none) :: p) (c ++ x.1) b lp) r3) _ _
              unfold tAfterSingle
              rw [if_neg ht1, if_neg ht2, setL_id (tpn (by decide)) (tpn (by decide))]
              by_cases h41 : t = 41
              · rw [if_pos h41, if_pos ⟨h41, rfl⟩]
                exact Lk.ret τ rfl rfl
              · rw [if_neg h41, if_neg (fun q => h41 q.1), if_neg (tpn (by decide))]
                exact Lk.non (aFin_10 _ _)
        · rw [if_neg h40]
          by_cases h45 : ch = 45
          · rw [if_pos h45, if_pos h45]
            unfold tDeep
            by_cases h12 : 12 ≤ d
            · rw [if_pos h12, pS_deep 0 (by decide) _ _ _ _ _ (by omega)]
              exact Lk.non (aFin_10 _ _)
            · rw [if_neg h12]
              refine (i0 acc (d + 1) b r (by omega) σ ((9, 0, none) :: p) c lp (by omega)).bind (fun y τ hy hτ => ?_)
              refine Lk.ret τ hτ ?_
              show aFin (tWSin (d + 1) τ ((9, 0, none) :: p) (c ++ y.1.1) b lp) y.2 = aFin (tWSin d τ p (c ++ (y.1.1 ++ [(9, 0)])) b lp) y.2
              rw [← List.append_assoc]
              rfl
          · rw [if_neg h45, if_neg h45, if_neg h40]
            by_cases h48 : ch = 48
            · rw [if_pos h48, if_pos h48]
              exact Lk.ret σ rfl rfl
            · rw [if_neg h48, if_neg h48]
              by_cases h49 : ch = 49
              · rw [if_pos h49, if_pos h49]
                exact Lk.ret σ rfl rfl
              · rw [if_neg h49, if_neg h49]
                cases hv : vrS b ch with
                | none => exact Lk.non (aFin_10 _ _)
                | some q => exact Lk.ret σ rfl rfl
    · intro acc d b ts hk σ p c lp hd h8 h9 h11
      unfold pS
      rw [if_neg (by decide), if_pos rfl]
      refine (i0 acc d b ts (by omega) σ p c lp hd).bind (fun y τ hy hτ => ?_)
      subst hτ
      rw [tWSin_id h9 h11]
      have hl := (pS_len _ _ _ _ _ _ _ hy).2.1 (by decide)
      exact i3 y.1 d b y.2 (by omega) τ p c lp hd h8 h9 h11
    · intro acc d b ts hk σ p c lp hd h7 h8 h9 h11
      unfold pS
      rw [if_neg (by decide), if_neg (by decide), if_pos rfl]
      refine (i1 acc d b ts (by omega) σ p c lp hd h8 h9 h11).bind (fun y τ hy hτ => ?_)
      subst hτ
      have hl := (pS_len _ _ _ _ _ _ _ hy).2.1 (by decide)
      exact i4 y.1 d b y.2 (by omega) τ p c lp hd h7 h8 h9 h11
    · intro acc d b ts hk σ p c lp hd h8 h9 h11
      unfold pS
      rw [if_neg (by decide), if_neg (by decide), if_neg (by decide), if_pos rfl]
      cases ts with
      | nil => exact Lk.ret σ rfl rfl
      | cons ch r =>
        simp only [List.length_cons] at hk
        simp only
        by_cases h42 : ch = 42
        · rw [if_pos h42]
          have hst : aFin (9, d, σ, p, c ++ acc.1, b, lp) (ch :: r) = aFin (8, d, σ, (8, 0, none) :: p, c ++ acc.1, b, lp) r := by
            show aFin (tAfterSingle ch d σ p (c ++ acc.1) b lp) r = _
            unfold tAfterSingle
            rw [if_pos h42, setL_id h8 h8]
          rw [hst]
          refine (i0 acc d b r (by omega) σ ((8, 0, none) :: p) (c ++ acc.1) lp hd).bind (fun y τ hy hτ => ?_)
          subst hτ
          rw [tWSin_id (tpn (by decide)) (tpn (by decide)), fin_s8]
          have hl := (pS_len _ _ _ _ _ _ _ hy).1
          have h9' := i3 (acc.1 ++ y.1.1 ++ [(8, 0)], fun n e => acc.2 n e &&& y.1.2 n e) d b y.2 (by omega) τ p c lp hd h8 h9 h11
          simpa only [List.append_assoc] using h9'
        · rw [if_neg h42]
          exact Lk.ret σ rfl rfl
    · intro acc d b ts hk σ p c lp hd h7 h8 h9 h11
      unfold pS
      rw [if_neg (by decide), if_neg (by decide), if_neg (by decide), if_neg (by decide)]
      cases ts with
      | nil => exact Lk.ret σ rfl rfl
      | cons ch r =>
        simp only [List.length_cons] at hk
        simp only
        by_cases h43 : ch = 43
        · rw [if_pos h43]
          have hst : aFin (9, d, σ, p, c ++ acc.1, b, lp) (ch :: r) = aFin (8, d, σ, (7, 0, none) :: p, c ++ acc.1, b, lp) r := by
            show aFin (tAfterSingle ch d σ p (c ++ acc.1) b lp) r = _
            unfold tAfterSingle
            rw [if_neg (by omega), if_pos h43, setL_id h8 h7]
          rw [hst]
          refine (i1 acc d b r (by omega) σ ((7, 0, none) :: p) (c ++ acc.1) lp hd (tpn (by decide)) (tpn (by decide)) (tpn (by decide))).bind (fun y τ hy hτ => ?_)
          subst hτ
          rw [fin_s7 _ _ _ _ _ _ _ _ ((pS_len _ _ _ _ _ _ _ hy).2.2.1 (Or.inl rfl))]
          have hl := (pS_len _ _ _ _ _ _ _ hy).1
          have h9' := i4 (acc.1 ++ y.1.1 ++ [(7, 0)], fun n e => acc.2 n e ||| y.1.2 n e) d b y.2 (by omega) τ p c lp hd h7 h8 h9 h11
          simpa only [List.append_assoc] using h9'
        · rw [if_neg h43]
          exact Lk.ret σ rfl rfl
