/-! formulas: the reader and the grammar -/
theorem pR_len {k d : Nat} {b : Bd} {x : Od × Dn} {ts : List Nat} {y : (Od × DF) × List Nat} (h : pR k d b x ts = some y) : y.2.length < ts.length := by
  unfold pR at h
  split at h
  · cases h
  · split at h
    · obtain ⟨z, g1, g2⟩ := Option.bind_eq_some_iff.mp h
      have := (pZ_len g1).1
      cases g2
      simp only [List.length_cons]
      omega
    · split at h
      · obtain ⟨z, g1, g2⟩ := Option.bind_eq_some_iff.mp h
        have := (pZ_len g1).1
        cases g2
        simp only [List.length_cons]
        omega
      · cases h
theorem pC_len {k d : Nat} {b : Bd} {ts : List Nat} {y : (Od × DF) × List Nat} (h : pC k d b ts = some y) : y.2.length < ts.length := by
  unfold pC at h
  split at h
  · obtain ⟨z, g1, g2⟩ := Option.bind_eq_some_iff.mp h
    have h1 := (pZ_len g1).1
    have h2 := pR_len g2
    omega
  · rename_i v r hv
    split at h
    · unfold pD at h
      split at h
      · cases h
      · obtain ⟨z, g1, g2⟩ := Option.bind_eq_some_iff.mp h
        have h1 := (pZ_len g1).1
        have h2 := pN_len hv
        have h3 : r.tail.length ≤ r.length := by rw [List.length_tail]; omega
        cases g2
        simp only at h2 ⊢
        omega
    · obtain ⟨z, g1, g2⟩ := Option.bind_eq_some_iff.mp h
      have h1 := (pZ_len g1).1
      have h2 := pR_len g2
      omega
theorem pB_len {k d : Nat} {b : Bd} {ts : List Nat} {y : (Od × DF) × List Nat} (h : pB k d b ts = some y) : y.2.length < ts.length := by
  unfold pB at h
  obtain ⟨z, g1, g2⟩ := Option.bind_eq_some_iff.mp h
  have h1 := (pS_len _ _ _ _ _ _ _ g1).1
  unfold pQ at g2
  split at g2
  · cases g2
  · rename_i c r hz
    rw [hz] at h1
    simp only [List.length_cons] at h1
    split at g2
    · obtain ⟨z2, g3, g4⟩ := Option.bind_eq_some_iff.mp g2
      have h2 := (pS_len _ _ _ _ _ _ _ g3).1
      have h3 := cx_len g4
      simp only at h3
      omega
    · split at g2
      · obtain ⟨z2, g3, g4⟩ := Option.bind_eq_some_iff.mp g2
        have h2 := (pS_len _ _ _ _ _ _ _ g3).1
        have h3 := cx_len g4
        simp only at h3
        omega
      · cases g2
theorem pF_len : ∀ (k w : Nat) (acc : FvT) (d : Nat) (b : Bd) (ts : List Nat) (y : FvT × List Nat), pF k w acc d b ts = some y → y.2.length ≤ ts.length ∧ (w < 3 → y.2.length < ts.length) ∧ ((w = 1 ∨ w = 3) → y.2.headD 0 ≠ 38) ∧ ((w = 2 ∨ (3 < w ∧ ts.headD 0 ≠ 38)) → y.2.headD 0 ≠ 38 ∧ y.2.headD 0 ≠ 124) := by
  intro k
  induction k with
  | zero => intro w acc d b ts y h; cases h
  | succ k ih =>
    intro w acc d b ts y h
    unfold pF at h
    split at h
    · subst w
      have hg : y.2.length < ts.length := by
        split at h
        · cases ts with
          | nil => cases h
          | cons c r =>
            simp only at h
            split at h
            · obtain ⟨z, h1, h2⟩ := Option.bind_eq_some_iff.mp h
              have h3 := (ih _ _ _ _ _ _ h1).1
              cases h2
              simp only [List.length_cons]
              omega
            · split at h
              · split at h
                · split at h
                  · cases h
                  · obtain ⟨i, g1, g2⟩ := Option.bind_eq_some_iff.mp h
                    obtain ⟨z, h1, h2⟩ := Option.bind_eq_some_iff.mp g2
                    have h3 := (ih _ _ _ _ _ _ h1).1
                    cases h2
                    simp only [List.length_cons]
                    omega
                · cases h
              · split at h
                · obtain ⟨z, h1, h2⟩ := Option.bind_eq_some_iff.mp h
                  have h3 := (ih _ _ _ _ _ _ h1).1
                  have h4 := cx_len h2
                  simp only at h4
                  simp only [List.length_cons]
                  omega
                · split at h
                  · obtain ⟨z, h1, h2⟩ := Option.bind_eq_some_iff.mp h
                    have h3 := pB_len h1
                    cases h2
                    simp only [List.length_cons]
                    show z.2.length < _
                    omega
                  · obtain ⟨z, h1, h2⟩ := Option.bind_eq_some_iff.mp h
                    have h3 := pC_len h1
                    cases h2
                    exact h3
        · cases h
      exact ⟨Nat.le_of_lt hg, fun _ => hg, by omega, by omega⟩
    · split at h
      · subst w
        obtain ⟨z, h1, h2⟩ := Option.bind_eq_some_iff.mp h
        obtain ⟨a1, a2, a3, a4⟩ := ih _ _ _ _ _ _ h1
        obtain ⟨b1, b2, b3, b4⟩ := ih _ _ _ _ _ _ h2
        have := a2 (by omega)
        exact ⟨by omega, fun _ => by omega, fun _ => b3 (by omega), by omega⟩
      · split at h
        · subst w
          obtain ⟨z, h1, h2⟩ := Option.bind_eq_some_iff.mp h
          obtain ⟨a1, a2, a3, a4⟩ := ih _ _ _ _ _ _ h1
          obtain ⟨b1, b2, b3, b4⟩ := ih _ _ _ _ _ _ h2
          have := a2 (by omega)
          exact ⟨by omega, fun _ => by omega, by omega, fun _ => b4 (Or.inr ⟨by omega, a3 (by omega)⟩)⟩
        · split at h
          · subst w
            cases ts with
            | nil => cases h; exact ⟨Nat.le_refl _, by omega, fun _ => nh (by decide), by omega⟩
            | cons c r =>
              simp only at h
              split at h
              · obtain ⟨z, h1, h2⟩ := Option.bind_eq_some_iff.mp h
                obtain ⟨a1, a2, a3, a4⟩ := ih _ _ _ _ _ _ h1
                obtain ⟨b1, b2, b3, b4⟩ := ih _ _ _ _ _ _ h2
                exact ⟨by simp only [List.length_cons]; omega, by omega, fun _ => b3 (by omega), by omega⟩
              · cases h
                exact ⟨Nat.le_refl _, by omega, fun _ => by assumption, by omega⟩
          · have hw : 3 < w := by omega
            cases ts with
            | nil => cases h; exact ⟨Nat.le_refl _, by omega, by omega, fun _ => ⟨nh (by decide), nh (by decide)⟩⟩
            | cons c r =>
              simp only at h
              split at h
              · obtain ⟨z, h1, h2⟩ := Option.bind_eq_some_iff.mp h
                obtain ⟨a1, a2, a3, a4⟩ := ih _ _ _ _ _ _ h1
                obtain ⟨b1, b2, b3, b4⟩ := ih _ _ _ _ _ _ h2
                exact ⟨by simp only [List.length_cons]; omega, by omega, by omega, fun _ => b4 (Or.inr ⟨by omega, a3 (by omega)⟩)⟩
              · cases h
                exact ⟨Nat.le_refl _, by omega, by omega, fun h9 => ⟨by rcases h9 with h9 | h9; omega; exact h9.2, by assumption⟩⟩
theorem pF_deep : ∀ (w : Nat), w < 3 → ∀ (k : Nat) (acc : FvT) (d : Nat) (b : Bd) (ts : List Nat), 12 < d → pF k w acc d b ts = none := by
  have h0 : ∀ (k : Nat) (acc : FvT) (d : Nat) (b : Bd) (ts : List Nat), 12 < d → pF k 0 acc d b ts = none := by
    intro k acc d b ts hd
    cases k with
    | zero => rfl
    | succ k => unfold pF; rw [if_pos rfl, if_neg (by omega)]
  have h1 : ∀ (k : Nat) (acc : FvT) (d : Nat) (b : Bd) (ts : List Nat), 12 < d → pF k 1 acc d b ts = none := by
    intro k acc d b ts hd
    cases k with
    | zero => rfl
    | succ k => unfold pF; rw [if_neg (by decide), if_pos rfl, h0 _ _ _ _ _ hd]; rfl
  intro w hw k acc d b ts hd
  have hw3 : w = 0 ∨ w = 1 ∨ w = 2 := by omega
  rcases hw3 with rfl | rfl | rfl
  · exact h0 _ _ _ _ _ hd
  · exact h1 _ _ _ _ _ hd
  · cases k with
    | zero => rfl
    | succ k => unfold pF; rw [if_neg (by decide), if_neg (by decide), if_pos rfl, h1 _ _ _ _ _ hd]; rfl
def FA0 (k : Nat) : Prop := ∀ (acc : FvT) (d : Nat) (b : Bd) (ts : List Nat), 3 * ts.length + 2 ≤ k → ∀ (σ : Nat → Nat) (p : Pl) (c : Od), d ≤ 12 → Lk (pF k 0 acc d b ts) (aFin (0, d, σ, p, c, b, acc.2) ts) (fun _ => True) (fun x τ => tWOne d τ p (c ++ x.1.1) b x.2)
def FA1 (k : Nat) : Prop := ∀ (acc : FvT) (d : Nat) (b : Bd) (ts : List Nat), 3 * ts.length + 3 ≤ k → ∀ (σ : Nat → Nat) (p : Pl) (c : Od), d ≤ 12 → topP p ≠ 2 → topP p ≠ 3 → topP p ≠ 5 → Lk (pF k 1 acc d b ts) (aFin (0, d, σ, p, c, b, acc.2) ts) (fun _ => True) (fun x τ => (1, d, τ, p, c ++ x.1.1, b, x.2))
def FA2 (k : Nat) : Prop := ∀ (acc : FvT) (d : Nat) (b : Bd) (ts : List Nat), 3 * ts.length + 4 ≤ k → ∀ (σ : Nat → Nat) (p : Pl) (c : Od), d ≤ 12 → topP p ≠ 1 → topP p ≠ 2 → topP p ≠ 3 → topP p ≠ 5 → Lk (pF k 2 acc d b ts) (aFin (0, d, σ, p, c, b, acc.2) ts) (fun _ => True) (fun x τ => (1, d, τ, p, c ++ x.1.1, b, x.2))
def FA3 (k : Nat) : Prop := ∀ (acc : FvT) (d : Nat) (b : Bd) (ts : List Nat), 3 * ts.length + 2 ≤ k → ∀ (σ : Nat → Nat) (p : Pl) (c : Od), d ≤ 12 → topP p ≠ 2 → topP p ≠ 3 → topP p ≠ 5 → Lk (pF k 3 acc d b ts) (aFin (1, d, σ, p, c ++ acc.1.1, b, acc.2) ts) (fun _ => True) (fun x τ => (1, d, τ, p, c ++ x.1.1, b, x.2))
def FA4 (k : Nat) : Prop := ∀ (acc : FvT) (d : Nat) (b : Bd) (ts : List Nat), 3 * ts.length + 2 ≤ k → ∀ (σ : Nat → Nat) (p : Pl) (c : Od), d ≤ 12 → topP p ≠ 1 → topP p ≠ 2 → topP p ≠ 3 → topP p ≠ 5 → Lk (pF k 4 acc d b ts) (aFin (1, d, σ, p, c ++ acc.1.1, b, acc.2) ts) (fun _ => True) (fun x τ => (1, d, τ, p, c ++ x.1.1, b, x.2))
theorem pF_auto : ∀ k, FA0 k ∧ FA1 k ∧ FA2 k ∧ FA3 k ∧ FA4 k := by
  intro k
  induction k with
  | zero => exact ⟨fun _ _ _ _ h => by omega, fun _ _ _ _ h => by omega, fun _ _ _ _ h => by omega, fun _ _ _ _ h => by omega, fun _ _ _ _ h => by omega⟩
  | succ k ih =>
    obtain ⟨i0, i1, i2, i3, i4⟩ := ih
    refine ⟨?_, ?_, ?_, ?_, ?_⟩
    · intro acc d b ts hk σ p c hd
      unfold pF
      rw [if_pos rfl, if_pos hd]
      cases ts with
      | nil => exact Lk.non (aFin_e (by decide) (by decide) (by decide) _)
      | cons ch r =>
        simp only [List.length_cons] at hk
        show Lk (if ch = 33 then _ else _) (aFin (tOne ch d σ p c b acc.2) r) _ _
        unfold tOne
        by_cases h33 : ch = 33
        · rw [if_pos h33, if_pos h33]
          unfold tDeep
          by_cases h12 : 12 ≤ d
          · rw [if_pos h12, pF_deep 0 (by decide) _ _ _ _ _ (by omega)]
            exact Lk.non (aFin_10 _ _)
          · rw [if_neg h12]
            refine (i0 acc (d + 1) b r (by omega) σ ((3, 0, none) :: p) c (by omega)).bind (fun y τ hy _ => ?_)
            refine Lk.ret τ trivial ?_
            show aFin (tWOne (d + 1) τ ((3, 0, none) :: p) (c ++ y.1.1.1) b y.1.2) y.2 = aFin (tWOne d τ p (c ++ (y.1.1.1 ++ [(3, 0)])) b y.1.2) y.2
            rw [← List.append_assoc]
            rfl
        · rw [if_neg h33, if_neg h33]
          by_cases hq : ch = 65 ∨ ch = 69
          · have h40 : ¬ ch = 40 := by omega
            rw [if_pos hq, if_neg h40, if_pos hq]
            by_cases h4 : acc.2.length < 4
            · rw [if_pos h4]
              by_cases h12 : d < 12
              · rw [if_pos ⟨h4, h12⟩]
                cases r with
                | nil => exact Lk.non (aFin_e (by decide) (by decide) (by decide) _)
                | cons v r2 =>
                  simp only [List.length_cons] at hk
                  show Lk ((varO v).bind _) (aFin (tBound v d (su σ 2 (if ch = 65 then 1 else 0)) p c b acc.2) r2) _ _
                  unfold tBound
                  cases hv : varO v with
                  | none => exact Lk.non (aFin_10 _ _)
                  | some i =>
                    have hu : decide (su σ 2 (if ch = 65 then 1 else 0) 2 = 1) = decide (ch = 65) := by
                      by_cases hc : ch = 65 <;> simp [su, hc]
                    simp only [hu]
                    refine (i0 (acc.1, acc.2 ++ [(decide (ch = 65), decide (3 ≤ i))]) (d + 1) (fun j => if j = i then some acc.2.length else b j) r2 (by omega) (su σ 2 (if ch = 65 then 1 else 0)) ((5, i, b i) :: p) (c ++ [(12, acc.2.length)]) (by omega)).bind (fun y τ hy _ => ?_)
                    refine Lk.ret τ trivial ?_
                    have hb : (fun j => if j = i then b i else if j = i then some acc.2.length else b j) = b := by
                      funext j
                      by_cases hj : j = i
                      · rw [if_pos hj, hj]
                      · rw [if_neg hj, if_neg hj]
                    have hw : wOneL ((5, i, b i) :: p) (d + 1) (c ++ [(12, acc.2.length)] ++ y.1.1.1) (fun j => if j = i then some acc.2.length else b j) = wOneL p d (c ++ ((12, acc.2.length) :: y.1.1.1 ++ [(5, acc.2.length)])) b := by
                      show wOneL p d (c ++ [(12, acc.2.length)] ++ y.1.1.1 ++ [(5, ((if i = i then some acc.2.length else b i)).getD 0)]) (fun j => if j = i then b i else if j = i then some acc.2.length else b j) = _
                      rw [hb, if_pos rfl]
                      simp only [List.append_assoc, List.cons_append, List.nil_append]
                      rfl
                    unfold tWOne
                    rw [hw]
              · rw [if_neg (fun q => h12 q.2)]
                cases r with
                | nil => exact Lk.non (aFin_10 _ _)
                | cons v r2 =>
                  show Lk ((varO v).bind _) _ _ _
                  cases hv : varO v with
                  | none => exact Lk.non (aFin_10 _ _)
                  | some i =>
                    rw [Option.bind_some, pF_deep 0 (by decide) _ _ _ _ _ (by omega)]
                    exact Lk.non (aFin_10 _ _)
            · rw [if_neg h4, if_neg (fun q => h4 q.1)]
              exact Lk.non (aFin_10 _ _)
          · rw [if_neg hq]
            by_cases h40 : ch = 40
            · rw [if_pos h40, if_pos h40]
              unfold tDeep
              by_cases h12 : 12 ≤ d
              · rw [if_pos h12, pF_deep 2 (by decide) _ _ _ _ _ (by omega)]
                exact Lk.non (aFin_10 _ _)
              · rw [if_neg h12]
                refine (i2 acc (d + 1) b r (by omega) σ ((4, 0, none) :: p) c (by omega) (tpn (by decide)) (tpn (by decide)) (tpn (by decide)) (tpn (by decide))).bind (fun y τ hy _ => ?_)
                have hh := (pF_len _ _ _ _ _ _ _ hy).2.2.2 (Or.inl rfl)
                obtain ⟨x, r2⟩ := y
                cases r2 with
                | nil =>
                  exact Lk.non rfl
                | cons t r3 =>
                  have ht1 : t ≠ 38 := hh.1
                  have ht2 : t ≠ 124 := hh.2
                  show Lk (if t = 41 then some (((x.1.1, x.1.2.1, none), x.2), r3) else none) (aFin (tAfterOne t (d + 1) τ ((4, 0, none) :: p) (c ++ x.1.1) b x.2) r3) _ _
                  unfold tAfterOne
                  rw [if_neg ht1, if_neg ht2, setL_id (tpn (by decide)) (tpn (by decide))]
                  by_cases h41 : t = 41
                  · rw [if_pos h41, if_pos ⟨h41, rfl⟩]
                    exact Lk.ret τ trivial rfl
                  · rw [if_neg h41, if_neg (fun q => h41 q.1)]
                    exact Lk.non (aFin_10 _ _)
            · rw [if_neg h40, if_neg h40, if_neg hq]
              by_cases h91 : ch = 91
              · rw [if_pos h91, if_pos h91]
                refine (sets_auto (by omega) hd (su σ 10 0) (by simp [su]) p c acc.2).bind (fun y τ hy _ => ?_)
                exact Lk.ret τ trivial rfl
              · rw [if_neg h91, if_neg h91]
                refine (comp_auto (by omega) hd (su σ 10 0) (by simp [su]) p c acc.2).bind (fun y τ hy _ => ?_)
                exact Lk.ret τ trivial rfl
    · intro acc d b ts hk σ p c hd h2 h3 h5
      unfold pF
      rw [if_neg (by decide), if_pos rfl]
      refine (i0 acc d b ts (by omega) σ p c hd).bind (fun y τ hy _ => ?_)
      rw [tWOne_id h3 h5]
      have hl := (pF_len _ _ _ _ _ _ _ hy).2.1 (by decide)
      exact i3 y.1 d b y.2 (by omega) τ p c hd h2 h3 h5
    · intro acc d b ts hk σ p c hd h1 h2 h3 h5
      unfold pF
      rw [if_neg (by decide), if_neg (by decide), if_pos rfl]
      refine (i1 acc d b ts (by omega) σ p c hd h2 h3 h5).bind (fun y τ hy _ => ?_)
      have hl := (pF_len _ _ _ _ _ _ _ hy).2.1 (by decide)
      exact i4 y.1 d b y.2 (by omega) τ p c hd h1 h2 h3 h5
    · intro acc d b ts hk σ p c hd h2 h3 h5
      unfold pF
      rw [if_neg (by decide), if_neg (by decide), if_neg (by decide), if_pos rfl]
      cases ts with
      | nil => exact Lk.ret σ trivial rfl
      | cons ch r =>
        simp only [List.length_cons] at hk
        simp only
        by_cases h38 : ch = 38
        · rw [if_pos h38]
          have hst : aFin (1, d, σ, p, c ++ acc.1.1, b, acc.2) (ch :: r) = aFin (0, d, σ, (2, 0, none) :: p, c ++ acc.1.1, b, acc.2) r := by
            show aFin (tAfterOne ch d σ p (c ++ acc.1.1) b acc.2) r = _
            unfold tAfterOne
            rw [if_pos h38, setL_id h2 h2]
          rw [hst]
          refine (i0 acc d b r (by omega) σ ((2, 0, none) :: p) (c ++ acc.1.1) hd).bind (fun y τ hy _ => ?_)
          rw [tWOne_id (tpn (by decide)) (tpn (by decide)), fin_s2]
          have hl := (pF_len _ _ _ _ _ _ _ hy).1
          have h9' := i3 ((acc.1.1 ++ y.1.1.1 ++ [(2, 0)], fun n e => acc.1.2.1 n e && y.1.1.2.1 n e, none), y.1.2) d b y.2 (by omega) τ p c hd h2 h3 h5
          simpa only [List.append_assoc] using h9'
        · rw [if_neg h38]
          exact Lk.ret σ trivial rfl
    · intro acc d b ts hk σ p c hd h1 h2 h3 h5
      unfold pF
      rw [if_neg (by decide), if_neg (by decide), if_neg (by decide), if_neg (by decide)]
      cases ts with
      | nil => exact Lk.ret σ trivial rfl
      | cons ch r =>
        simp only [List.length_cons] at hk
        simp only
        by_cases h124 : ch = 124
        · rw [if_pos h124]
          have hst : aFin (1, d, σ, p, c ++ acc.1.1, b, acc.2) (ch :: r) = aFin (0, d, σ, (1, 0, none) :: p, c ++ acc.1.1, b, acc.2) r := by
            show aFin (tAfterOne ch d σ p (c ++ acc.1.1) b acc.2) r = _
            unfold tAfterOne
            rw [if_neg (by omega), if_pos h124, setL_id h2 h1]
          rw [hst]
          refine (i1 acc d b r (by omega) σ ((1, 0, none) :: p) (c ++ acc.1.1) hd (tpn (by decide)) (tpn (by decide)) (tpn (by decide))).bind (fun y τ hy _ => ?_)
          rw [fin_s1 _ _ _ _ _ _ _ _ ((pF_len _ _ _ _ _ _ _ hy).2.2.1 (Or.inl rfl))]
          have hl := (pF_len _ _ _ _ _ _ _ hy).1
          have h9' := i4 ((acc.1.1 ++ y.1.1.1 ++ [(1, 0)], fun n e => acc.1.2.1 n e || y.1.1.2.1 n e, none), y.1.2) d b y.2 (by omega) τ p c hd h1 h2 h3 h5
          simpa only [List.append_assoc] using h9'
        · rw [if_neg h124]
          exact Lk.ret σ trivial rfl
/-- the reader takes just the sentences, and its orders are theirs -/
theorem sent_auto {ts : List Nat} (hl : ts.length ≤ 120) (σ : Nat → Nat) : aFin (aS0 σ) ts = (sent ts).map (fun y => (y.1.1, y.2)) := by
  have h := (pF_auto fuT).2.2.1 fv0 0 (fun _ => none) ts (by unfold fuT; omega) σ [] [] (by decide) (by decide) (by decide) (by decide) (by decide)
  unfold sent
  cases hp : pF fuT 2 fv0 0 (fun _ => none) ts with
  | none => exact h.1 hp
  | some y =>
    obtain ⟨τ, -, e⟩ := h.2 y hp
    have hh := (pF_len _ _ _ _ _ _ _ hp).2.2.2 (Or.inl rfl)
    show aFin (0, 0, σ, [], [], fun _ => none, []) ts = _
    rw [show aFin (0, 0, σ, [], [], fun _ => none, []) ts = _ from e, Option.bind_some]
    obtain ⟨x, r⟩ := y
    cases r with
    | nil => rfl
    | cons t r2 =>
      have ht1 : t ≠ 38 := hh.1
      have ht2 : t ≠ 124 := hh.2
      rw [if_neg (by simp)]
      show aFin (tAfterOne t 0 τ [] ([] ++ x.1.1) (fun _ => none) x.2) r2 = none
      unfold tAfterOne
      rw [if_neg ht1, if_neg ht2, if_neg (fun q => absurd q.2 (show (0 : Nat) ≠ 4 by decide))]
      exact aFin_10 _ _
