/-! what holds of all that is read, by what it is made of -/
def ClS (b : Bd) (P : Od → Dn → Prop) : Prop := P [(23, 0)] (fun _ _ => 0) ∧ P [(24, 0)] (fun n _ => hfull n) ∧ (∀ q c, vrS b c = some q → P [(14, q)] (fun _ e => e q)) ∧ (∀ c D, P c D → P (c ++ [(9, 0)]) (fun n e => hfull n &&& hnot (D n e))) ∧
  (∀ c1 D1 c2 D2, P c1 D1 → P c2 D2 → P (c1 ++ c2 ++ [(8, 0)]) (fun n e => D1 n e &&& D2 n e)) ∧ (∀ c1 D1 c2 D2, P c1 D1 → P c2 D2 → P (c1 ++ c2 ++ [(7, 0)]) (fun n e => D1 n e ||| D2 n e))
theorem pS_ind {b : Bd} {P : Od → Dn → Prop} (hP : ClS b P) : ∀ (k w : Nat) (acc : Od × Dn) (d : Nat) (ts : List Nat) (y : (Od × Dn) × List Nat), pS k w acc d b ts = some y → (3 ≤ w → P acc.1 acc.2) → P y.1.1 y.1.2 := by
  obtain ⟨p0, p1, pv, pn, pm, pu⟩ := hP
  intro k
  induction k with
  | zero => intro w acc d ts y h; cases h
  | succ k ih =>
    intro w acc d ts y h hacc
    unfold pS at h
    split at h
    · split at h
      · cases ts with
        | nil => cases h
        | cons c r =>
          simp only at h
          split at h
          · obtain ⟨z, h1, h2⟩ := Option.bind_eq_some_iff.mp h
            have h3 := ih _ _ _ _ _ h1 (by omega)
            unfold cx at h2
            split at h2
            · cases h2
            · split at h2
              · cases h2; exact h3
              · cases h2
          · split at h
            · obtain ⟨z, h1, h2⟩ := Option.bind_eq_some_iff.mp h
              cases h2
              exact pn _ _ (ih _ _ _ _ _ h1 (by omega))
            · split at h
              · cases h; exact p0
              · split at h
                · cases h; exact p1
                · obtain ⟨q, h1, h2⟩ := Option.bind_eq_some_iff.mp h
                  cases h2
                  exact pv _ _ h1
      · cases h
    · split at h
      · obtain ⟨z, h1, h2⟩ := Option.bind_eq_some_iff.mp h
        exact ih _ _ _ _ _ h2 (fun _ => ih _ _ _ _ _ h1 (by omega))
      · split at h
        · obtain ⟨z, h1, h2⟩ := Option.bind_eq_some_iff.mp h
          exact ih _ _ _ _ _ h2 (fun _ => ih _ _ _ _ _ h1 (by omega))
        · have hw : 3 ≤ w := by omega
          split at h
          · cases ts with
            | nil => cases h; exact hacc hw
            | cons c r =>
              simp only at h
              split at h
              · obtain ⟨z, h1, h2⟩ := Option.bind_eq_some_iff.mp h
                exact ih _ _ _ _ _ h2 (fun _ => pm _ _ _ _ (hacc hw) (ih _ _ _ _ _ h1 (by omega)))
              · cases h; exact hacc hw
          · cases ts with
            | nil => cases h; exact hacc hw
            | cons c r =>
              simp only at h
              split at h
              · obtain ⟨z, h1, h2⟩ := Option.bind_eq_some_iff.mp h
                exact ih _ _ _ _ _ h2 (fun _ => pu _ _ _ _ (hacc hw) (ih _ _ _ _ _ h1 (by omega)))
              · cases h; exact hacc hw
def ClZ (b : Bd) (P PT PZ : Od → Dn → Prop) : Prop := ClS b P ∧ PT [(15, 0)] (fun n _ => nI n) ∧ (∀ c D, P c D → PT (c ++ [(11, 0)]) (fun n e => hcount (D n e))) ∧ (∀ q c, vrN b c = some q → PT [(14, q)] (fun _ e => e q)) ∧ (∀ c D, PT c D → PZ c D) ∧ (∀ v, v ≤ 999 → PZ [(13, v)] (fun _ _ => nI v)) ∧
  (∀ v c D, v ≤ 999 → PT c D → PZ (c ++ [(16, v)]) (fun n e => nI v * D n e)) ∧ (∀ c D, PZ c D → PZ (c ++ [(17, 0)]) (fun n e => - D n e)) ∧ (∀ c1 D1 c2 D2, PZ c1 D1 → PZ c2 D2 → PZ (c1 ++ c2 ++ [(18, 0)]) (fun n e => D1 n e + D2 n e))
theorem dg_le {c : Nat} (h : isDg c = true) : 48 ≤ c ∧ c ≤ 57 := by
  simpa [isDg] using h
theorem dgv_le : ∀ (ds : List Nat) (v : Nat), (∀ c ∈ ds, isDg c = true) → ds.foldl (fun v c => 10 * v + (c - 48)) v ≤ 10 ^ ds.length * v + (10 ^ ds.length - 1)
  | [], v, _ => by simp
  | c :: ds, v, h => by
    have h1 := dgv_le ds (10 * v + (c - 48)) (fun x hx => h x (List.mem_cons_of_mem _ hx))
    have h2 := dg_le (h c List.mem_cons_self)
    rw [List.foldl_cons, List.length_cons, Nat.pow_succ]
    refine Nat.le_trans h1 ?_
    have h3 : 10 ^ ds.length * (10 * v + (c - 48)) ≤ 10 ^ ds.length * (10 * v + 9) := Nat.mul_le_mul_left _ (by omega)
    have h4 : 10 ^ ds.length * (10 * v + 9) = 10 ^ ds.length * 10 * v + 10 ^ ds.length * 9 := by rw [Nat.mul_add, Nat.mul_assoc]
    have h5 : 0 < 10 ^ ds.length := Nat.pow_pos (by decide)
    omega
theorem mem_tw {α : Type} {p : α → Bool} : ∀ (l : List α) (c : α), c ∈ l.takeWhile p → p c = true
  | [], c, h => by simp at h
  | a :: l, c, h => by
    rw [List.takeWhile_cons] at h
    split at h
    · rcases List.mem_cons.mp h with rfl | h
      · assumption
      · exact mem_tw l c h
    · cases h
theorem pN_le {ts : List Nat} {y : Nat × List Nat} (h : pN ts = some y) : y.1 ≤ 999 := by
  unfold pN at h
  split at h
  · cases h
    have h1 := dgv_le (ts.takeWhile isDg) 0 (fun c hc => mem_tw ts c hc)
    have h2 : 10 ^ (ts.takeWhile isDg).length ≤ 10 ^ 3 := Nat.pow_le_pow_right (by decide) (by omega)
    show dgv _ ≤ 999
    unfold dgv
    omega
  · cases h
theorem pT_ind {b : Bd} {P PT PZ : Od → Dn → Prop} (hP : ClZ b P PT PZ) {k d : Nat} {ts : List Nat} {y : (Od × Dn) × List Nat} (h : pT k d b ts = some y) : PT y.1.1 y.1.2 := by
  obtain ⟨hS, h1, h2, h3, -⟩ := hP
  unfold pT at h
  cases ts with
  | nil => cases h
  | cons c r =>
    simp only at h
    split at h
    · cases h; exact h1
    · split at h
      · obtain ⟨z, g1, g2⟩ := Option.bind_eq_some_iff.mp h
        cases g2
        exact h2 _ _ (pS_ind hS _ _ _ _ _ _ g1 (by omega))
      · obtain ⟨q, g1, g2⟩ := Option.bind_eq_some_iff.mp h
        cases g2
        exact h3 _ _ g1
theorem pP_ind {b : Bd} {P PT PZ : Od → Dn → Prop} (hP : ClZ b P PT PZ) {k d : Nat} {ts : List Nat} {y : (Od × Dn) × List Nat} (h : pP k d b ts = some y) : PZ y.1.1 y.1.2 := by
  have hP' := hP
  obtain ⟨hS, h1, h2, h3, h4, h5, h6, -⟩ := hP'
  unfold pP at h
  cases ts with
  | nil => cases h
  | cons c r =>
    simp only at h
    split at h
    · obtain ⟨z, g1, g2⟩ := Option.bind_eq_some_iff.mp h
      have hv := pN_le g1
      unfold pM at g2
      split at g2
      · cases g2; exact h5 _ hv
      · split at g2
        · obtain ⟨z2, g3, g4⟩ := Option.bind_eq_some_iff.mp g2
          cases g4
          exact h6 _ _ _ hv (pT_ind hP g3)
        · cases g2; exact h5 _ hv
    · exact h4 _ _ (pT_ind hP h)
theorem hsgn_ind {b : Bd} {P PT PZ : Od → Dn → Prop} (hP : ClZ b P PT PZ) {x : Od × Dn} (neg : Bool) (h : PZ x.1 x.2) : PZ (hsgn neg x).1 (hsgn neg x).2 := by
  unfold hsgn
  split
  · exact hP.2.2.2.2.2.2.2.1 _ _ h
  · exact h
theorem pZr_ind {b : Bd} {P PT PZ : Od → Dn → Prop} (hP : ClZ b P PT PZ) : ∀ (k f d : Nat) (acc : Od × Dn) (ts : List Nat) (y : (Od × Dn) × List Nat), pZr k f d b acc ts = some y → PZ acc.1 acc.2 → PZ y.1.1 y.1.2 := by
  intro k
  induction k with
  | zero => intro f d acc ts y h; cases h
  | succ k ih =>
    intro f d acc ts y h ha
    unfold pZr at h
    cases ts with
    | nil => cases h; exact ha
    | cons c r =>
      simp only at h
      split at h
      · obtain ⟨z, g1, g2⟩ := Option.bind_eq_some_iff.mp h
        exact ih _ _ _ _ _ g2 (hP.2.2.2.2.2.2.2.2 _ _ _ _ ha (hsgn_ind hP _ (pP_ind hP g1)))
      · cases h; exact ha
theorem pZ_ind {b : Bd} {P PT PZ : Od → Dn → Prop} (hP : ClZ b P PT PZ) {k d : Nat} {ts : List Nat} {y : (Od × Dn) × List Nat} (h : pZ k d b ts = some y) : PZ y.1.1 y.1.2 := by
  unfold pZ at h
  cases ts with
  | nil => cases h
  | cons c r =>
    simp only at h
    obtain ⟨z, g1, g2⟩ := Option.bind_eq_some_iff.mp h
    exact pZr_ind hP _ _ _ _ _ _ g2 (hsgn_ind hP _ (pP_ind hP g1))
def ClC (b : Bd) (P PT PZ : Od → Dn → Prop) (Q : Od → DF → Prop) : Prop := ClZ b P PT PZ ∧ (∀ c1 D1 c2 D2, PZ c1 D1 → PZ c2 D2 → Q (c1 ++ c2 ++ [(19, 0)]) (fun n e => decide (D1 n e < D2 n e)) ∧ Q (c1 ++ c2 ++ [(20, 0)]) (fun n e => decide (D1 n e = D2 n e))) ∧
  (∀ v c D, v ≠ 0 → v ≤ 999 → PZ c D → Q (c ++ [(21, v)]) (fun n e => decide (D n e - D n e / nI v * nI v = 0))) ∧ (∀ c1 D1 c2 D2, P c1 D1 → P c2 D2 → Q (c1 ++ c2 ++ [(22, 0)]) (fun n e => decide (D1 n e &&& hnot (D2 n e) = 0)) ∧ Q (c1 ++ c2 ++ [(20, 0)]) (fun n e => decide (D1 n e = D2 n e)))
theorem pR_ind {b : Bd} {P PT PZ : Od → Dn → Prop} {Q : Od → DF → Prop} (hP : ClC b P PT PZ Q) {k d : Nat} {x : Od × Dn} {ts : List Nat} {y : (Od × DF) × List Nat} (h : pR k d b x ts = some y) (hx : PZ x.1 x.2) : Q y.1.1 y.1.2 := by
  obtain ⟨hZ, h1, -, -⟩ := hP
  unfold pR at h
  split at h
  · cases h
  · split at h
    · obtain ⟨z, g1, g2⟩ := Option.bind_eq_some_iff.mp h
      cases g2
      exact (h1 _ _ _ _ hx (pZ_ind hZ g1)).1
    · split at h
      · obtain ⟨z, g1, g2⟩ := Option.bind_eq_some_iff.mp h
        cases g2
        exact (h1 _ _ _ _ hx (pZ_ind hZ g1)).2
      · cases h
theorem pC_ind {b : Bd} {P PT PZ : Od → Dn → Prop} {Q : Od → DF → Prop} (hP : ClC b P PT PZ Q) {k d : Nat} {ts : List Nat} {y : (Od × DF) × List Nat} (h : pC k d b ts = some y) : Q y.1.1 y.1.2 := by
  unfold pC at h
  split at h
  · obtain ⟨z, g1, g2⟩ := Option.bind_eq_some_iff.mp h
    exact pR_ind hP g2 (pZ_ind hP.1 g1)
  · rename_i v r hv
    split at h
    · unfold pD at h
      split at h
      · cases h
      · obtain ⟨z, g1, g2⟩ := Option.bind_eq_some_iff.mp h
        cases g2
        exact hP.2.2.1 _ _ _ (by assumption) (pN_le hv) (pZ_ind hP.1 g1)
    · obtain ⟨z, g1, g2⟩ := Option.bind_eq_some_iff.mp h
      exact pR_ind hP g2 (pZ_ind hP.1 g1)
theorem cx_some {α : Type} {c : Nat} {y z : α × List Nat} (h : cx c y = some z) : z.1 = y.1 ∧ y.2 = c :: z.2 := by
  unfold cx at h
  split at h
  · cases h
  · split at h
    · rename_i t r hy ht
      cases h
      exact ⟨rfl, by rw [hy, ht]⟩
    · cases h
theorem pB_ind {b : Bd} {P PT PZ : Od → Dn → Prop} {Q : Od → DF → Prop} (hP : ClC b P PT PZ Q) {k d : Nat} {ts : List Nat} {y : (Od × DF) × List Nat} (h : pB k d b ts = some y) : Q y.1.1 y.1.2 := by
  unfold pB at h
  obtain ⟨z, g1, g2⟩ := Option.bind_eq_some_iff.mp h
  have hz := pS_ind hP.1.1 _ _ _ _ _ _ g1 (by omega)
  unfold pQ at g2
  split at g2
  · cases g2
  · split at g2
    · obtain ⟨z2, g3, g4⟩ := Option.bind_eq_some_iff.mp g2
      obtain ⟨e1, e2⟩ := cx_some g4
      rw [e1]
      exact (hP.2.2.2 _ _ _ _ hz (pS_ind hP.1.1 _ _ _ _ _ _ g3 (by omega))).1
    · split at g2
      · obtain ⟨z2, g3, g4⟩ := Option.bind_eq_some_iff.mp g2
        obtain ⟨e1, e2⟩ := cx_some g4
        rw [e1]
        exact (hP.2.2.2 _ _ _ _ hz (pS_ind hP.1.1 _ _ _ _ _ _ g3 (by omega))).2
      · cases g2
