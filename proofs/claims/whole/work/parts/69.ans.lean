/-! what the reference answers about the sentence in force -/
def KnP (o : Bool) (q0 : Nat) (y : FvT) : Prop := (y.1.2.2 = none → o = false ∨ ∃ c x, y.1.1 = c ++ [x] ∧ x.1 ≠ 5 ∧ x.1 < 100) ∧ (∀ isA isSet i q B, y.1.2.2 = some (isA, isSet, i, q, B) → o = true ∧ q = q0)
theorem knp_f {q0 : Nat} {c : Od} {D : DF} {lp : List (Bool × Bool)} : KnP false q0 ((c, D, none), lp) := ⟨fun _ => Or.inl rfl, fun _ _ _ _ _ h => (by cases h)⟩
theorem knp_l {o : Bool} {q0 w : Nat} {c : Od} {D : DF} {lp : List (Bool × Bool)} (h5 : w ≠ 5) (h : w < 100) : KnP o q0 ((c ++ [(w, 0)], D, none), lp) := ⟨fun _ => Or.inr ⟨c, (w, 0), rfl, h5, h⟩, fun _ _ _ _ _ h => (by cases h)⟩
theorem opn_f {c : Nat} {r : List Nat} (h : ¬ (c = 65 ∨ c = 69)) : opn (c :: r) = false := by
  have h1 : ¬ c = 65 := fun q => h (Or.inl q)
  have h2 : ¬ c = 69 := fun q => h (Or.inr q)
  simp [opn, h1, h2]
theorem opn_t {c : Nat} {r : List Nat} (h : c = 65 ∨ c = 69) : opn (c :: r) = true := by
  rcases h with h | h <;> simp [opn, h]
theorem pF_kn : ∀ (k w : Nat) (acc : FvT) (d : Nat) (b : Bd) (ts : List Nat) (y : FvT × List Nat), pF k w acc d b ts = some y → ∀ (q0 : Nat) (o : Bool), (w < 3 → q0 = acc.2.length ∧ o = opn ts) → (3 ≤ w → KnP o q0 acc) → KnP o q0 y.1 := by
  intro k
  induction k with
  | zero => intro w acc d b ts y h; cases h
  | succ k ih =>
    intro w acc d b ts y h q0 o hlow hacc
    unfold pF at h
    split at h
    · obtain ⟨hq0, ho⟩ := hlow (by omega)
      subst hq0
      subst ho
      split at h
      · cases ts with
        | nil => cases h
        | cons c r =>
          simp only at h
          split at h
          · obtain ⟨z, h1, h2⟩ := Option.bind_eq_some_iff.mp h
            cases h2
            rw [opn_f (by omega)]
            exact knp_f
          · split at h
            · rename_i hc
              split at h
              · split at h
                · cases h
                · obtain ⟨i, g1, g2⟩ := Option.bind_eq_some_iff.mp h
                  obtain ⟨z, h1, h2⟩ := Option.bind_eq_some_iff.mp g2
                  cases h2
                  rw [opn_t hc]
                  exact ⟨fun q => (by cases q), fun _ _ _ _ _ q => (by cases q; exact ⟨rfl, rfl⟩)⟩
              · cases h
            · rename_i hc
              rw [opn_f hc]
              split at h
              · obtain ⟨z, h1, h2⟩ := Option.bind_eq_some_iff.mp h
                obtain ⟨e1, e2⟩ := cx_some h2
                rw [e1]
                exact knp_f
              · split at h
                · obtain ⟨z, h1, h2⟩ := Option.bind_eq_some_iff.mp h
                  cases h2
                  exact knp_f
                · obtain ⟨z, h1, h2⟩ := Option.bind_eq_some_iff.mp h
                  cases h2
                  exact knp_f
      · cases h
    · split at h
      · obtain ⟨z, h1, h2⟩ := Option.bind_eq_some_iff.mp h
        exact ih _ _ _ _ _ _ h2 q0 o (by omega) (fun _ => ih _ _ _ _ _ _ h1 q0 o (fun _ => hlow (by omega)) (by omega))
      · split at h
        · obtain ⟨z, h1, h2⟩ := Option.bind_eq_some_iff.mp h
          exact ih _ _ _ _ _ _ h2 q0 o (by omega) (fun _ => ih _ _ _ _ _ _ h1 q0 o (fun _ => hlow (by omega)) (by omega))
        · have hc1 := hacc (by omega)
          split at h
          · cases ts with
            | nil => cases h; exact hc1
            | cons c r =>
              simp only at h
              split at h
              · obtain ⟨z, h1, h2⟩ := Option.bind_eq_some_iff.mp h
                exact ih _ _ _ _ _ _ h2 q0 o (by omega) (fun _ => knp_l (by decide) (by decide))
              · cases h; exact hc1
          · cases ts with
            | nil => cases h; exact hc1
            | cons c r =>
              simp only at h
              split at h
              · obtain ⟨z, h1, h2⟩ := Option.bind_eq_some_iff.mp h
                exact ih _ _ _ _ _ _ h2 q0 o (by omega) (fun _ => knp_l (by decide) (by decide))
              · cases h; exact hc1
theorem sent_kn {ts : List Nat} {y : FvT} (h : sent ts = some y) : KnP (opn ts) 0 y := by
  unfold sent at h
  obtain ⟨z, h1, h2⟩ := Option.bind_eq_some_iff.mp h
  split at h2
  · cases h2
    exact pF_kn _ _ _ _ _ _ _ h1 0 (opn ts) (fun _ => ⟨rfl, rfl⟩) (by omega)
  · cases h2
def e0 : Ev := fun _ => 0
/-- is it true in the world of n elements -/
def mean (y : FvT) (n : Nat) : Bool := y.1.2.1 n e0
/-- in how many ways -/
def waysN (y : FvT) (n : Nat) : Nat := match y.1.2.2 with
  | none => if mean y n then 1 else 0
  | some (_, isSet, _, _, B) => hcnt isSet n (fun z => B n (upE e0 0 z))
theorem sent_cl {ts : List Nat} {y : FvT} (h : sent ts = some y) (n : Nat) (e e' : Ev) : y.1.2.1 n e = y.1.2.1 n e' := by
  unfold sent at h
  obtain ⟨z, h1, h2⟩ := Option.bind_eq_some_iff.mp h
  split at h2
  · cases h2
    exact pF_dep _ _ _ _ _ _ _ h1 (by omega) n e e' (fun v q hq => (by cases hq))
  · cases h2
theorem sent_kok {ts : List Nat} {y : FvT} (h : sent ts = some y) {n : Nat} (hn : n ≤ 4) : KOK n y := by
  unfold sent at h
  obtain ⟨z, h1, h2⟩ := Option.bind_eq_some_iff.mp h
  split at h2
  · cases h2
    exact (pF_ok hn _ _ _ _ _ _ _ h1 0 (Nat.zero_le _) (by omega) (fun _ => rfl) (fun v q h => (by cases h)) (by omega) (by decide)).2.2.1
  · cases h2
theorem nI_bv (x : Int32) : ∃ k, x = nI k := by
  refine ⟨x.toBitVec.toNat, ?_⟩
  unfold nI
  rw [← Int32.toBitVec_inj]
  simp
theorem b2i_1 (b : Bool) : b2i (decide (b2i b = 1)) = b2i b := by cases b <;> rfl
theorem t_bd {L l t n : Nat} (h : t ≤ L * 18 ^ l) (hL : L ≤ 242) (hl : l ≤ 4) (hn : 26000000 ≤ n) : t < n := by
  have h1 : 18 ^ l ≤ 18 ^ 4 := Nat.pow_le_pow_right (by decide) hl
  have h2 : L * 18 ^ l ≤ 242 * 18 ^ 4 := Nat.mul_le_mul hL h1
  have h3 : 242 * 18 ^ 4 = 25404192 := by decide
  omega
section RAn
variable {n d m : Nat} {M : Mem} {X : Xr}
theorem R_mean (hn : 26000000 ≤ n) (hL : LayM m M) {ts : List Nat} {y : FvT} (hl : ts.length ≤ 120) (hy : sent ts = some y) {o : Bool} (hS : SenX X (y.1.1, y.2) o) {sz : Nat} (hsz : sz ≤ 4) : ∃ X', mR n (d + 3) 96 [.ref m, .int (nI sz), .int 0] (wR m 17 M X) = some (.inl (some (.int (b2i (mean y sz)))), wR m 17 M X') ∧ FrV X X' := by
  obtain ⟨b1, b2⟩ := sent_bd hl hy
  obtain ⟨sts, hst⟩ : ∃ sts : Nat → Nat, ∀ q, X 15 q = nI (sts q) := ⟨fun q => (nI_bv (X 15 q)).choose, fun q => (nI_bv (X 15 q)).choose_spec⟩
  obtain ⟨t, v', s', h1, h2⟩ := sent_run hy (by omega) hsz (X 14) sts
  obtain ⟨X', e1, -, e3⟩ := R_run (n := n) (d := d) hL false hsz b2 (by omega) (t_bd h1 b1 b2 hn) (by omega) hS (fun q _ => rfl) (fun q _ => hst q) h2
  rw [b2i_1, sent_cl hy sz (X 14) e0] at e1
  exact ⟨X', e1, e3⟩
theorem R_waysN (hn : 26000000 ≤ n) (hL : LayM m M) {ts : List Nat} {y : FvT} (hl : ts.length ≤ 120) (hy : sent ts = some y) {o : Bool} (hS : SenX X (y.1.1, y.2) o) {sz : Nat} (hsz : sz ≤ 4) {isA isSet : Bool} {i q : Nat} {B : DF} (hk : y.1.2.2 = some (isA, isSet, i, q, B)) : ∃ X' x, mR n (d + 3) 96 [.ref m, .int (nI sz), .int 1] (wR m 17 M X) = some (.inl (some (.int (b2i x))), wR m 17 M X') ∧ X' 0 40 = nI (waysN y sz) ∧ FrV X X' := by
  obtain ⟨b1, b2⟩ := sent_bd hl hy
  have hq : q = 0 := ((sent_kn hy).2 _ _ _ _ _ hk).2
  obtain ⟨sts, hst⟩ : ∃ sts : Nat → Nat, ∀ q, X 15 q = nI (sts q) := ⟨fun q => (nI_bv (X 15 q)).choose, fun q => (nI_bv (X 15 q)).choose_spec⟩
  obtain ⟨t, v', s', x, h1, h2⟩ := sent_cnt hy (by omega) hsz hk hq (X 14) sts
  obtain ⟨X', f1, f2, f3⟩ := R_run (n := n) (d := d) hL true hsz b2 (by omega) (t_bd h1 b1 b2 hn) (by omega) hS (fun q _ => rfl) (fun q _ => hst q) h2
  refine ⟨X', _, f1, ?_, f3⟩
  rw [f2]
  obtain ⟨c, k1, k2, k3, k4, k5, k6⟩ := sent_kok hy hsz _ _ _ _ _ hk
  subst hq
  have hw : waysN y sz = hcnt isSet sz (fun z => B sz (upE e0 0 z)) := by simp only [waysN, hk]
  rw [hw]
  have hsame : (fun z => B sz (upE (X 14) 0 z)) = fun z => B sz (upE e0 0 z) := by
    funext z
    refine k4 _ _ (fun j hj => ?_)
    have : j = 0 := by omega
    subst this
    simp [upE]
  rw [hsame]
theorem R_isSize (M : Mem) (x : Int32) : mR n (d + 1) 95 [.int x] M = some (.inl (some (.int (b2i (decide (0 ≤ x ∧ x ≤ 4))))), M) := by
  rw [eM_isSize]
  unfold fM_isSize_0
  by_cases h1 : x < 0
  · rw [if_pos h1, decide_eq_false (fun q => absurd h1 (Int32.not_lt.mpr q.1))]; rfl
  · rw [if_neg h1]
    by_cases h2 : 4 < x
    · rw [if_pos h2, decide_eq_false (fun q => absurd h2 (Int32.not_lt.mpr q.2))]; rfl
    · rw [if_neg h2, decide_eq_true ⟨Int32.not_lt.mp h1, Int32.not_lt.mp h2⟩]; rfl
theorem R_isLoop (hL : LayM m M) {ts : List Nat} {y : FvT} (hl : ts.length ≤ 120) (hy : sent ts = some y) (hS : SenX X (y.1.1, y.2) (opn ts)) : mR n (d + 1) 106 [.ref m] (wR m 17 M X) = some (.inl (some (.int (b2i y.1.2.2.isSome))), wR m 17 M X) := by
  obtain ⟨b1, b2⟩ := sent_bd hl hy
  obtain ⟨kn1, kn2⟩ := sent_kn hy
  obtain ⟨s1, s2, s3, s4, s5⟩ := hS
  have s1 : X 0 4 = nI y.1.1.length := s1
  obtain ⟨h1, h2, h3⟩ := lm6 hL
  obtain ⟨g1, g2, g3⟩ := lm7 hL
  rw [eM_isLoop]
  cases ho : opn ts with
  | false =>
    rw [ho] at s5
    have s5 : X 0 10 = 0 := s5
    have hk : y.1.2.2 = none := by
      cases hk : y.1.2.2 with
      | none => rfl
      | some z => obtain ⟨isA, isSet, i, q, B⟩ := z; have := (kn2 _ _ _ _ _ hk).1; rw [ho] at this; cases this
    simp only [fM_isLoop_0, fM_isLoop_40, fM_isLoop_41, mK_wR, hL.1, if_true, wR_at0 (K := 17) (by decide), s5, fbb0, hk]
    rfl
  | true =>
    rw [ho] at s5
    have s5 : X 0 10 = 1 := s5
    have n1 : ¬ (1 : Int32) = 0 := by decide
    cases hk : y.1.2.2 with
    | none =>
      rcases kn1 hk with h | ⟨c, x, hx, hx5, hx100⟩
      · rw [ho] at h; cases h
      · have hlen : y.1.1.length = c.length + 1 := by rw [hx]; simp
        have hat : X 2 c.length = nI x.1 := (s3 c.length x (by show y.1.1[c.length]? = _; rw [hx]; simp)).1
        have hi : inA (nI c.length) 260 := inA_nI (by omega) (by decide)
        have hc : (nI c.length).toNatClampNeg = c.length := nI_clamp (by omega)
        have hq5 : ¬ nI x.1 = 5 := fun q => hx5 ((cq (by omega) 5 (by omega) rfl).mp q)
        rw [hlen] at s1
        simp only [fM_isLoop_0, fM_isLoop_40, fM_isLoop_41, mK_wR, mP_wR, mL_wR, hL.1, if_true, wR_at0 (K := 17) (by decide), s5, if_neg n1, h1, h2, h3, rzD_s, s1, nI_pred, if_pos hi, hc, wR_at (K := 17) (r := 2) (by decide), hat, if_neg hq5, fbb0]
        rfl
    | some z =>
      obtain ⟨isA, isSet, i, q, B⟩ := z
      have hq : q = 0 := (kn2 _ _ _ _ _ hk).2
      subst hq
      obtain ⟨c, k1, -⟩ := sent_kok hy (n := 0) (by decide) _ _ _ _ _ hk
      have hlen : y.1.1.length = (c.length + 1) + 1 := by rw [k1]; simp
      have hg : y.1.1[c.length + 1]? = some (5, 0) := by rw [k1]; simp
      obtain ⟨hat, hat3⟩ := s3 (c.length + 1) (5, 0) hg
      have hat : X 2 (c.length + 1) = 5 := hat
      have hat3 : X 3 (c.length + 1) = 0 := by
        rcases hat3 with h | h | h
        · exact h
        · exact absurd h (by decide)
        · exact absurd h (by decide)
      have hi : inA (nI (c.length + 1)) 260 := inA_nI (by omega) (by decide)
      have hc : (nI (c.length + 1)).toNatClampNeg = c.length + 1 := nI_clamp (by omega)
      rw [hlen] at s1
      simp only [fM_isLoop_0, fM_isLoop_40, fM_isLoop_41, mK_wR, mP_wR, mL_wR, hL.1, if_true, wR_at0 (K := 17) (by decide), s5, if_neg n1, h1, h2, h3, g1, g2, g3, rzD_s, s1, nI_pred, if_pos hi, hc, wR_at (K := 17) (r := 2) (by decide), wR_at (K := 17) (r := 3) (by decide), hat, hat3, fbb1]
      rfl
/-- the sentence in force: none, or that of a text -/
def SnX (X : Xr) : Option (List Nat) → Prop
  | none => X 0 3 = 0
  | some ts => X 0 3 = 1 ∧ ts.length ≤ 120 ∧ ∃ y, sent ts = some y ∧ SenX X (y.1.1, y.2) (opn ts)
def FrW (X X' : Xr) : Prop := (∀ r, r ≠ 0 → r ≠ 14 → r ≠ 15 → r ≠ 16 → X' r = X r) ∧ ∀ j, j ≠ 0 → j ≠ 35 → j ≠ 38 → j ≠ 40 → X' 0 j = X 0 j
theorem FrW.trans {X Y Z : Xr} (h1 : FrW X Y) (h2 : FrW Y Z) : FrW X Z := ⟨fun r a b c e => (h2.1 r a b c e).trans (h1.1 r a b c e), fun j a b c e => (h2.2 j a b c e).trans (h1.2 j a b c e)⟩
theorem frw_v {X X' : Xr} (h : FrV X X') : FrW X X' := ⟨h.1, fun j _ b c e => h.2 j b c e⟩
theorem frw_0 {X : Xr} (z : Int32) : FrW X (xs X 0 0 z) := ⟨fun r a _ _ _ => xs_row _ _ _ a, fun j a _ _ _ => xs_idx _ _ _ a⟩
theorem sen_w {X X' : Xr} {y : Od × List (Bool × Bool)} {o : Bool} (h : SenX X y o) (hf : FrW X X') : SenX X' y o := by
  obtain ⟨a1, a2, a3, a4, a5⟩ := h
  refine ⟨(hf.2 4 (by decide) (by decide) (by decide) (by decide)).trans a1, (hf.2 5 (by decide) (by decide) (by decide) (by decide)).trans a2, fun i x hx => ?_, fun i x hx => ?_, (hf.2 10 (by decide) (by decide) (by decide) (by decide)).trans a5⟩
  · rw [hf.1 2 (by decide) (by decide) (by decide) (by decide), hf.1 3 (by decide) (by decide) (by decide) (by decide)]; exact a3 i x hx
  · rw [hf.1 4 (by decide) (by decide) (by decide) (by decide), hf.1 5 (by decide) (by decide) (by decide) (by decide)]; exact a4 i x hx
theorem snx_w {X X' : Xr} {s : Option (List Nat)} (h : SnX X s) (hf : FrW X X') : SnX X' s := by
  have h3 := hf.2 3 (by decide) (by decide) (by decide) (by decide)
  cases s with
  | none => exact h3.trans h
  | some ts => obtain ⟨a1, a2, y, a3, a4⟩ := h; exact ⟨h3.trans a1, a2, y, a3, sen_w a4 hf⟩
/-- all that the reference keeps -/
def ModI (X : Xr) (tx : List Nat) (s : Option (List Nat)) : Prop := TxX X tx ∧ SigX X ∧ SnX X s
theorem mod_w {X X' : Xr} {tx : List Nat} {s : Option (List Nat)} (h : ModI X tx s) (hf : FrW X X') : ModI X' tx s := by
  obtain ⟨⟨t1, t2, t3, t4⟩, ⟨τ, s1, s2⟩, h3⟩ := h
  refine ⟨⟨(hf.2 1 (by decide) (by decide) (by decide) (by decide)).trans t1, t2, fun i x hx => by rw [hf.1 1 (by decide) (by decide) (by decide) (by decide)]; exact t3 i x hx, t4⟩, ⟨τ, s1, fun j a b => (hf.2 (j + 23) (by omega) (by omega) (by omega) (by omega)).trans (s2 j a b)⟩, snx_w h3 hf⟩
theorem in4 {x : Int32} (h : 0 ≤ x ∧ x ≤ 4) : ∃ k, k ≤ 4 ∧ x = nI k := nI_of2 (M := 4) (n := 4) rfl (Int32.not_lt.mpr h.1) h.2
/-- what the reference answers: what is thrown, and the answer -/
def aHold (s : Option (List Nat)) (x : Int32) : Int32 × Int32 := match s with
  | none => (1, 0)
  | some ts => if 0 ≤ x ∧ x ≤ 4 then (0, b2i (match sent ts with | none => false | some y => mean y x.toNatClampNeg)) else (2, 0)
theorem R_holds (hn : 26000000 ≤ n) (hL : LayM m M) {s : Option (List Nat)} (hs : SnX X s) (x : Int32) : ∃ X', mR n (d + 4) 94 [.ref m, .int x] (wR m 17 M X) = some (.inl (some (.int (aHold s x).2)), wR m 17 M X') ∧ X' 0 0 = (aHold s x).1 ∧ FrW X X' := by
  have n1 : ¬ (1 : Int32) = 0 := by decide
  have n2 : ¬ (2 : Int32) = 0 := by decide
  rw [eM_holds]
  cases s with
  | none =>
    have h3 : X 0 3 = 0 := hs
    refine ⟨xs X 0 0 1, ?_, xs_eq _ _ _ _, frw_0 _⟩
    simp only [fM_holds_0, fM_holds_24, fM_holds_47, fM_holds_48, mK_wR, hL.1, if_true, wR_at0 (K := 17) (by decide), h3, rzM_e, wR_set0 (K := 17) (by decide), xs_eq, if_neg n1, fbb0]
    rfl
  | some ts =>
    obtain ⟨h3, hl, y, hy, hS⟩ := hs
    have hsz := R_isSize (n := n) (d := d + 2) (wR m 17 M X) x
    by_cases hx : 0 ≤ x ∧ x ≤ 4
    · obtain ⟨k, hk, rfl⟩ := in4 hx
      rw [decide_eq_true hx] at hsz
      have hsz' : mR n (d + 3) 95 [.int (nI k)] (wR m 17 M X) = some (.inl (some (.int 1)), wR m 17 M X) := hsz
      obtain ⟨X', e1, e2⟩ := R_mean (n := n) (d := d) (X := xs X 0 0 0) hn hL hl hy (sen_w hS (frw_0 0)) hk
      refine ⟨X', ?_, ?_, (frw_0 0).trans (frw_v e2)⟩
      · have ha : (aHold (some ts) (nI k)).2 = b2i (mean y k) := by simp only [aHold, if_pos hx, hy, nI_clamp (show k < 2 ^ 31 by omega)]
        rw [ha]
        simp only [fM_holds_0, fM_holds_24, fM_holds_47, fM_holds_48, mK_wR, hL.1, if_true, wR_at0 (K := 17) (by decide), h3, if_neg n1, hsz', rzC_l, rzI_e, rzM_e, wR_set0 (K := 17) (by decide), xs_eq, e1]
        cases mean y k <;> rfl
      · rw [e2.2 0 (by decide) (by decide) (by decide), xs_eq]
        simp only [aHold, if_pos hx]
    · rw [decide_eq_false hx] at hsz
      have hsz' : mR n (d + 3) 95 [.int x] (wR m 17 M X) = some (.inl (some (.int 0)), wR m 17 M X) := hsz
      have ha : aHold (some ts) x = (2, 0) := if_neg hx
      rw [ha]
      refine ⟨xs X 0 0 2, ?_, xs_eq _ _ _ _, frw_0 _⟩
      simp only [fM_holds_0, fM_holds_24, fM_holds_47, fM_holds_48, mK_wR, hL.1, if_true, wR_at0 (K := 17) (by decide), h3, if_neg n1, hsz', rzC_l, rzI_e, rzM_e, wR_set0 (K := 17) (by decide), xs_eq, if_neg n2, fbb0]
def aWays (s : Option (List Nat)) (x : Int32) : Int32 × Int32 := match s with
  | none => (1, 0)
  | some ts => if 0 ≤ x ∧ x ≤ 4 then (0, nI (match sent ts with | none => 0 | some y => waysN y x.toNatClampNeg)) else (2, 0)
theorem R_ways (hn : 26000000 ≤ n) (hL : LayM m M) {s : Option (List Nat)} (hs : SnX X s) (x : Int32) : ∃ X', mR n (d + 4) 105 [.ref m, .int x] (wR m 17 M X) = some (.inl (some (.int (aWays s x).2)), wR m 17 M X') ∧ X' 0 0 = (aWays s x).1 ∧ FrW X X' := by
  have n1 : ¬ (1 : Int32) = 0 := by decide
  have l1 : ¬ (1 : Int32) ≤ 0 := by decide
  have l2 : ¬ (2 : Int32) ≤ 0 := by decide
  have l0 : (0 : Int32) ≤ 0 := by decide
  rw [eM_ways]
  cases s with
  | none =>
    have h3 : X 0 3 = 0 := hs
    refine ⟨xs X 0 0 1, ?_, xs_eq _ _ _ _, frw_0 _⟩
    simp only [fM_ways_0, fM_ways_24, mK_wR, hL.1, if_true, wR_at0 (K := 17) (by decide), h3, rzM_e, wR_set0 (K := 17) (by decide), xs_eq, if_neg l1]
    rfl
  | some ts =>
    obtain ⟨h3, hl, y, hy, hS⟩ := hs
    have hsz := R_isSize (n := n) (d := d + 2) (wR m 17 M X) x
    by_cases hx : 0 ≤ x ∧ x ≤ 4
    · obtain ⟨k, hk, rfl⟩ := in4 hx
      rw [decide_eq_true hx] at hsz
      have hsz' : mR n (d + 3) 95 [.int (nI k)] (wR m 17 M X) = some (.inl (some (.int 1)), wR m 17 M X) := hsz
      have ha : aWays (some ts) (nI k) = (0, nI (waysN y k)) := by simp only [aWays, if_pos hx, hy, nI_clamp (show k < 2 ^ 31 by omega)]
      have hlo := R_isLoop (n := n) (d := d + 2) (X := xs X 0 0 0) hL hl hy (sen_w hS (frw_0 0))
      rw [ha]
      cases hkd : y.1.2.2 with
      | none =>
        rw [hkd] at hlo
        have hlo' : mR n (d + 3) 106 [.ref m] (wR m 17 M (xs X 0 0 0)) = some (.inl (some (.int 0)), wR m 17 M (xs X 0 0 0)) := hlo
        obtain ⟨X', e1, e2⟩ := R_mean (n := n) (d := d) (X := xs X 0 0 0) hn hL hl hy (sen_w hS (frw_0 0)) hk
        refine ⟨X', ?_, ?_, (frw_0 0).trans (frw_v e2)⟩
        · have hw : waysN y k = if mean y k then 1 else 0 := by simp only [waysN, hkd]
          rw [hw]
          simp only [fM_ways_0, fM_ways_24, fM_ways_68, mK_wR, hL.1, if_true, wR_at0 (K := 17) (by decide), h3, if_neg n1, hsz', rzC_l, rzI_e, rzM_e, wR_set0 (K := 17) (by decide), xs_eq, if_pos l0, hlo', e1]
          cases mean y k <;> rfl
        · rw [e2.2 0 (by decide) (by decide) (by decide), xs_eq]
      | some z =>
        obtain ⟨isA, isSet, i, q, B⟩ := z
        rw [hkd] at hlo
        have hlo' : mR n (d + 3) 106 [.ref m] (wR m 17 M (xs X 0 0 0)) = some (.inl (some (.int 1)), wR m 17 M (xs X 0 0 0)) := hlo
        obtain ⟨X', b, e1, e2, e3⟩ := R_waysN (n := n) (d := d) (X := xs X 0 0 0) hn hL hl hy (sen_w hS (frw_0 0)) hk hkd
        refine ⟨X', ?_, ?_, (frw_0 0).trans (frw_v e3)⟩
        · simp only [fM_ways_0, fM_ways_24, fM_ways_68, mK_wR, hL.1, if_true, wR_at0 (K := 17) (by decide), h3, if_neg n1, hsz', rzC_l, rzI_e, rzM_e, wR_set0 (K := 17) (by decide), xs_eq, if_pos l0, hlo', e1, e2]
        · rw [e3.2 0 (by decide) (by decide) (by decide), xs_eq]
    · rw [decide_eq_false hx] at hsz
      have hsz' : mR n (d + 3) 95 [.int x] (wR m 17 M X) = some (.inl (some (.int 0)), wR m 17 M X) := hsz
      have ha : aWays (some ts) x = (2, 0) := if_neg hx
      rw [ha]
      refine ⟨xs X 0 0 2, ?_, xs_eq _ _ _ _, frw_0 _⟩
      simp only [fM_ways_0, fM_ways_24, mK_wR, hL.1, if_true, wR_at0 (K := 17) (by decide), h3, if_neg n1, hsz', rzC_l, rzI_e, rzM_e, wR_set0 (K := 17) (by decide), xs_eq, if_neg l2]
/-- the least of the first k worlds that p isn't true in, or r -/
def flo (p : Nat → Bool) : Nat → Int32 → Int32
  | 0, r => r
  | k + 1, r => flo p k (if p k then r else nI k)
def aFail (s : Option (List Nat)) : Int32 × Int32 := match s with
  | none => (1, 0)
  | some ts => (0, flo (match sent ts with | none => fun _ => false | some y => mean y) 5 (-1))
theorem R_fails20 (hn : 26000000 ≤ n) (hL : LayM m M) {ts : List Nat} {y : FvT} (hl : ts.length ≤ 120) (hy : sent ts = some y) (D : Nat) : ∀ (k w : Nat) (x1 : Int32) (X : Xr), k ≤ 5 → k < w → SenX X (y.1.1, y.2) (opn ts) → X 0 0 = 0 → ∃ X', fM_fails_20 n D (mR n (d + 3)) w m x1 (nI k + (-1)) (wR m 17 M X) = some (.inl (some (.int (flo (mean y) k x1))), wR m 17 M X') ∧ FrV X X'
  | 0, w, x1, X, hk, hw, hS, h0 => by
    obtain ⟨w, rfl⟩ : ∃ w', w = w' + 1 := ⟨w - 1, by omega⟩
    refine ⟨X, ?_, frv_rfl⟩
    have hlt : nI 0 + (-1) < 0 := by decide
    rw [fM_fails_20, if_pos hlt]
    simp only [fM_fails_52, fM_fails_64, mK_wR, hL.1, if_true, wR_at0 (K := 17) (by decide), h0, flo]
  | k + 1, w, x1, X, hk, hw, hS, h0 => by
    obtain ⟨w, rfl⟩ : ∃ w', w = w' + 1 := ⟨w - 1, by omega⟩
    obtain ⟨X1, e1, e2⟩ := R_mean (n := n) (d := d) hn hL hl hy hS (sz := k) (by omega)
    obtain ⟨X2, f1, f2⟩ := R_fails20 hn hL hl hy D k w (if mean y k then x1 else nI k) X1 (by omega) (by omega) (sen_fr hS e2) (by rw [e2.2 0 (by decide) (by decide) (by decide)]; exact h0)
    refine ⟨X2, ?_, e2.trans f2⟩
    rw [pk_m1, fM_fails_20, if_neg (nI_pos (by omega))]
    simp only [fM_fails_45, mK_wR, hL.1, if_true, wR_at0 (K := 17) (by decide), h0, e1, rzC_l, rzI_e, flo]
    rw [← f1]
    cases mean y k <;> rfl
theorem R_fails (hn : 26000000 ≤ n) (hL : LayM m M) {s : Option (List Nat)} (hs : SnX X s) : ∃ X', mR n (d + 4) 104 [.ref m] (wR m 17 M X) = some (.inl (some (.int (aFail s).2)), wR m 17 M X') ∧ X' 0 0 = (aFail s).1 ∧ FrW X X' := by
  have n1 : ¬ (1 : Int32) = 0 := by decide
  have l4 : ¬ (4 : Int32) < 0 := by decide
  rw [eM_fails]
  cases s with
  | none =>
    have h3 : X 0 3 = 0 := hs
    obtain ⟨n, rfl⟩ : ∃ n', n = n' + 1 := ⟨n - 1, by omega⟩
    refine ⟨xs X 0 0 1, ?_, xs_eq _ _ _ _, frw_0 _⟩
    simp only [fM_fails_0, fM_fails_13, fM_fails_20, fM_fails_52, fM_fails_64, mK_wR, hL.1, if_true, wR_at0 (K := 17) (by decide), h3, rzM_e, wR_set0 (K := 17) (by decide), if_neg l4, xs_eq, if_neg n1]
    rfl
  | some ts =>
    obtain ⟨h3, hl, y, hy, hS⟩ := hs
    obtain ⟨X', e1, e2⟩ := R_fails20 (n := n) (d := d) hn hL hl hy (d + 3) 5 n (-1) (xs X 0 0 0) (by omega) (by omega) (sen_w hS (frw_0 0)) (xs_eq _ _ _ _)
    have e1' : fM_fails_20 n (d + 3) (mR n (d + 3)) n m (-1) 4 (wR m 17 M (xs X 0 0 0)) = some (.inl (some (.int (flo (mean y) 5 (-1)))), wR m 17 M X') := e1
    refine ⟨X', ?_, ?_, (frw_0 0).trans (frw_v e2)⟩
    · have ha : (aFail (some ts)).2 = flo (mean y) 5 (-1) := by simp only [aFail, hy]
      rw [ha]
      simp only [fM_fails_0, fM_fails_13, mK_wR, hL.1, if_true, wR_at0 (K := 17) (by decide), h3, if_neg n1, rzM_e, wR_set0 (K := 17) (by decide), e1']
    · rw [e2.2 0 (by decide) (by decide) (by decide), xs_eq]; rfl
theorem R_wipe (hL : LayM m M) {tx : List Nat} {s : Option (List Nat)} (h : ModI X tx s) : ∃ X', mR n (d + 1) 68 [.ref m] (wR m 17 M X) = some (.inl (some (.int (nI tx.length))), wR m 17 M X') ∧ X' 0 0 = 0 ∧ ModI X' [] s := by
  obtain ⟨⟨t1, t2, t3, t4⟩, ⟨τ, s1, s2⟩, h3⟩ := h
  refine ⟨xs (xs X 0 0 0) 0 1 0, ?_, ?_, ⟨xs_eq _ _ _ _, by simp, fun i x hx => (by cases hx), fun x hx => (by cases hx)⟩, ⟨τ, s1, fun j a b => ?_⟩, ?_⟩
  · rw [eM_wipe]
    simp only [fM_wipe_0, mK_wR, hL.1, if_true, rzM_e, wR_set0 (K := 17) (by decide), wR_at0 (K := 17) (by decide), xs_idx _ _ _ (show 1 ≠ 0 by decide), t1]
  · rw [xs_idx _ _ _ (by decide), xs_eq]
  · rw [xs_idx _ _ _ (by omega), xs_idx _ _ _ (by omega)]; exact s2 j a b
  · have hr : ∀ r, r ≠ 0 → xs (xs X 0 0 0) 0 1 0 r = X r := fun r hr => by rw [xs_row _ _ _ hr, xs_row _ _ _ hr]
    have h0 : ∀ j, j ≠ 0 → j ≠ 1 → xs (xs X 0 0 0) 0 1 0 0 j = X 0 j := fun j a b => by rw [xs_idx _ _ _ b, xs_idx _ _ _ a]
    cases s with
    | none => exact (h0 3 (by decide) (by decide)).trans h3
    | some ts =>
      obtain ⟨a1, a2, y, a3, b1, b2, b3, b4, b5⟩ := h3
      exact ⟨(h0 3 (by decide) (by decide)).trans a1, a2, y, a3, (h0 4 (by decide) (by decide)).trans b1, (h0 5 (by decide) (by decide)).trans b2, fun i x hx => by rw [hr 2 (by decide), hr 3 (by decide)]; exact b3 i x hx, fun i x hx => by rw [hr 4 (by decide), hr 5 (by decide)]; exact b4 i x hx, (h0 10 (by decide) (by decide)).trans b5⟩
theorem R_length (hL : LayM m M) {tx : List Nat} {s : Option (List Nat)} (h : ModI X tx s) : mR n (d + 1) 69 [.ref m] (wR m 17 M X) = some (.inl (some (.int (nI tx.length))), wR m 17 M (xs X 0 0 0)) := by
  rw [eM_length]
  simp only [fM_length_0, mK_wR, hL.1, if_true, rzM_e, wR_set0 (K := 17) (by decide), wR_at0 (K := 17) (by decide), xs_idx _ _ _ (show 1 ≠ 0 by decide), h.1.1]
theorem R_thrown (hL : LayM m M) : mR n (d + 1) 66 [.ref m] (wR m 17 M X) = some (.inl (some (.int (X 0 0))), wR m 17 M X) := by
  rw [eM_thrown]
  simp only [fM_thrown_0, mK_wR, hL.1, if_true, wR_at0 (K := 17) (by decide)]
end RAn
