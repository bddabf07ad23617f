/-! loops of the reference's orders -/
theorem mor_lt {isSet : Bool} {n k : Nat} (hn : n ≤ 4) (hk : k ≤ mor isSet n) : (lo0 isSet + nI k < (if isSet then hfull n else 8)) ↔ k < mor isSet n := by
  have h1 : ∀ n, n < 5 → ∀ k, k < 17 → k ≤ mor true n → ((lo0 true + nI k < hfull n) ↔ k < mor true n) := by decide +kernel
  have h2 : ∀ k, k < 17 → ((lo0 false + nI k < 8) ↔ k < 16) := by decide +kernel
  cases isSet with
  | true =>
    have h3 : 2 ^ n ≤ 2 ^ 4 := Nat.pow_le_pow_right (by decide) hn
    have h4 : mor true n = 2 ^ n - 1 := rfl
    exact h1 n (by omega) k (by omega) hk
  | false =>
    have h4 : mor false n = 16 := rfl
    rw [h4] at hk ⊢
    exact h2 k (by omega)
theorem mor_le {isSet : Bool} {n : Nat} (hn : n ≤ 4) : mor isSet n ≤ 16 := by
  have h3 : 2 ^ n ≤ 2 ^ 4 := Nat.pow_le_pow_right (by decide) hn
  cases isSet with
  | true => show 2 ^ n - 1 ≤ 16; omega
  | false => exact Nat.le_refl _
theorem pre_get {α : Type} {l1 l2 : List α} {q : Nat} {x d : α} (h : l1 <+: l2) (hx : l1[q]? = some x) : l2.getD q d = x := by
  obtain ⟨s, rfl⟩ := h
  rw [List.getD_eq_getElem?_getD, List.getElem?_append_left (List.getElem?_eq_some_iff.mp hx).1, hx]
  rfl
theorem lo_succ (v : Int32) (k : Nat) : v + nI k + 1 = v + nI (k + 1) := by rw [nI_succ, Int32.add_assoc]
theorem any_step {code pre c post : Od} {q n : Nat} {lp : List (Bool × Bool)} {cnt : Bool} (hc : code = pre ++ (c ++ [(5, q)]) ++ post) (hql : q < lp.length) (hq4 : q < 10000) {x : Int32} {stk : List Int32} (hst : stk.length + 1 ≤ 255) {vals : Ev} {sts : Nat → Nat} {good : Int32} :
    Rn code lp n cnt 1 (pre.length + c.length, x :: stk, vals, sts, good) (vAny lp n cnt q (pre.length + c.length) x stk vals sts good) := by
  have hat : code.getD (pre.length + c.length) (0, 0) = (5, q) := by rw [hc]; exact at_mid
  refine Rn.one (by rw [hc]; simp) (by show Okv lp (code.getD (pre.length + c.length) (0, 0)).1 (code.getD (pre.length + c.length) (0, 0)).2 (x :: stk); rw [hat]; show Okv lp 5 q (x :: stk); exact ⟨by simp only [List.length_cons]; exact Nat.le_add_left 1 _, by simp only [List.length_cons]; omega, fun _ => hql, fun h => absurd h (by decide), by decide, fun h => absurd h (by decide), hq4⟩) ?_
  simp only [vStep, hat, List.headD_cons, List.tail_cons]
  rfl
theorem loop_it {n q hi T : Nat} {isA isSet : Bool} {c : Od} {D : Ev → Bool} {lp2 : List (Bool × Bool)} (hn : n ≤ 4) (hT : c.length * 18 ^ (hi - (q + 1)) ≤ T) (hb : COK n c D (q + 1) hi lp2) (hf : lp2[q]? = some (isA, isSet)) (hd : ∀ e e' : Ev, (∀ j, j < q + 1 → e j = e' j) → D e = D e')
    {code pre post : Od} {lp : List (Bool × Bool)} {cnt : Bool} (hc : code = (pre ++ [(12, q)]) ++ (c ++ [(5, q)]) ++ post) (hlp : lp2 <+: lp) (hcn : cnt = true → 1 ≤ q) (hq4 : q < 10000) : ∀ (j k : Nat), k + j = mor isSet n → ∀ (stk : List Int32) (vals : Ev) (sts : Nat → Nat) (good : Int32), stk.length + c.length + 2 ≤ 255 → vals q = lo0 isSet + nI k → sts q = pre.length + 1 →
    ∃ (t : Nat) (vals' : Ev) (sts' : Nat → Nat), t ≤ (j + 1) * (T + 1) ∧ Rn code lp n cnt t (pre.length + 1, stk, vals, sts, good) (pre.length + 1 + c.length + 1, b2i (qfr isA (fun i => D (upE vals q (lo0 isSet + nI i))) k j) :: stk, vals', sts', good) ∧ (∀ i, i < q → vals' i = vals i) ∧ ∀ i, i < q → sts' i = sts i := by
  have hA : lpA lp q = isA := by unfold lpA; rw [pre_get hlp hf]
  have hS : lpS lp q = isSet := by unfold lpS; rw [pre_get hlp hf]
  have hL : hlast lp n q = if isSet then hfull n else 8 := by unfold hlast; rw [hS]
  have hcq : (cnt && decide (q = 0)) = false := by
    cases cnt with
    | false => rfl
    | true =>
      have := hcn rfl
      have h0 : ¬ q = 0 := by omega
      simp [h0]
  have hpl : (pre ++ [(12, q)]).length = pre.length + 1 := by simp
  have hql : q < lp.length := Nat.lt_of_lt_of_le (List.getElem?_eq_some_iff.mp hf).1 hlp.length_le
  intro j
  induction j with
  | zero =>
    intro k hk stk vals sts good hsk hv hs
    obtain ⟨t, v1', s1', a1, a2, a3, a4⟩ := hb code (pre ++ [(12, q)]) ([(5, q)] ++ post) lp cnt (by rw [hc]; simp) hlp (fun h => by omega) stk vals sts good (by omega)
    rw [hpl] at a2
    have hst := any_step (n := n) (lp := lp) (cnt := cnt) (x := b2i (D vals)) (stk := stk) (vals := v1') (sts := s1') (good := good) hc hql hq4 (by omega)
    rw [hpl] at hst
    have hDv : D (upE vals q (lo0 isSet + nI k)) = D vals := hd _ _ (fun i hi => by
      by_cases hiq : i = q
      · rw [hiq, hv]; simp [upE]
      · simp [upE, hiq])
    have hvq : v1' q = lo0 isSet + nI k := (a3 q (by omega)).trans hv
    have hnl : ¬ v1' q < hlast lp n q := by
      rw [hvq, hL, mor_lt hn (by omega)]
      omega
    refine ⟨t + 1, v1', s1', by omega, ?_, fun i hi => a3 i (by omega), fun i hi => a4 i (by omega)⟩
    have hres : vAny lp n cnt q (pre.length + 1 + c.length) (b2i (D vals)) stk v1' s1' good = (pre.length + 1 + c.length + 1, b2i (qfr isA (fun i => D (upE vals q (lo0 isSet + nI i))) k 0) :: stk, v1', s1', good) := by
      show _ = (_, b2i (D (upE vals q (lo0 isSet + nI k))) :: stk, v1', s1', good)
      rw [hDv]
      unfold vAny
      rw [hcq, hA, if_neg hnl]
      cases isA <;> cases D vals <;> simp [b2i]
    rw [hres] at hst
    exact a2.trans hst
  | succ j ih =>
    intro k hk stk vals sts good hsk hv hs
    obtain ⟨t, v1', s1', a1, a2, a3, a4⟩ := hb code (pre ++ [(12, q)]) ([(5, q)] ++ post) lp cnt (by rw [hc]; simp) hlp (fun h => by omega) stk vals sts good (by omega)
    rw [hpl] at a2
    have hst := any_step (n := n) (lp := lp) (cnt := cnt) (x := b2i (D vals)) (stk := stk) (vals := v1') (sts := s1') (good := good) hc hql hq4 (by omega)
    rw [hpl] at hst
    have hDv : D (upE vals q (lo0 isSet + nI k)) = D vals := hd _ _ (fun i hi => by
      by_cases hiq : i = q
      · rw [hiq, hv]; simp [upE]
      · simp [upE, hiq])
    have hvq : v1' q = lo0 isSet + nI k := (a3 q (by omega)).trans hv
    have hyl : v1' q < hlast lp n q := by
      rw [hvq, hL, mor_lt hn (by omega)]
      omega
    have hq0 : qfr isA (fun i => D (upE vals q (lo0 isSet + nI i))) k (j + 1) = if isA then D vals && qfr isA (fun i => D (upE vals q (lo0 isSet + nI i))) (k + 1) j else D vals || qfr isA (fun i => D (upE vals q (lo0 isSet + nI i))) (k + 1) j := by
      simp only [qfr, hDv]
    by_cases hdec : b2i (D vals) = (if isA then 0 else 1)
    · refine ⟨t + 1, v1', s1', ?_, ?_, fun i hi => a3 i (by omega), fun i hi => a4 i (by omega)⟩
      · have : (j + 1 + 1) * (T + 1) = (j + 1) * (T + 1) + (T + 1) := Nat.succ_mul _ _
        omega
      have hres : vAny lp n cnt q (pre.length + 1 + c.length) (b2i (D vals)) stk v1' s1' good = (pre.length + 1 + c.length + 1, b2i (qfr isA (fun i => D (upE vals q (lo0 isSet + nI i))) k (j + 1)) :: stk, v1', s1', good) := by
        rw [hq0]
        unfold vAny
        rw [hcq, hA, if_pos ⟨rfl, hdec⟩]
        cases isA <;> cases hD : D vals <;> simp_all [b2i]
      rw [hres] at hst
      exact a2.trans hst
    · have hres : vAny lp n cnt q (pre.length + 1 + c.length) (b2i (D vals)) stk v1' s1' good = (pre.length + 1, stk, upE v1' q (lo0 isSet + nI (k + 1)), s1', good) := by
        unfold vAny
        rw [hcq, hA, if_neg (fun h => hdec h.2), if_pos hyl, hvq, lo_succ, (a4 q (by omega)).trans hs]
        simp
      rw [hres] at hst
      obtain ⟨t2, v2', s2', b1, b2, b3, b4⟩ := ih (k + 1) (by omega) stk (upE v1' q (lo0 isSet + nI (k + 1))) s1' good hsk (by simp [upE]) ((a4 q (by omega)).trans hs)
      refine ⟨t + 1 + t2, v2', s2', ?_, ?_, fun i hi => (b3 i hi).trans (by rw [show upE v1' q (lo0 isSet + nI (k + 1)) i = v1' i from by simp [upE, Nat.ne_of_lt hi]]; exact a3 i (by omega)), fun i hi => (b4 i hi).trans (a4 i (by omega))⟩
      · have : (j + 1 + 1) * (T + 1) = (j + 1) * (T + 1) + (T + 1) := Nat.succ_mul _ _
        omega
      · have hsame : (fun i => D (upE (upE v1' q (lo0 isSet + nI (k + 1))) q (lo0 isSet + nI i))) = fun i => D (upE vals q (lo0 isSet + nI i)) := by
          funext i
          refine hd _ _ (fun x hx => ?_)
          by_cases hxq : x = q
          · simp [upE, hxq]
          · simp only [upE, if_neg hxq]
            exact a3 x hx
        rw [hsame] at b2
        have hval : qfr isA (fun i => D (upE vals q (lo0 isSet + nI i))) k (j + 1) = qfr isA (fun i => D (upE vals q (lo0 isSet + nI i))) (k + 1) j := by
          rw [hq0]
          cases isA <;> cases hD : D vals <;> simp_all [b2i]
        rw [hval]
        exact (a2.trans hst).trans b2
theorem cok_loop {n q hi : Nat} {isA isSet : Bool} {c : Od} {D : Ev → Bool} {lp2 : List (Bool × Bool)} (hn : n ≤ 4) (hq4 : q < 10000) (hqh : q + 1 ≤ hi) (hb : COK n c D (q + 1) hi lp2) (hf : lp2[q]? = some (isA, isSet)) (hd : ∀ e e' : Ev, (∀ j, j < q + 1 → e j = e' j) → D e = D e') :
    COK n ((12, q) :: c ++ [(5, q)]) (fun e => hqnt isA isSet n (fun z => D (upE e q z))) q hi lp2 := by
  intro code pre post lp cnt hc hlp hcn stk vals sts good hst
  have hcl : ((12, q) :: c ++ [(5, q)]).length = c.length + 2 := by simp
  rw [hcl] at hst
  have hql : q < lp.length := Nat.lt_of_lt_of_le (List.getElem?_eq_some_iff.mp hf).1 hlp.length_le
  have hS : lpS lp q = isSet := by unfold lpS; rw [pre_get hlp hf]
  have hat : code.getD pre.length (0, 0) = (12, q) := by
    rw [hc, List.getD_eq_getElem?_getD, List.append_assoc, List.getElem?_append_right (Nat.le_refl _)]
    simp
  have h0 : Rn code lp n cnt 1 (pre.length, stk, vals, sts, good) (pre.length + 1, stk, upE vals q (lo0 isSet + nI 0), (fun i => if i = q then pre.length + 1 else sts i), good) := by
    refine Rn.one (by rw [hc]; simp) (by show Okv lp (code.getD pre.length (0, 0)).1 (code.getD pre.length (0, 0)).2 stk; rw [hat]; show Okv lp 12 q stk; exact ⟨Nat.zero_le _, by omega, fun _ => hql, fun h => absurd h (by decide), by decide, fun h => absurd h (by decide), hq4⟩) ?_
    simp only [vStep, hat, hS]
    rw [show lo0 isSet + nI 0 = lo0 isSet from by rw [nI_0]; simp]
    rfl
  obtain ⟨t, v', s', a1, a2, a3, a4⟩ := loop_it hn (Nat.le_refl _) hb hf hd (code := code) (pre := pre) (post := post) (by rw [hc]; simp) hlp hcn hq4 (mor isSet n) 0 (by omega) stk (upE vals q (lo0 isSet + nI 0)) (fun i => if i = q then pre.length + 1 else sts i) good (by omega) (by simp [upE]) (by simp)
  have hsame : (fun i => D (upE (upE vals q (lo0 isSet + nI 0)) q (lo0 isSet + nI i))) = fun i => D (upE vals q (lo0 isSet + nI i)) := by
    funext i
    congr 1
    funext x
    simp only [upE]
    split <;> rfl
  rw [hsame] at a2
  have hlen : pre.length + ((12, q) :: c ++ [(5, q)]).length = pre.length + 1 + c.length + 1 := by simp; omega
  refine ⟨1 + t, v', s', ?_, by rw [hlen]; exact h0.trans a2, fun i hi => (a3 i hi).trans (by simp [upE, Nat.ne_of_lt hi]), fun i hi => (a4 i hi).trans (by simp [Nat.ne_of_lt hi])⟩
  have hm := mor_le (isSet := isSet) hn
  have h6 : 18 ^ (hi - q) = 18 ^ (hi - (q + 1)) * 18 := by rw [show hi - q = (hi - (q + 1)) + 1 by omega, Nat.pow_succ]
  have h7 : 0 < 18 ^ (hi - (q + 1)) := Nat.pow_pos (by decide)
  have h8 : ((12, q) :: c ++ [(5, q)]).length = c.length + 2 := by simp
  rw [h8, h6]
  generalize 18 ^ (hi - (q + 1)) = X at *
  have h9 : (mor isSet n + 1) * (c.length * X + 1) ≤ 17 * (c.length * X + 1) := Nat.mul_le_mul_right _ (by omega)
  have h10 : (c.length + 2) * (X * 18) = 18 * (c.length * X) + 36 * X := by
    rw [Nat.add_mul]
    have : c.length * (X * 18) = 18 * (c.length * X) := by rw [← Nat.mul_assoc, Nat.mul_comm]
    omega
  omega
