/-! formulas: their orders come to what they mean -/
def KOK (n : Nat) (y : FvT) : Prop := ∀ isA isSet i q B, y.1.2.2 = some (isA, isSet, i, q, B) → ∃ c, y.1.1 = (12, q) :: c ++ [(5, q)] ∧ COK n c (B n) (q + 1) y.2.length y.2 ∧ y.2[q]? = some (isA, isSet) ∧ (∀ e e' : Ev, (∀ j, j < q + 1 → e j = e' j) → B n e = B n e') ∧ (∀ e, y.1.2.1 n e = hqnt isA isSet n (fun z => B n (upE e q z))) ∧ q + 1 ≤ y.2.length
theorem kok_none {n : Nat} {c : Od} {D : DF} {lp : List (Bool × Bool)} : KOK n ((c, D, none), lp) := fun _ _ _ _ _ h => by cases h
theorem dep_lt {b : Bd} {D : DF} {lo n : Nat} (h : DpF b [] D) (hb : ∀ v q, b v = some q → q < lo) (e e' : Ev) (he : ∀ q, q < lo → e q = e' q) : D n e = D n e' := h n e e' (fun v q hv => he q (hb v q hv))
theorem pF_ok {n : Nat} (hn : n ≤ 4) : ∀ (k w : Nat) (acc : FvT) (d : Nat) (b : Bd) (ts : List Nat) (y : FvT × List Nat), pF k w acc d b ts = some y → ∀ lo, lo ≤ acc.2.length → lo ≤ 4 → (w < 3 → lo = acc.2.length) → (∀ v q, b v = some q → q < lo) → (3 ≤ w → COK n acc.1.1 (acc.1.2.1 n) lo acc.2.length acc.2 ∧ KOK n acc ∧ 1 ≤ acc.1.1.length) → acc.2.length ≤ 4 →
    acc.2 <+: y.1.2 ∧ COK n y.1.1.1 (y.1.1.2.1 n) lo y.1.2.length y.1.2 ∧ KOK n y.1 ∧ 1 ≤ y.1.1.1.length ∧ y.1.2.length ≤ 4 := by
  intro k
  induction k with
  | zero => intro w acc d b ts y h; cases h
  | succ k ih =>
    intro w acc d b ts y h lo hlo hlo4 hlow hbr hacc hac4
    have hb4 : ∀ v q, b v = some q → q < 4 := fun v q hv => Nat.lt_of_lt_of_le (hbr v q hv) hlo4
    unfold pF at h
    split at h
    · have hl0 : lo = acc.2.length := hlow (by omega)
      split at h
      · cases ts with
        | nil => cases h
        | cons c r =>
          simp only at h
          split at h
          · obtain ⟨z, h1, h2⟩ := Option.bind_eq_some_iff.mp h
            cases h2
            obtain ⟨a1, a2, a3, a4, a5⟩ := ih _ _ _ _ _ _ h1 lo hlo hlo4 (fun _ => hl0) hbr (by omega) hac4
            exact ⟨a1, cok_not a2, kok_none, len1, a5⟩
          · split at h
            · split at h
              · split at h
                · cases h
                · obtain ⟨i, g1, g2⟩ := Option.bind_eq_some_iff.mp h
                  obtain ⟨z, h1, h2⟩ := Option.bind_eq_some_iff.mp g2
                  cases h2
                  have hbr' : ∀ v q, (if v = i then some acc.2.length else b v) = some q → q < lo + 1 := fun v q hv => by
                    split at hv
                    · cases hv; omega
                    · have := hbr v q hv; omega
                  obtain ⟨a1, a2, a3, a4, a5⟩ := ih _ _ _ _ _ _ h1 (lo + 1) (by simp; omega) (by omega) (fun _ => by simp; omega) hbr' (by omega) (by simp; omega)
                  have hdp := pF_dep _ _ _ _ _ _ _ h1 (by omega)
                  have hf : z.1.2[lo]? = some (decide (c = 65), decide (3 ≤ i)) := by
                    obtain ⟨sfx, hs⟩ := a1
                    rw [← hs, hl0]
                    simp
                  have hlen : lo + 1 ≤ z.1.2.length := by
                    obtain ⟨sfx, hs⟩ := a1
                    rw [← hs, hl0]
                    simp
                  have hd : ∀ e e' : Ev, (∀ j, j < lo + 1 → e j = e' j) → z.1.1.2.1 n e = z.1.1.2.1 n e' := fun e e' he => dep_lt hdp hbr' e e' he
                  have hck := cok_loop hn (by omega) hlen a2 hf hd
                  refine ⟨List.IsPrefix.trans ⟨_, rfl⟩ a1, ?_, ?_, by simp, a5⟩
                  · rw [hl0] at hck ⊢
                    exact hck
                  · intro isA isSet i' q B hk
                    cases hk
                    refine ⟨z.1.1.1, rfl, ?_, ?_, ?_, fun e => rfl, ?_⟩
                    · rw [hl0] at a2; exact a2
                    · rw [hl0] at hf; exact hf
                    · rw [hl0] at hd; exact hd
                    · rw [hl0] at hlen; exact hlen
              · cases h
            · split at h
              · obtain ⟨z, h1, h2⟩ := Option.bind_eq_some_iff.mp h
                obtain ⟨e1, e2⟩ := cx_some h2
                obtain ⟨a1, a2, a3, a4, a5⟩ := ih _ _ _ _ _ _ h1 lo hlo hlo4 (fun _ => hl0) hbr (by omega) hac4
                rw [e1]
                exact ⟨a1, a2, kok_none, a4, a5⟩
              · split at h
                · obtain ⟨z, h1, h2⟩ := Option.bind_eq_some_iff.mp h
                  cases h2
                  exact ⟨List.prefix_refl _, cok_of ((pB_ind (so_cl hb4) h1).2 n), kok_none, (pB_ind (so_cl hb4) h1).1, hac4⟩
                · obtain ⟨z, h1, h2⟩ := Option.bind_eq_some_iff.mp h
                  cases h2
                  exact ⟨List.prefix_refl _, cok_of ((pC_ind (so_cl hb4) h1).2 n), kok_none, (pC_ind (so_cl hb4) h1).1, hac4⟩
      · cases h
    · split at h
      · have hl0 : lo = acc.2.length := hlow (by omega)
        obtain ⟨z, h1, h2⟩ := Option.bind_eq_some_iff.mp h
        obtain ⟨a1, a2, a3, a4, a5⟩ := ih _ _ _ _ _ _ h1 lo hlo hlo4 (fun _ => hl0) hbr (by omega) hac4
        obtain ⟨b1, b2, b3, b4⟩ := ih _ _ _ _ _ _ h2 lo (by have := a1.length_le; omega) hlo4 (by omega) hbr (fun _ => ⟨a2, a3, a4⟩) a5
        exact ⟨a1.trans b1, b2, b3, b4⟩
      · split at h
        · have hl0 : lo = acc.2.length := hlow (by omega)
          obtain ⟨z, h1, h2⟩ := Option.bind_eq_some_iff.mp h
          obtain ⟨a1, a2, a3, a4, a5⟩ := ih _ _ _ _ _ _ h1 lo hlo hlo4 (fun _ => hl0) hbr (by omega) hac4
          obtain ⟨b1, b2, b3, b4⟩ := ih _ _ _ _ _ _ h2 lo (by have := a1.length_le; omega) hlo4 (by omega) hbr (fun _ => ⟨a2, a3, a4⟩) a5
          exact ⟨a1.trans b1, b2, b3, b4⟩
        · have hw : 3 ≤ w := by omega
          obtain ⟨hc1, hc2, hc3⟩ := hacc hw
          split at h
          · cases ts with
            | nil => cases h; exact ⟨List.prefix_refl _, hc1, hc2, hc3, hac4⟩
            | cons c r =>
              simp only at h
              split at h
              · obtain ⟨z, h1, h2⟩ := Option.bind_eq_some_iff.mp h
                obtain ⟨a1, a2, a3, a4, a5⟩ := ih _ _ _ _ _ _ h1 acc.2.length (Nat.le_refl _) hac4 (fun _ => rfl) (fun v q hv => Nat.lt_of_lt_of_le (hbr v q hv) hlo) (by omega) hac4
                have hdp := pF_dep _ _ _ _ _ _ _ h1 (by omega)
                have hbin := cok_bin (g := fun x y => x && y) (w := 2) hlo a1.length_le a1 hc1 a2 (fun e e' he => dep_lt hdp hbr e e' he) hc3 (by decide) (by decide) ⟨by decide, by decide, by decide, by decide⟩ (fun x y vals stk => by cases x <;> cases y <;> rfl)
                obtain ⟨b1, b2, b3, b4⟩ := ih _ _ _ _ _ _ h2 lo (by have := a1.length_le; show lo ≤ z.1.2.length; omega) hlo4 (by omega) hbr (fun _ => ⟨hbin, kok_none, len1⟩) a5
                exact ⟨a1.trans b1, b2, b3, b4⟩
              · cases h; exact ⟨List.prefix_refl _, hc1, hc2, hc3, hac4⟩
          · cases ts with
            | nil => cases h; exact ⟨List.prefix_refl _, hc1, hc2, hc3, hac4⟩
            | cons c r =>
              simp only at h
              split at h
              · obtain ⟨z, h1, h2⟩ := Option.bind_eq_some_iff.mp h
                obtain ⟨a1, a2, a3, a4, a5⟩ := ih _ _ _ _ _ _ h1 acc.2.length (Nat.le_refl _) hac4 (fun _ => rfl) (fun v q hv => Nat.lt_of_lt_of_le (hbr v q hv) hlo) (by omega) hac4
                have hdp := pF_dep _ _ _ _ _ _ _ h1 (by omega)
                have hbin := cok_bin (g := fun x y => x || y) (w := 1) hlo a1.length_le a1 hc1 a2 (fun e e' he => dep_lt hdp hbr e e' he) hc3 (by decide) (by decide) ⟨by decide, by decide, by decide, by decide⟩ (fun x y vals stk => by cases x <;> cases y <;> rfl)
                obtain ⟨b1, b2, b3, b4⟩ := ih _ _ _ _ _ _ h2 lo (by have := a1.length_le; show lo ≤ z.1.2.length; omega) hlo4 (by omega) hbr (fun _ => ⟨hbin, kok_none, len1⟩) a5
                exact ⟨a1.trans b1, b2, b3, b4⟩
              · cases h; exact ⟨List.prefix_refl _, hc1, hc2, hc3, hac4⟩
/-- the loop 0, counting -/
theorem loop_cnt {n hi T : Nat} {isA isSet : Bool} {c : Od} {D : Ev → Bool} {lp2 : List (Bool × Bool)} (hn : n ≤ 4) (hT : c.length * 18 ^ (hi - 1) ≤ T) (hb : COK n c D 1 hi lp2) (hf : lp2[0]? = some (isA, isSet)) (hd : ∀ e e' : Ev, (∀ j, j < 1 → e j = e' j) → D e = D e')
    {code post : Od} {lp : List (Bool × Bool)} (hc : code = [(12, 0)] ++ (c ++ [(5, 0)]) ++ post) (hlp : lp2 <+: lp) : ∀ (j k : Nat), k + j = mor isSet n → ∀ (stk : List Int32) (vals : Ev) (sts : Nat → Nat) (good : Nat), stk.length + c.length + 2 ≤ 255 → vals 0 = lo0 isSet + nI k → sts 0 = 1 →
    ∃ (t : Nat) (vals' : Ev) (sts' : Nat → Nat) (x : Int32), t ≤ (j + 1) * (T + 1) ∧ Rn code lp n true t (1, stk, vals, sts, nI good) (1 + c.length + 1, x :: stk, vals', sts', nI (good + qcn (fun i => D (upE vals 0 (lo0 isSet + nI i))) k j)) := by
  have hA : lpA lp 0 = isA := by unfold lpA; rw [pre_get hlp hf]
  have hS : lpS lp 0 = isSet := by unfold lpS; rw [pre_get hlp hf]
  have hL : hlast lp n 0 = if isSet then hfull n else 8 := by unfold hlast; rw [hS]
  have hql : 0 < lp.length := Nat.lt_of_lt_of_le (List.getElem?_eq_some_iff.mp hf).1 hlp.length_le
  intro j
  induction j with
  | zero =>
    intro k hk stk vals sts good hsk hv hs
    obtain ⟨t, v1', s1', a1, a2, a3, a4⟩ := hb code [(12, 0)] ([(5, 0)] ++ post) lp true (by rw [hc]; simp) hlp (fun _ => Nat.le_refl _) stk vals sts (nI good) (by omega)
    have hst := any_step (n := n) (lp := lp) (cnt := true) (x := b2i (D vals)) (stk := stk) (vals := v1') (sts := s1') (good := nI good) hc hql (by decide) (by omega)
    have hDv : D (upE vals 0 (lo0 isSet + nI k)) = D vals := hd _ _ (fun i hi => by
      have : i = 0 := by omega
      subst this
      rw [hv]; simp [upE])
    have hvq : v1' 0 = lo0 isSet + nI k := (a3 0 (by omega)).trans hv
    have hnl : ¬ v1' 0 < hlast lp n 0 := by
      rw [hvq, hL, mor_lt hn (by omega)]
      omega
    have hres : vAny lp n true 0 ([(12, 0)].length + c.length) (b2i (D vals)) stk v1' s1' (nI good) = (1 + c.length + 1, (if isA then 1 else 0) :: stk, v1', s1', nI (good + qcn (fun i => D (upE vals 0 (lo0 isSet + nI i))) k 0)) := by
      show _ = (_, _, _, _, nI (good + if D (upE vals 0 (lo0 isSet + nI k)) then 1 else 0))
      rw [hDv]
      unfold vAny
      rw [hA, if_neg (fun h => by cases h.1), if_neg hnl, ← nI_add]
      cases D vals <;> simp [b2i] <;> rfl
    rw [hres] at hst
    exact ⟨t + 1, v1', s1', _, by omega, a2.trans hst⟩
  | succ j ih =>
    intro k hk stk vals sts good hsk hv hs
    obtain ⟨t, v1', s1', a1, a2, a3, a4⟩ := hb code [(12, 0)] ([(5, 0)] ++ post) lp true (by rw [hc]; simp) hlp (fun _ => Nat.le_refl _) stk vals sts (nI good) (by omega)
    have hst := any_step (n := n) (lp := lp) (cnt := true) (x := b2i (D vals)) (stk := stk) (vals := v1') (sts := s1') (good := nI good) hc hql (by decide) (by omega)
    have hDv : D (upE vals 0 (lo0 isSet + nI k)) = D vals := hd _ _ (fun i hi => by
      have : i = 0 := by omega
      subst this
      rw [hv]; simp [upE])
    have hvq : v1' 0 = lo0 isSet + nI k := (a3 0 (by omega)).trans hv
    have hyl : v1' 0 < hlast lp n 0 := by
      rw [hvq, hL, mor_lt hn (by omega)]
      omega
    have hres : vAny lp n true 0 ([(12, 0)].length + c.length) (b2i (D vals)) stk v1' s1' (nI good) = (1, stk, upE v1' 0 (lo0 isSet + nI (k + 1)), s1', nI (good + if D vals then 1 else 0)) := by
      unfold vAny
      rw [hA, if_neg (fun h => by cases h.1), if_pos hyl, hvq, lo_succ, (a4 0 (by omega)).trans hs]
      cases D vals <;> simp [b2i, nI_1]
    rw [hres] at hst
    obtain ⟨t2, v2', s2', x, b1, b2⟩ := ih (k + 1) (by omega) stk (upE v1' 0 (lo0 isSet + nI (k + 1))) s1' (good + if D vals then 1 else 0) hsk (by simp [upE]) ((a4 0 (by omega)).trans hs)
    have hsame : (fun i => D (upE (upE v1' 0 (lo0 isSet + nI (k + 1))) 0 (lo0 isSet + nI i))) = fun i => D (upE vals 0 (lo0 isSet + nI i)) := by
      funext i
      refine hd _ _ (fun x hx => ?_)
      have : x = 0 := by omega
      subst this
      simp [upE]
    rw [hsame] at b2
    have hq : qcn (fun i => D (upE vals 0 (lo0 isSet + nI i))) k (j + 1) = (if D vals then 1 else 0) + qcn (fun i => D (upE vals 0 (lo0 isSet + nI i))) (k + 1) j := by
      simp only [qcn, hDv]
    refine ⟨t + 1 + t2, v2', s2', x, ?_, ?_⟩
    · have : (j + 1 + 1) * (T + 1) = (j + 1) * (T + 1) + (T + 1) := Nat.succ_mul _ _
      omega
    · rw [hq, ← Nat.add_assoc]
      exact (a2.trans hst).trans b2
/-- a sentence run -/
theorem sent_run {ts : List Nat} {y : FvT} (hs : sent ts = some y) (hl : y.1.1.length ≤ 250) {n : Nat} (hn : n ≤ 4) (vals : Ev) (sts : Nat → Nat) : ∃ (t : Nat) (vals' : Ev) (sts' : Nat → Nat), t ≤ y.1.1.length * 18 ^ y.2.length ∧ Rn y.1.1 y.2 n false t (0, [], vals, sts, 0) (y.1.1.length, [b2i (y.1.2.1 n vals)], vals', sts', 0) := by
  unfold sent at hs
  obtain ⟨z, h1, h2⟩ := Option.bind_eq_some_iff.mp hs
  split at h2
  · cases h2
    obtain ⟨a1, a2, a3, -⟩ := pF_ok hn _ _ _ _ _ _ _ h1 0 (Nat.zero_le _) (by omega) (fun _ => rfl) (fun v q h => by cases h) (by omega) (by decide)
    obtain ⟨t, v', s', b1, b2, b3, b4⟩ := a2 z.1.1.1 [] [] z.1.2 false (by simp) (List.prefix_refl _) (fun h => by cases h) [] vals sts 0 (by simp only [List.length_nil]; omega)
    exact ⟨t, v', s', b1, by simpa using b2⟩
  · cases h2
theorem sent_cnt {ts : List Nat} {y : FvT} (hs : sent ts = some y) (hl : y.1.1.length ≤ 250) {n : Nat} (hn : n ≤ 4) {isA isSet : Bool} {i q : Nat} {B : DF} (hk : y.1.2.2 = some (isA, isSet, i, q, B)) (hq : q = 0) (vals : Ev) (sts : Nat → Nat) : ∃ (t : Nat) (vals' : Ev) (sts' : Nat → Nat) (x : Int32), t ≤ y.1.1.length * 18 ^ y.2.length ∧ Rn y.1.1 y.2 n true t (0, [], vals, sts, 0) (y.1.1.length, [x], vals', sts', nI (hcnt isSet n (fun z => B n (upE vals 0 z)))) := by
  subst hq
  unfold sent at hs
  obtain ⟨z, h1, h2⟩ := Option.bind_eq_some_iff.mp hs
  split at h2
  · cases h2
    obtain ⟨a1, a2, a3, -⟩ := pF_ok hn _ _ _ _ _ _ _ h1 0 (Nat.zero_le _) (by omega) (fun _ => rfl) (fun v q h => by cases h) (by omega) (by decide)
    obtain ⟨c, e1, e2, e3, e4, e5, e6⟩ := a3 _ _ _ _ _ hk
    rw [e1]
    have hS : lpS z.1.2 0 = isSet := by unfold lpS; rw [List.getD_eq_getElem?_getD, e3]; rfl
    have h0 : Rn ((12, 0) :: c ++ [(5, 0)]) z.1.2 n true 1 (0, [], vals, sts, 0) (1, [], upE vals 0 (lo0 isSet + nI 0), (fun i => if i = 0 then 1 else sts i), nI 0) := by
      refine Rn.one (by simp) (by show Okv z.1.2 12 0 []; exact ⟨Nat.zero_le _, Nat.zero_le _, fun _ => by omega, fun h => absurd h (by decide), by decide, fun h => absurd h (by decide), by decide⟩) ?_
      rw [show lo0 isSet + nI 0 = lo0 isSet from by rw [nI_0]; simp]
      unfold vStep
      rw [show (((12, 0) :: c ++ [(5, 0)] : Od)).getD 0 (0, 0) = (12, 0) from rfl]
      simp only [hS]
      rfl
    obtain ⟨t, v', s', x, b1, b2⟩ := loop_cnt hn (Nat.le_refl _) e2 e3 e4 (code := (12, 0) :: c ++ [(5, 0)]) (post := []) (by simp) (List.prefix_refl _) (mor isSet n) 0 (by omega) [] (upE vals 0 (lo0 isSet + nI 0)) (fun i => if i = 0 then 1 else sts i) 0 (by rw [e1] at hl; simp only [List.length_append, List.length_cons, List.length_nil] at hl ⊢; omega) (by simp [upE]) (by simp)
    have hsame : (fun i => B n (upE (upE vals 0 (lo0 isSet + nI 0)) 0 (lo0 isSet + nI i))) = fun i => B n (upE vals 0 (lo0 isSet + nI i)) := by
      funext i
      congr 1
      funext x
      simp only [upE]
      split <;> rfl
    rw [hsame, Nat.zero_add] at b2
    have hlen : ((12, 0) :: c ++ [(5, 0)] : Od).length = 1 + c.length + 1 := by simp; omega
    refine ⟨1 + t, v', s', x, ?_, by rw [hlen]; exact h0.trans b2⟩
    have hm := mor_le (isSet := isSet) hn
    have h6 : 18 ^ z.1.2.length = 18 ^ (z.1.2.length - 1) * 18 := by rw [← Nat.pow_succ]; congr 1; omega
    have h7 : 0 < 18 ^ (z.1.2.length - 1) := Nat.pow_pos (by decide)
    rw [hlen, h6]
    generalize 18 ^ (z.1.2.length - 1) = X at *
    have h9 : (mor isSet n + 1) * (c.length * X + 1) ≤ 17 * (c.length * X + 1) := Nat.mul_le_mul_right _ (by omega)
    have h10 : (1 + c.length + 1) * (X * 18) = 18 * (c.length * X) + 36 * X := by
      rw [show 1 + c.length + 1 = c.length + 2 by omega, Nat.add_mul]
      have : c.length * (X * 18) = 18 * (c.length * X) := by rw [← Nat.mul_assoc, Nat.mul_comm]
      omega
    omega
  · cases h2
