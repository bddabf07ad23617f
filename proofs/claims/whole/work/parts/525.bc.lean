/-! each A or E on the pile binds its variable -/
def BC : Pl → Bd → Prop
  | [], _ => True
  | x :: p, b => if x.1 = 5 then (b x.2.1).isSome = true ∧ BC p (fun j => if j = x.2.1 then x.2.2 else b j) else BC p b
def BCs (S : AS) : Prop := BC S.2.2.2.1 S.2.2.2.2.2.1
theorem bc_push {w : Nat} {v : Nat × Option Nat} {p : Pl} {b : Bd} (h5 : w ≠ 5) (h : BC p b) : BC ((w, v) :: p) b := by
  unfold BC
  rw [if_neg h5]
  exact h
theorem bc_setL {a a2 : Nat} (ha : a ≠ 5) (ha2 : a2 ≠ 5) {b : Bd} : ∀ (p : Pl) (c : Od), BC p b → BC (setL a a2 p c).1 b
  | [], c, h => h
  | x :: p, c, h => by
    by_cases hx : x.1 = a ∨ x.1 = a2
    · simp only [setL, if_pos hx]
      unfold BC at h
      rw [if_neg (by omega)] at h
      exact bc_setL ha ha2 p _ h
    · simp only [setL, if_neg hx]
      exact h
theorem bc_wOne : ∀ (p : Pl) (d : Nat) (c : Od) (b : Bd), BC p b → BC (wOneL p d c b).1 (wOneL p d c b).2.2.2
  | [], d, c, b, h => h
  | x :: p, d, c, b, h => by
    by_cases h3 : x.1 = 3
    · simp only [wOneL, if_pos h3]
      unfold BC at h
      rw [if_neg (by omega)] at h
      exact bc_wOne p _ _ _ h
    · by_cases h5 : x.1 = 5
      · simp only [wOneL, if_neg h3, if_pos h5]
        unfold BC at h
        rw [if_pos h5] at h
        exact bc_wOne p _ _ _ h.2
      · simp only [wOneL, if_neg h3, if_neg h5]
        exact h
theorem bc_wSin {b : Bd} : ∀ (p : Pl) (d : Nat) (c : Od), BC p b → BC (wSinL p d c).1 b
  | [], d, c, h => h
  | x :: p, d, c, h => by
    by_cases h9 : x.1 = 9
    · simp only [wSinL, if_pos h9]
      unfold BC at h
      rw [if_neg (by omega)] at h
      exact bc_wSin p _ _ h
    · simp only [wSinL, if_neg h9]
      exact h
theorem bc_tail {p : Pl} {b : Bd} {w : Nat} (h : BC p b) (ht : topP p = w) (h0 : w ≠ 0) (h5 : w ≠ 5) : BC p.tail b := by
  obtain ⟨x, r, rfl, hx⟩ := top_split ht h0
  unfold BC at h
  rw [if_neg (by omega)] at h
  exact h
section BCn
variable {ch d : Nat} {σ : Nat → Nat} {p : Pl} {c : Od} {b : Bd} {lp : List (Bool × Bool)}
theorem bc_Deep {w g : Nat} (h5 : w ≠ 5) (h : BC p b) : BCs (tDeep w g d σ p c b lp) := by
  unfold tDeep
  split
  · exact h
  · exact bc_push h5 h
theorem bc_WOne (h : BC p b) : BCs (tWOne d σ p c b lp) := bc_wOne p d c b h
theorem bc_AfterOne (h : BC p b) : BCs (tAfterOne ch d σ p c b lp) := by
  unfold tAfterOne
  split
  · exact bc_push (by decide) (bc_setL (by decide) (by decide) p c h)
  · split
    · exact bc_push (by decide) (bc_setL (by decide) (by decide) p c h)
    · split
      · rename_i h4
        exact bc_WOne (bc_tail (bc_setL (by decide) (by decide) p c h) h4.2 (by decide) (by decide))
      · exact bc_setL (a := 2) (a2 := 1) (by decide) (by decide) p c h
theorem bc_AfterPart (h : BC p b) : BCs (tAfterPart ch d σ p c b lp) := by
  unfold tAfterPart
  split
  · exact h
  · split
    · split
      · exact h
      · split
        · exact h
        · exact h
    · exact bc_AfterOne (bc_wOne p d _ b h)
theorem bc_Thing (h : BC p b) : BCs (tThing ch d σ p c b lp) := by
  unfold tThing
  split
  · exact h
  · split
    · exact bc_Deep (by decide) h
    · split
      · exact h
      · exact h
theorem bc_Part (h : BC p b) : BCs (tPart ch d σ p c b lp) := by
  unfold tPart
  split
  · exact h
  · exact bc_Thing h
theorem bc_Sum (h : BC p b) : BCs (tSum ch d σ p c b lp) := by
  unfold tSum
  split
  · exact h
  · exact bc_Part h
theorem bc_AfterNumber (h : BC p b) : BCs (tAfterNumber ch d σ p c b lp) := by
  unfold tAfterNumber
  split
  · exact h
  · split
    · exact h
    · split
      · exact h
      · exact bc_AfterPart h
theorem bc_WSin (h : BC p b) : BCs (tWSin d σ p c b lp) := by
  unfold tWSin
  split
  · rename_i h11
    exact bc_tail (bc_wSin p d c h) h11 (by decide) (by decide)
  · exact bc_wSin p d c h
theorem bc_Single (h : BC p b) : BCs (tSingle ch d σ p c b lp) := by
  unfold tSingle
  split
  · exact bc_Deep (by decide) h
  · split
    · exact bc_Deep (by decide) h
    · split
      · exact bc_WSin h
      · split
        · exact bc_WSin h
        · split
          · exact h
          · exact bc_WSin h
theorem bc_AfterSingle (h : BC p b) : BCs (tAfterSingle ch d σ p c b lp) := by
  have h87 : BC (setL 8 7 p c).1 b := bc_setL (by decide) (by decide) p c h
  unfold tAfterSingle
  split
  · exact bc_push (by decide) (bc_setL (by decide) (by decide) p c h)
  · split
    · exact bc_push (by decide) h87
    · split
      · rename_i h4
        exact bc_WSin (bc_tail h87 h4.2 (by decide) (by decide))
      · split
        · rename_i h6
          have ht := bc_tail h87 h6 (by decide) (by decide)
          split
          · split
            · exact h87
            · split
              · exact h87
              · exact h87
          · split
            · exact bc_WOne ht
            · exact ht
        · exact h87
theorem bc_One (h : BC p b) : BCs (tOne ch d σ p c b lp) := by
  unfold tOne
  split
  · exact bc_Deep (by decide) h
  · split
    · exact bc_Deep (by decide) h
    · split
      · exact h
      · split
        · exact bc_push (by decide) h
        · exact bc_Sum h
theorem bc_Bound (h : BC p b) : BCs (tBound ch d σ p c b lp) := by
  unfold tBound
  split
  · exact h
  · rename_i v hv
    show BC ((5, v, b v) :: p) _
    unfold BC
    rw [if_pos rfl]
    refine ⟨by simp, ?_⟩
    have hb : (fun j => if j = v then b v else if j = v then some lp.length else b j) = b := by
      funext j
      by_cases hj : j = v
      · rw [if_pos hj, hj]
      · rw [if_neg hj, if_neg hj]
    show BC p (fun j => if j = v then b v else if j = v then some lp.length else b j)
    rw [hb]
    exact h
theorem bc_Next {S : AS} (h : BCs S) : BCs (aNext S ch) := by
  unfold aNext
  split
  · exact bc_One h
  · split
    · exact bc_AfterOne h
    · split
      · exact bc_Bound h
      · split
        · exact bc_Sum h
        · split
          · exact bc_Part h
          · split
            · exact bc_AfterNumber h
            · split
              · exact bc_Thing h
              · split
                · exact bc_AfterPart h
                · split
                  · exact bc_Single h
                  · split
                    · exact bc_AfterSingle h
                    · exact h
end BCn
