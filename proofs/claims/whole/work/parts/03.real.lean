/-! The heap holds the memory: what each kind of cell is. G: where the law's own cells begin, the heap as it was there, the numbers and slots of the kinds of objects, the kinds of arrays. -/
abbrev Gx : Type := Nat × Heap × va_G × (Nat → ClassId) × (Nat → Nat)
abbrev gZ (G : Gx) : Nat := G.1
abbrev gH (G : Gx) : Heap := G.2.1
abbrev gD (G : Gx) : va_G := G.2.2.1
abbrev gA (G : Gx) : Nat → ClassId := G.2.2.2.1
abbrev gC (G : Gx) : Nat → Nat := G.2.2.2.2
def fV (M : Mem) (a c k : Nat) : Value := bif fR c k then va_rf (mP M a k) else .int (mI M a k)
def aE (M : Mem) (kd a : Nat) : vp_A := if kd = 24 then (mL M a, .inr (.inl (mJ M a))) else if kd = 25 then (mL M a, .inr (.inr (.inr (.inr (mP M a))))) else (mL M a, .inl (mI M a))
def RealAt (D : va_G) (aC : Nat → ClassId) (M : Mem) (H : Heap) (a : Nat) : Prop :=
  (∀ (c : Nat) (r : vw_C), mK M a = c + 1 → hcCl[c]? = some r → t_OB a (D.1 c) r.2.2 (D.2 c) H (fV M a c)) ∧ (21 ≤ mK M a → H[a]? = some (vp_cell (aC (mK M a)) (aE M (mK M a) a)))
def Real (G : Gx) (M : Mem) (H : Heap) : Prop :=
  H.size = mS M ∧ gZ G ≤ mS M ∧ (∀ q : Nat, q < gZ G → H[q]? = (gH G)[q]?) ∧ ∀ a : Nat, mK M a ≠ 0 → gZ G ≤ a ∧ a < mS M ∧ RealAt (gD G) (gA G) M H a
/-- the most slots that may be made -/
def SLm : Nat := room_1.slots
theorem fV_row {M M' : Mem} {a c : Nat} (hI : mI M' a = mI M a) (hP : mP M' a = mP M a) : fV M' a c = fV M a c := by
  funext k
  simp only [fV, hI, hP]
theorem aE_row {M M' : Mem} {kd a : Nat} (hI : mI M' a = mI M a) (hP : mP M' a = mP M a) (hJ : mJ M' a = mJ M a) (hL : mL M' a = mL M a) : aE M' kd a = aE M kd a := by
  simp only [aE, hI, hP, hJ, hL]
theorem RealAt.kept {D : va_G} {aC : Nat → ClassId} {M M' : Mem} {H H' : Heap} {a : Nat} (h : RealAt D aC M H a) (hq : H'[a]? = H[a]?) (hK : mK M' a = mK M a) (hI : mI M' a = mI M a) (hP : mP M' a = mP M a) (hJ : mJ M' a = mJ M a) (hL : mL M' a = mL M a) : RealAt D aC M' H' a := by
  refine ⟨fun c r h1 h2 => ?_, fun h1 => ?_⟩
  · rw [fV_row hI hP]
    exact (h.1 c r (by rw [← hK]; exact h1) h2).kept hq
  · rw [aE_row hI hP hJ hL, hK, hq]
    exact h.2 (by rw [← hK]; exact h1)
/-- one cell has changed -/
theorem Real.upd {G : Gx} {M M' : Mem} {H H' : Heap} {a : Nat} (h : Real G M H) (ha : mK M a ≠ 0) (hs : H'.size = H.size) (ho : ∀ q : Nat, q ≠ a → H'[q]? = H[q]?)
    (hK : mK M' = mK M) (hL : mL M' = mL M) (hS : mS M' = mS M) (hI : ∀ b, b ≠ a → mI M' b = mI M b) (hP : ∀ b, b ≠ a → mP M' b = mP M b) (hJ : ∀ b, b ≠ a → mJ M' b = mJ M b)
    (hat : RealAt (gD G) (gA G) M' H' a) : Real G M' H' := by
  obtain ⟨h1, h2, h3, h4⟩ := h
  have ha1 := (h4 a ha).1
  refine ⟨by rw [hs, hS]; exact h1, by rw [hS]; exact h2, fun q hq => (ho q (by omega)).trans (h3 q hq), fun b hb => ?_⟩
  rw [hK] at hb
  obtain ⟨g1, g2, g3⟩ := h4 b hb
  refine ⟨g1, by rw [hS]; exact g2, ?_⟩
  by_cases hba : b = a
  · subst hba; exact hat
  · exact g3.kept (ho b hba) (by rw [hK]) (hI b hba) (hP b hba) (hJ b hba) (by rw [hL])
/-- one cell more -/
theorem Real.new {G : Gx} {M : Mem} {H H' : Heap} (h : Real G M H) (kd ln sl : Nat) (hs : H'.size = H.size + 1) (ho : ∀ q : Nat, q < H.size → H'[q]? = H[q]?)
    (hat : kd ≠ 0 → RealAt (gD G) (gA G) (newC M kd ln sl) H' (mS M)) : Real G (newC M kd ln sl) H' := by
  obtain ⟨h1, h2, h3, h4⟩ := h
  refine ⟨by rw [hs, h1, mS_newC], by rw [mS_newC]; omega, fun q hq => (ho q (by omega)).trans (h3 q hq), fun b hb => ?_⟩
  rw [mK_newC] at hb
  by_cases hba : b = mS M
  · subst hba
    rw [va_up_self] at hb
    exact ⟨h2, by rw [mS_newC]; omega, hat hb⟩
  · rw [va_up_ne _ _ hba] at hb
    obtain ⟨g1, g2, g3⟩ := h4 b hb
    refine ⟨g1, by rw [mS_newC]; omega, g3.kept (ho b (by omega)) (by rw [mK_newC, va_up_ne _ _ hba]) (by rw [mI_newC, fz_row _ _ hba]) (by rw [mP_newC, fz_row _ _ hba]) (by rw [mJ_newC, fz_row _ _ hba]) (by rw [mL_newC, va_up_ne _ _ hba])⟩
theorem Real.at {G : Gx} {M : Mem} {H : Heap} {a : Nat} (h : Real G M H) (hk : mK M a ≠ 0) : RealAt (gD G) (gA G) M H a := (h.2.2.2 a hk).2.2
theorem Real.obj {G : Gx} {M : Mem} {H : Heap} {a c : Nat} {r : vw_C} (h : Real G M H) (hk : mK M a = c + 1) (hc : hcCl[c]? = some r) : t_OB a ((gD G).1 c) r.2.2 ((gD G).2 c) H (fV M a c) :=
  (h.at (by rw [hk]; exact Nat.succ_ne_zero c)).1 c r hk hc
theorem Real.arr {G : Gx} {M : Mem} {H : Heap} {a : Nat} (kd : Nat) (h : Real G M H) (hk : mK M a = kd) (h21 : 21 ≤ kd) : H[a]? = some (vp_cell ((gA G) kd) (aE M kd a)) := by
  have h1 := (h.at (by rw [hk]; omega)).2 (by rw [hk]; exact h21)
  rw [hk] at h1
  exact h1
theorem Real.lo {G : Gx} {M : Mem} {H : Heap} {a : Nat} (h : Real G M H) (hk : mK M a ≠ 0) : gZ G ≤ a := (h.2.2.2 a hk).1
theorem fV_setI {M : Mem} {a c k : Nat} {v : Int32} (hr : fR c k = false) : fV (setI M a k v) a c = updV (fV M a c) k (.int v) := by
  funext j
  by_cases hj : j = k
  · subst hj; simp [fV, updV, hr, mI_setI, fu]
  · simp [fV, updV, hj, mI_setI, mP_setI, fu]
theorem fV_setP {M : Mem} {a c k : Nat} {v : Option Nat} (hr : fR c k = true) : fV (setP M a k v) a c = updV (fV M a c) k (va_rf v) := by
  funext j
  by_cases hj : j = k
  · subst hj; simp [fV, updV, hr, mP_setP, fu]
  · simp [fV, updV, hj, mI_setP, mP_setP, fu]
/-- the memory, the places written, the cells and slots made since the method's start M0 -/
def RL (G : Gx) (M0 M : Mem) (H : Heap) (locs : List Loc) (cells slots : Nat) : Prop :=
  Real G M H ∧ (∀ q ∈ locs, gZ G ≤ q.base) ∧ cells + mS M0 = mS M ∧ slots + mU M0 = mU M ∧ mC M = gC G ∧ mS M ≤ mC M 0 ∧ mU M ≤ SLm
theorem RL.put {G : Gx} {M0 M M' : Mem} {H H' : Heap} {locs : List Loc} {cells slots a i : Nat} (h : RL G M0 M H locs cells slots) (ha : gZ G ≤ a) (hS : mS M' = mS M) (hU : mU M' = mU M) (hC : mC M' = mC M) (hR : Real G M' H') : RL G M0 M' H' (locs ++ [⟨a, i⟩]) cells slots :=
  ⟨hR, t_lc (free := fun q => gZ G ≤ q) h.2.1 ha, by rw [hS]; exact h.2.2.1, by rw [hU]; exact h.2.2.2.1, by rw [hC]; exact h.2.2.2.2.1, by rw [hS, hC]; exact h.2.2.2.2.2.1, by rw [hU]; exact h.2.2.2.2.2.2⟩
