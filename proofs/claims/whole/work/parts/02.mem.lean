/-! The memory of both sides and of the law's own row, as plain functions: ints, references, longs by (cell, place); the kind and the length of a cell; how many cells there are, how many slots were made, and up to where cells may be made. -/
abbrev Mem : Type := (Nat → Nat → Int32) × (Nat → Nat → Option Nat) × (Nat → Nat → Int64) × (Nat → Nat) × (Nat → Nat) × Nat × Nat × (Nat → Nat)
def mI (M : Mem) : Nat → Nat → Int32 := M.1
def mP (M : Mem) : Nat → Nat → Option Nat := M.2.1
def mJ (M : Mem) : Nat → Nat → Int64 := M.2.2.1
def mK (M : Mem) : Nat → Nat := M.2.2.2.1
def mL (M : Mem) : Nat → Nat := M.2.2.2.2.1
def mS (M : Mem) : Nat := M.2.2.2.2.2.1
def mU (M : Mem) : Nat := M.2.2.2.2.2.2.1
def mC (M : Mem) : Nat → Nat := M.2.2.2.2.2.2.2
def fu {α : Type} (f : Nat → Nat → α) (a k : Nat) (v : α) : Nat → Nat → α := fun b j => if b = a ∧ j = k then v else f b j
def fz {α : Type} (f : Nat → Nat → α) (a : Nat) (v : α) : Nat → Nat → α := fun b j => if b = a then v else f b j
def setI (M : Mem) (a k : Nat) (v : Int32) : Mem := (fu M.1 a k v, M.2)
def setP (M : Mem) (a k : Nat) (v : Option Nat) : Mem := (M.1, fu M.2.1 a k v, M.2.2)
def setJ (M : Mem) (a k : Nat) (v : Int64) : Mem := (M.1, M.2.1, fu M.2.2.1 a k v, M.2.2.2)
/-- a new cell at the end: kind kd, length ln, sl slots, all its places 0 or null -/
def newC (M : Mem) (kd ln sl : Nat) : Mem := (fz M.1 (mS M) 0, fz M.2.1 (mS M) none, fz M.2.2.1 (mS M) 0, va_up (mK M) (mS M) kd, va_up (mL M) (mS M) ln, mS M + 1, mU M + sl, mC M)
theorem fu_eq {α : Type} (f : Nat → Nat → α) (a k : Nat) (v : α) : fu f a k v a k = v := by simp [fu]
theorem fu_ne {α : Type} (f : Nat → Nat → α) {a k b j : Nat} (v : α) (h : ¬ (b = a ∧ j = k)) : fu f a k v b j = f b j := by simp [fu, h]
theorem fu_row {α : Type} (f : Nat → Nat → α) {a k b : Nat} (v : α) (h : b ≠ a) : fu f a k v b = f b := by funext j; simp [fu, h]
theorem fz_row {α : Type} (f : Nat → Nat → α) {a b : Nat} (v : α) (h : b ≠ a) : fz f a v b = f b := by funext j; simp [fz, h]
theorem fz_eq {α : Type} (f : Nat → Nat → α) (a : Nat) (v : α) (j : Nat) : fz f a v a j = v := by simp [fz]
section MemSimp
variable (M : Mem) (a k : Nat)
theorem mI_setI (v : Int32) : mI (setI M a k v) = fu (mI M) a k v := rfl
theorem mP_setI (v : Int32) : mP (setI M a k v) = mP M := rfl
theorem mJ_setI (v : Int32) : mJ (setI M a k v) = mJ M := rfl
theorem mK_setI (v : Int32) : mK (setI M a k v) = mK M := rfl
theorem mL_setI (v : Int32) : mL (setI M a k v) = mL M := rfl
theorem mS_setI (v : Int32) : mS (setI M a k v) = mS M := rfl
theorem mU_setI (v : Int32) : mU (setI M a k v) = mU M := rfl
theorem mC_setI (v : Int32) : mC (setI M a k v) = mC M := rfl
theorem mI_setP (v : Option Nat) : mI (setP M a k v) = mI M := rfl
theorem mP_setP (v : Option Nat) : mP (setP M a k v) = fu (mP M) a k v := rfl
theorem mJ_setP (v : Option Nat) : mJ (setP M a k v) = mJ M := rfl
theorem mK_setP (v : Option Nat) : mK (setP M a k v) = mK M := rfl
theorem mL_setP (v : Option Nat) : mL (setP M a k v) = mL M := rfl
theorem mS_setP (v : Option Nat) : mS (setP M a k v) = mS M := rfl
theorem mU_setP (v : Option Nat) : mU (setP M a k v) = mU M := rfl
theorem mC_setP (v : Option Nat) : mC (setP M a k v) = mC M := rfl
theorem mI_setJ (v : Int64) : mI (setJ M a k v) = mI M := rfl
theorem mP_setJ (v : Int64) : mP (setJ M a k v) = mP M := rfl
theorem mJ_setJ (v : Int64) : mJ (setJ M a k v) = fu (mJ M) a k v := rfl
theorem mK_setJ (v : Int64) : mK (setJ M a k v) = mK M := rfl
theorem mL_setJ (v : Int64) : mL (setJ M a k v) = mL M := rfl
theorem mS_setJ (v : Int64) : mS (setJ M a k v) = mS M := rfl
theorem mU_setJ (v : Int64) : mU (setJ M a k v) = mU M := rfl
theorem mC_setJ (v : Int64) : mC (setJ M a k v) = mC M := rfl
variable (kd ln sl : Nat)
theorem mI_newC : mI (newC M kd ln sl) = fz (mI M) (mS M) 0 := rfl
theorem mP_newC : mP (newC M kd ln sl) = fz (mP M) (mS M) none := rfl
theorem mJ_newC : mJ (newC M kd ln sl) = fz (mJ M) (mS M) 0 := rfl
theorem mK_newC : mK (newC M kd ln sl) = va_up (mK M) (mS M) kd := rfl
theorem mL_newC : mL (newC M kd ln sl) = va_up (mL M) (mS M) ln := rfl
theorem mS_newC : mS (newC M kd ln sl) = mS M + 1 := rfl
theorem mU_newC : mU (newC M kd ln sl) = mU M + sl := rfl
theorem mC_newC : mC (newC M kd ln sl) = mC M := rfl
end MemSimp
/-- what a run of a method comes to: nothing (it isn't safe), or an answer, or the number of what is thrown, and the memory behind it -/
abbrev Rz : Type := Option ((Option Value ⊕ Nat) × Mem)
theorem rz_chk {c : Prop} [Decidable c] {X : Rz} {r : (Option Value ⊕ Nat) × Mem} (h : (if c then X else none) = some r) : c ∧ X = some r := by
  by_cases hc : c
  · rw [if_pos hc] at h; exact ⟨hc, h⟩
  · rw [if_neg hc] at h; cases h
theorem rz_br {c : Prop} [Decidable c] {X Y : Rz} {r : (Option Value ⊕ Nat) × Mem} (h : (if c then X else Y) = some r) : (c ∧ X = some r) ∨ (¬ c ∧ Y = some r) := by
  by_cases hc : c
  · rw [if_pos hc] at h; exact Or.inl ⟨hc, h⟩
  · rw [if_neg hc] at h; exact Or.inr ⟨hc, h⟩
/-- a reference that must not be null -/
def rzD (r : Option Nat) (k : Nat → Rz) : Rz := match r with
  | none => none
  | some a => k a
theorem rz_d {r : Option Nat} {k : Nat → Rz} {x : (Option Value ⊕ Nat) × Mem} (h : rzD r k = some x) : ∃ a, r = some a ∧ k a = some x := by
  cases r with
  | none => cases h
  | some a => exact ⟨a, rfl, h⟩
/-- a call: an answer goes on, what is thrown goes out -/
def rzC (c : Rz) (k : Option Value → Mem → Rz) : Rz := match c with
  | none => none
  | some (.inl v, M) => k v M
  | some (.inr x, M) => some (.inr x, M)
theorem rz_c {c : Rz} {k : Option Value → Mem → Rz} {x : (Option Value ⊕ Nat) × Mem} (h : rzC c k = some x) : ∃ r M, c = some (r, M) ∧ ((∃ v, r = .inl v ∧ k v M = some x) ∨ (∃ e, r = .inr e ∧ x = (.inr e, M))) := by
  rcases c with _ | ⟨v | e, M⟩
  · cases h
  · exact ⟨_, _, rfl, Or.inl ⟨v, rfl, h⟩⟩
  · exact ⟨_, _, rfl, Or.inr ⟨e, rfl, (Option.some.inj h).symm⟩⟩
/-- an answer that is an int; a reference; nothing -/
def rzI (v : Option Value) (k : Int32 → Rz) : Rz := match v with
  | some (.int x) => k x
  | _ => none
def rzP (v : Option Value) (k : Option Nat → Rz) : Rz := match v with
  | some .null => k none
  | some (.ref a) => k (some a)
  | _ => none
def rzV (v : Option Value) (k : Rz) : Rz := match v with
  | none => k
  | _ => none
theorem rz_i {v : Option Value} {k : Int32 → Rz} {x : (Option Value ⊕ Nat) × Mem} (h : rzI v k = some x) : ∃ y, v = some (.int y) ∧ k y = some x := by
  unfold rzI at h
  split at h
  · exact ⟨_, rfl, h⟩
  · cases h
theorem rz_p {v : Option Value} {k : Option Nat → Rz} {x : (Option Value ⊕ Nat) × Mem} (h : rzP v k = some x) : ∃ r, v = some (va_rf r) ∧ k r = some x := by
  unfold rzP at h
  split at h
  · exact ⟨none, rfl, h⟩
  · exact ⟨some _, rfl, h⟩
  · cases h
theorem rz_v {v : Option Value} {k : Rz} {x : (Option Value ⊕ Nat) × Mem} (h : rzV v k = some x) : v = none ∧ k = some x := by
  unfold rzV at h
  split at h
  · exact ⟨rfl, h⟩
  · cases h
