/-! write, in both -/
def rb (l : Int64) (x : Int32) : Int32 := (((l >>> ((8 * x).toInt64 &&& 63)) &&& 255).toInt32)
def cb (l : Int64) (x : Int32) : Int32 := ((((l.toUInt64 >>> ((8 * x).toInt64.toUInt64 &&& Int64.toUInt64 63)).toInt64).toInt32) &&& 255)
theorem bt_hi : ∀ i, i < 32 → 8 ≤ i → (255#32).getLsbD i = false := by decide
theorem bt_eq (v : BitVec 64) (s : Nat) (hs : s ≤ 56) {i : Nat} (hi : i < 32) : ((BitVec.signExtend 32 (v.sshiftRight s)).getLsbD i && (255#32).getLsbD i) = ((BitVec.signExtend 32 (v >>> s)).getLsbD i && (255#32).getLsbD i) := by
  by_cases h8 : 8 ≤ i
  · rw [bt_hi i hi h8, Bool.and_false, Bool.and_false]
  · have h1 : ¬ 64 ≤ i := by omega
    have h2 : i < 64 := by omega
    have h3 : s + i < 64 := by omega
    rw [BitVec.getLsbD_signExtend, BitVec.getLsbD_signExtend, BitVec.getLsbD_sshiftRight, BitVec.getLsbD_ushiftRight]
    simp [hi, h1, h2, h3]
theorem by0 (l : Int64) : rb l (nI 0) = cb l (nI 0) := by
  unfold rb cb
  rw [show (8 * nI 0).toInt64 &&& 63 = 0 from by decide, show (8 * nI 0).toInt64.toUInt64 &&& Int64.toUInt64 63 = 0 from by decide]
  apply Int32.toBitVec_inj.mp
  apply BitVec.eq_of_getLsbD_eq
  intro i hi
  simp
  
theorem by1 (l : Int64) : rb l (nI 1) = cb l (nI 1) := by
  unfold rb cb
  rw [show (8 * nI 1).toInt64 &&& 63 = 8 from by decide, show (8 * nI 1).toInt64.toUInt64 &&& Int64.toUInt64 63 = 8 from by decide]
  apply Int32.toBitVec_inj.mp
  apply BitVec.eq_of_getLsbD_eq
  intro i hi
  simp
  try exact bt_eq l.toBitVec 8 (by decide) hi
theorem by2 (l : Int64) : rb l (nI 2) = cb l (nI 2) := by
  unfold rb cb
  rw [show (8 * nI 2).toInt64 &&& 63 = 16 from by decide, show (8 * nI 2).toInt64.toUInt64 &&& Int64.toUInt64 63 = 16 from by decide]
  apply Int32.toBitVec_inj.mp
  apply BitVec.eq_of_getLsbD_eq
  intro i hi
  simp
  try exact bt_eq l.toBitVec 16 (by decide) hi
theorem by3 (l : Int64) : rb l (nI 3) = cb l (nI 3) := by
  unfold rb cb
  rw [show (8 * nI 3).toInt64 &&& 63 = 24 from by decide, show (8 * nI 3).toInt64.toUInt64 &&& Int64.toUInt64 63 = 24 from by decide]
  apply Int32.toBitVec_inj.mp
  apply BitVec.eq_of_getLsbD_eq
  intro i hi
  simp
  try exact bt_eq l.toBitVec 24 (by decide) hi
theorem by4 (l : Int64) : rb l (nI 4) = cb l (nI 4) := by
  unfold rb cb
  rw [show (8 * nI 4).toInt64 &&& 63 = 32 from by decide, show (8 * nI 4).toInt64.toUInt64 &&& Int64.toUInt64 63 = 32 from by decide]
  apply Int32.toBitVec_inj.mp
  apply BitVec.eq_of_getLsbD_eq
  intro i hi
  simp
  try exact bt_eq l.toBitVec 32 (by decide) hi
theorem by5 (l : Int64) : rb l (nI 5) = cb l (nI 5) := by
  unfold rb cb
  rw [show (8 * nI 5).toInt64 &&& 63 = 40 from by decide, show (8 * nI 5).toInt64.toUInt64 &&& Int64.toUInt64 63 = 40 from by decide]
  apply Int32.toBitVec_inj.mp
  apply BitVec.eq_of_getLsbD_eq
  intro i hi
  simp
  try exact bt_eq l.toBitVec 40 (by decide) hi
theorem by6 (l : Int64) : rb l (nI 6) = cb l (nI 6) := by
  unfold rb cb
  rw [show (8 * nI 6).toInt64 &&& 63 = 48 from by decide, show (8 * nI 6).toInt64.toUInt64 &&& Int64.toUInt64 63 = 48 from by decide]
  apply Int32.toBitVec_inj.mp
  apply BitVec.eq_of_getLsbD_eq
  intro i hi
  simp
  try exact bt_eq l.toBitVec 48 (by decide) hi
theorem by7 (l : Int64) : rb l (nI 7) = cb l (nI 7) := by
  unfold rb cb
  rw [show (8 * nI 7).toInt64 &&& 63 = 56 from by decide, show (8 * nI 7).toInt64.toUInt64 &&& Int64.toUInt64 63 = 56 from by decide]
  apply Int32.toBitVec_inj.mp
  apply BitVec.eq_of_getLsbD_eq
  intro i hi
  simp
  try exact bt_eq l.toBitVec 56 (by decide) hi
theorem byt_eq (l : Int64) : ∀ p, p < 8 → rb l (nI p) = cb l (nI p)
  | 0, _ => by0 l
  | 1, _ => by1 l
  | 2, _ => by2 l
  | 3, _ => by3 l
  | 4, _ => by4 l
  | 5, _ => by5 l
  | 6, _ => by6 l
  | 7, _ => by7 l
  | p + 8, h => absurd h (by omega)
/-- the codes of a long -/
def byt (l : Int64) (p : Nat) : Nat := (cb l (nI p)).toBitVec.toNat
theorem byt_lt (l : Int64) (p : Nat) : byt l p < 256 := by
  unfold byt cb
  rw [Int32.toBitVec_and, BitVec.toNat_and]
  exact Nat.lt_of_le_of_lt Nat.and_le_right (by decide)
theorem byt_c (l : Int64) (p : Nat) : cb l (nI p) = nI (byt l p) := (nI_tb _).symm
theorem byt_r (l : Int64) {p : Nat} (hp : p < 8) : rb l (nI p) = nI (byt l p) := (byt_eq l p hp).trans (byt_c l p)
/-- the codes from p on, without the zeros -/
def cds (f : Nat → Nat) : Nat → Nat → List Nat
  | _, 0 => []
  | p, j + 1 => if f p = 0 then cds f (p + 1) j else f p :: cds f (p + 1) j
/-- all of them may be written -/
def cgd (f : Nat → Nat) : Nat → Nat → Bool
  | _, 0 => true
  | p, j + 1 => (decide (f p = 0) || (decide (32 ≤ f p) && decide (f p ≤ 126))) && cgd f (p + 1) j
theorem cds_le (f : Nat → Nat) : ∀ j p, (cds f p j).length ≤ j
  | 0, p => Nat.le_refl _
  | j + 1, p => by
    have := cds_le f j (p + 1)
    unfold cds
    split
    · omega
    · simp only [List.length_cons]; omega
theorem cds_ok (f : Nat → Nat) : ∀ j p, cgd f p j = true → ∀ x ∈ cds f p j, 32 ≤ x ∧ x ≤ 126
  | 0, p, _, x, hx => by cases hx
  | j + 1, p, h, x, hx => by
    unfold cgd at h
    rw [Bool.and_eq_true] at h
    unfold cds at hx
    split at hx
    · exact cds_ok f j (p + 1) h.2 x hx
    · rename_i hp
      rcases List.mem_cons.mp hx with rfl | hx
      · have h1 := h.1
        simp [hp] at h1
        exact h1
      · exact cds_ok f j (p + 1) h.2 x hx
def wOk (l : Int64) (txt : List Nat) : Bool := cgd (byt l) 0 8 && decide (txt.length + (cds (byt l) 0 8).length ≤ 120)
def wTx (l : Int64) (txt : List Nat) : List Nat := if wOk l txt then txt ++ cds (byt l) 0 8 else txt
