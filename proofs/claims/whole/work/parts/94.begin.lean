/-! the law from its start -/
theorem pl_no : ∀ (ps : List (Nat × Nat × Nat)) (a f : Nat), (∀ x ∈ ps, x.1 ≠ a) → pl ps a f = none
  | [], a, f, _ => rfl
  | x :: r, a, f, h => by
    have h1 := h x List.mem_cons_self
    unfold pl
    rw [if_neg (fun q => h1 q.1)]
    exact pl_no r a f (fun y hy => h y (List.mem_cons_of_mem _ hy))
def ksB : List (Nat × Nat) := ksA ++ [(24, 1)]
section LBe
variable {n z k0 : Nat} {M : Mem}
theorem lw_begin {R : Nat} (b : Bt z M ksB psA (uA + 1) k0) (hk : z + 28 + R ≤ k0) (hu : uA + 1 + 6 * R ≤ SLm) : LwI n z M [] none R := by
  have hl : ksB.length = 28 := by decide
  obtain ⟨h1, h2, h3, h4, h5, h6, h7⟩ := b
  rw [hl] at h1 h5 h6
  have hI : ∀ i, i < 28 → mI M (z + i) = fun _ => 0 := h5
  have hP : ∀ i f, i < 28 → mP M (z + i) f = (pl psA i f).map (fun b => z + b) := h6
  have hrow : ∀ r, (r = 5 ∨ r = 6) → ∀ j, mP M (z + r) j = none := fun r hr j => by
    rw [hP r j (by omega), pl_no psA r j (fun x hx q => ?_)]
    · rfl
    · have : ∀ x ∈ psA, x.1 ≠ 5 ∧ x.1 ≠ 6 := by decide
      have := this x hx
      omega
  have hrI : ∀ r, (r = 5 ∨ r = 6) → RowI (z + r) M := fun r hr => ⟨fun j a _ q => (by rw [hrow r hr j] at q; cases q), fun j j' a _ _ q _ => (by rw [hrow r hr j] at q; cases q)⟩
  refine ⟨⟨⟨⟨(h4 0 (1, 0) rfl).1, hP 0 0 (by decide), hP 0 2 (by decide), hP 0 3 (by decide), hP 0 5 (by decide)⟩, h4 1 (22, 120) rfl, ⟨(h4 2 (2, 0) rfl).1, hP 2 0 (by decide), hP 2 4 (by decide)⟩, h4 3 (22, 120) rfl, h4 4 (23, 6) rfl, h4 5 (25, 120) rfl, h4 6 (25, 120) rfl, ⟨(h4 7 (3, 0) rfl).1, hP 7 2 (by decide), (h4 8 (21, 6) rfl).1, (h4 8 (21, 6) rfl).2⟩, h4 9 (21, 5) rfl⟩, ⟨?_, by decide, fun i x hx => (by cases hx), fun x hx => (by cases hx)⟩, by omega, z + 5, z + 6, ⟨Or.inl ⟨rfl, rfl⟩, hP 2 5 (by decide), hP 2 6 (by decide), hrI 5 (Or.inl rfl), hrI 6 (Or.inr rfl), fun j j' a _ _ q => (by rw [hrow 5 (Or.inl rfl) j] at q; cases q)⟩, hP 0 4 (by decide)⟩, ⟨⟨(h4 10 (5, 0) rfl).1, fun x hx => ?_⟩, by omega, fun _ _ => 0, fun r hr => ?_, ⟨rfl, by decide, fun i x hx => (by cases hx), fun x hx => (by cases hx)⟩, ⟨fun _ => 0, ⟨by decide, by decide, by decide, by decide, by decide, by decide, fun j => (show (0 : Nat) < 10000 by decide)⟩, fun j _ _ => rfl⟩, rfl⟩, h4 27 (24, 1) rfl, by rw [h1, h3]; exact hk, by rw [h2]; exact hu⟩
  · have := congrFun (hI 0 (by decide)) 1
    exact this
  · have hall : ∀ x ∈ layL, pl psA 10 x.1 = some (10 + x.2.1) ∧ ksB[10 + x.2.1]? = some (x.2.2.1, x.2.2.2) := by decide
    obtain ⟨a1, a2⟩ := hall x hx
    have e := h4 _ _ a2
    rw [Nat.add_assoc]
    refine ⟨?_, e⟩
    rw [hP 10 x.1 (by decide), a1]
    rfl
  · rw [Nat.add_assoc]
    exact hI (10 + r) (by omega)
end LBe
theorem law_pure : LawPure := by
  intro sc N M hN hS
  obtain ⟨-, hu, hc⟩ := hS
  obtain ⟨z, hz⟩ : ∃ z, z = mS M := ⟨_, rfl⟩
  obtain ⟨k0, hk0⟩ : ∃ k0, k0 = z + 601024 := ⟨_, rfl⟩
  have b0 : Bt z M [] [] 0 k0 := ⟨by rw [← hz]; rfl, hu, by rw [hc, ← hz, hk0], fun i x hx => (by cases hx), fun i hi => absurd hi (Nat.not_lt_zero i), fun i f hi => absurd hi (Nat.not_lt_zero i), fun x hx => (by cases hx)⟩
  have hsl := slm_big
  unfold fL_law_0
  rw [if_pos (bt_al (sl := 0) b0 (by simp only [List.length_nil]; omega)), if_pos (show mU M + 6 ≤ SLm by rw [hu]; omega), rzM_e, ← hz]
  have b1 := bt_new b0 1 0 6
  obtain ⟨M1, i1, b2⟩ := I_hc (n := nF) (d := 1296) (by omega) b1
  have i1 : mR nF dF 0 [.ref z] (newC M 1 0 6) = some (.inl none, M1) := i1
  rw [i1, rzC_l, rzV_e]
  have hs1 : mS M1 = z + 10 := b2.1
  rw [if_pos (bt_al (sl := 0) b2 (by simp only [List.length_cons, List.length_nil]; omega)), if_pos (show mU M1 + 41 ≤ SLm by rw [b2.2.1]; omega), rzM_e]
  have b3 := bt_new b2 5 0 41
  obtain ⟨M2, i2, b4⟩ := I_mod (n := nF) (d := 1299) (by omega) b3
  have i2 : mR nF dF 65 [.ref (z + 10)] (newC M1 5 0 41) = some (.inl none, M2) := i2
  rw [hs1, i2, rzC_l, rzV_e]
  have hs2 : mS M2 = z + 27 := b4.1
  rw [show (1 : Int32).toNatClampNeg = 1 from rfl, if_pos (show ¬ (1 : Int32) < 0 by decide), if_pos (show 1 ≤ 1000 by decide), if_pos (bt_al (sl := 0) b4 (by simp only [List.length_cons, List.length_nil]; omega)), if_pos (show mU M2 + 1 ≤ SLm by rw [b4.2.1]; omega), rzM_e, hs2]
  have b5 := bt_new b4 24 1 1
  have b5 : Bt z (newC M2 24 1 1) ksB psA (uA + 1) k0 := b5
  have hlw : LwI nF z (newC M2 24 1 1) [] none (122 * 512) := lw_begin b5 (by omega) (by have : uA = 2425 := rfl; omega)
  exact law_loop (n := nF) (z := z) (D := 300) (d := dF) (sc := sc) (by decide) hN 512 0 nF _ [] none (by omega) (by omega) (by decide) hlw
