/-! what holds at the law's own start -/
def lwm (i : Nat) {w : Cond} (h : tables_1[i]? = some w) : w ∈ lw_tbl := List.mem_append_right _ (List.mem_of_getElem? h)
theorem arr_of {args : Array Value} {s : State} {ty : FieldType} (h : (Cond.arrayClass ty).before args s = true) : ∃ cA : ClassId, ArrOfT s cA ty ∧ s.vm.findClass ("[" ++ ty.toString) = some cA := by
  obtain ⟨c, k, comp, h1, h2, h3⟩ := Cond.arrayClass_spec (o := none) (first := s) (idx := []) h
  exact ⟨c, fun n z => ⟨fun k h => (by cases h), k, h2, comp, h3⟩, h1⟩
theorem arr_ofN {args : Array Value} {s : State} {C : String} (h : (Cond.arrayOver (.object C)).before args s = true) : ∃ cA : ClassId, ArrOfT s cA (.object C) ∧ va_RA s cA (.object C) := by
  obtain ⟨comp, c, k, h1, h2, h3, h4, h5⟩ := Cond.arrayOver_spec (o := none) (first := s) (idx := []) h
  exact ⟨c, fun n z => ⟨fun k h => (by cases h), k, h3, comp, h4⟩, k, comp, h3, h4, h1, h5⟩
theorem kn_of {s : State} {args : Array Value} (hts : ∀ w ∈ lw_tbl, w.before args s = true) : ∃ D : va_G, ∀ (c : Nat) (q : vw_C), hcCl[c]? = some q → u_Kn s q.1 q.2.1 q.2.2 (D.1 c) (D.2 c) := by
  have h0 : ∀ c : Nat, ∃ x : ClassId × (Nat → Nat), ∀ q : vw_C, hcCl[c]? = some q → u_Kn s q.1 q.2.1 q.2.2 x.1 x.2 := by
    intro c
    cases hq : hcCl[c]? with
    | none => exact ⟨(0, fun _ => 0), fun q h => by cases h⟩
    | some q =>
      have hin : ∀ w ∈ u_ws q.1 q.2.1 q.2.2, w ∈ lw_tbl := fun w hw => (cuW c q hq w hw).1
      have hi : (Cond.instantiable q.1 q.2.2).before args s = true := by
        obtain ⟨h1, rfl⟩ := hc_lt hq
        have h2 : c = 0 ∨ c = 1 ∨ c = 2 ∨ c = 3 ∨ c = 4 := by omega
        rcases h2 with rfl | rfl | rfl | rfl | rfl
        · exact hts _ kn_H
        · exact hts _ kn_P
        · exact hts _ kn_O
        · exact hts _ kn_N
        · exact hts _ kn_M
      obtain ⟨cC, iS, h⟩ := u_known hts hin hi
      exact ⟨(cC, iS), fun q' h' => by cases h'; exact h⟩
  obtain ⟨f, hf⟩ := Classical.axiomOfChoice h0
  exact ⟨(fun c => (f c).1, fun c => (f c).2), fun c q hq => hf c q hq⟩
theorem stF_of {args : Array Value} {G : Gx} {s : State} {C n d : String} (hH : gH G = s.heap) (hZ : gZ G = s.heap.size) (hl : (Cond.laysStatic C n d).before args s = true) (h : (Cond.isRef (.static C n d)).before args s = true) : StF C n d G s := by
  obtain ⟨c, k, i, f, a, cell, h1, h2, h3, h4, h5, h6, h7, h8, h9⟩ := Cond.laysStatic_spec (o := none) (first := s) (idx := []) hl
  cases hv : (Term.static C n d).eval args s none [] s with
  | none => simp [Cond.before, Cond.holds, Cond.value, hv] at h
  | some w =>
    obtain ⟨hst', a', cell', ha', hcell', -, hslot⟩ := Term.static_spec h2 hv
    cases h4.symm.trans ha'
    cases h5.symm.trans hcell'
    have hw : w.isRef = true := by
      simp only [Cond.before, Cond.holds, Cond.value, hv] at h
      cases w <;> simp_all [Value.isRef]
    exact ⟨c, k, i, f, a, cell, w, h1, h2, h3, h4, by rw [hH]; exact h5, h6, h7, h8, h9, hslot, hw, by rw [hZ]; exact (Array.getElem?_eq_some_iff.mp h5).1⟩
theorem str_of {args : Array Value} {s : State} {own tx : String} {k : Nat} (h : (Cond.exactly (.string own k) "java/lang/String").before args s = true) (hr : (Cond.stringRef own k tx).before args s = true) : ∃ a : Nat, vk_R own k tx a s ∧ (Term.string own k).eval args s none [] s = some (.ref a) := by
  obtain ⟨a, c, cA, kA, q1, -⟩ := Cond.exactly_spec (args := args) (first := s) (o := none) (s := s) (idx := []) (t := .string own k) (cls := "java/lang/String") h
  exact ⟨a, vk_R.of hr q1, q1⟩
/-- the memory at the start -/
def StartM (M : Mem) : Prop := (∀ a, mK M a = 0) ∧ mU M = 0 ∧ mC M 0 = mS M + 601024
set_option maxHeartbeats 1000000 in
set_option maxRecDepth 10000 in
theorem start_ex {s : State} {args : Array Value} (hts : ∀ w ∈ lw_tbl, w.before args s = true) (hgv : (Jvm.Cond.and given_1 narrow_1).before args s = true) : ∃ (G : Gx) (M : Mem), Kst G s ∧ Real G M s.heap ∧ gZ G = s.heap.size ∧ gH G = s.heap ∧ mC M = gC G ∧ mS M = s.heap.size ∧ StartM M := by
  have hs := flat_of_before _ hgv
  obtain ⟨D, hD⟩ := kn_of hts
  obtain ⟨a21, i1, j1⟩ := arr_of (hts _ ka_int)
  obtain ⟨a22, i2, j2⟩ := arr_of (hts _ ka_char)
  obtain ⟨a23, i3, j3⟩ := arr_of (hts _ ka_boolean)
  obtain ⟨a24, i4, j4⟩ := arr_of (hts _ ka_long)
  have hao : (Cond.arrayOver (.object "HeadCount$Node")).before args s = true := hts _ (lwm 44 (by decide +kernel))
  obtain ⟨a25, i5, j5⟩ := arr_ofN hao
  obtain ⟨adK, adV, hS, hSe⟩ := vk_Sof (args := args) (s := s) (N := 1) (tm := fun _ => .string "HeadCount$Parser" 15) (len := [6]) (byt := [sVar]) (A := fun q => s.heap.size ≤ q) (fun i hi => by
      have : i = 0 := by omega
      subst this; decide) (fun i hi => hs _ (by decide +kernel)) (fun i hi => hs _ (by decide +kernel)) (fun i hi => hs _ (by decide +kernel)) (fun i hi => by
      have : i = 0 := by omega
      subst this
      exact hs _ (by decide +kernel)) (fun i hi j hj => by
      have : i = 0 := by omega
      subst this
      have hj6 : j < 6 := hj
      have h6 : j = 0 ∨ j = 1 ∨ j = 2 ∨ j = 3 ∨ j = 4 ∨ j = 5 := by omega
      rcases h6 with rfl | rfl | rfl | rfl | rfl | rfl <;> exact hs _ (by decide +kernel)) (fun i j hi hj hij => by omega) (fun a ha => by omega)
  obtain ⟨p1, r1, t1⟩ := str_of (own := "HeadCount$Parser") (k := 15) (tx := "ijkXYZ") (hs _ (by decide +kernel)) (hts _ (lwm 32 (by decide +kernel)))
  obtain ⟨p2, r2, t2⟩ := str_of (own := "HeadCount$World") (k := 9) (tx := "ijkXYZ") (hs _ (by decide +kernel)) (hts _ (lwm 80 (by decide +kernel)))
  obtain ⟨p3, r3, -⟩ := str_of (own := "HeadCount$Parser") (k := 154) (tx := "the text is no sentence") (hs _ (by decide +kernel)) (hts _ (lwm 202 (by decide +kernel)))
  obtain ⟨p4, r4, -⟩ := str_of (own := "HeadCount") (k := 70) (tx := "there is no sentence") (hs _ (by decide +kernel)) (hts _ (lwm 434 (by decide +kernel)))
  obtain ⟨p5, r5, -⟩ := str_of (own := "HeadCount") (k := 77) (tx := "no world has so many elements") (hs _ (by decide +kernel)) (hts _ (lwm 445 (by decide +kernel)))
  have hp1 : adK 0 = p1 := by
    have h9 := hSe 0 (by decide)
    rw [t1] at h9
    cases h9; rfl
  have hp2 : p2 = p1 := by
    have h9 : (Cond.eq (.string "HeadCount$Parser" 15) (.string "HeadCount$World" 9)).before args s = true := hs _ (by decide +kernel)
    simp only [Cond.before, Cond.holds, Cond.value, t1, t2] at h9
    exact (by simpa using h9 : p1 = p2).symm
  subst hp2
  subst hp1
  obtain ⟨kc, hkc⟩ : ∃ kc : Nat → Nat, kc = fun i => if i = 0 then s.heap.size + 601024 else if i = 1 then adK 0 else if i = 2 then p3 else if i = 3 then p4 else if i = 4 then p5 else adV 0 := ⟨_, rfl⟩
  have k0 : kc 0 = s.heap.size + 601024 := by rw [hkc]; rfl
  have k1 : kc 1 = adK 0 := by rw [hkc]; rfl
  have k2 : kc 2 = p3 := by rw [hkc]; rfl
  have k3 : kc 3 = p4 := by rw [hkc]; rfl
  have k4 : kc 4 = p5 := by rw [hkc]; rfl
  have k5 : kc 5 = adV 0 := by rw [hkc]; rfl
  obtain ⟨aC, haC⟩ : ∃ aC : Nat → ClassId, aC = fun i => if i = 21 then a21 else if i = 22 then a22 else if i = 23 then a23 else if i = 24 then a24 else a25 := ⟨_, rfl⟩
  have c1 : aC 21 = a21 := by rw [haC]; rfl
  have c2 : aC 22 = a22 := by rw [haC]; rfl
  have c3 : aC 23 = a23 := by rw [haC]; rfl
  have c4 : aC 24 = a24 := by rw [haC]; rfl
  have c5 : aC 25 = a25 := by rw [haC]; rfl
  refine ⟨(s.heap.size, s.heap, D, aC, kc), (fun _ _ => 0, fun _ _ => none, fun _ _ => 0, fun _ => 0, fun _ => 0, s.heap.size, 0, kc), ⟨fun w hw hg a => word_at (State.WarmedH.refl s) (good_of_word hg) (hts w hw), ⟨hD, ?_⟩, va_AO.of hao, ⟨⟨?_, ?_, ?_, ?_, ?_⟩, ?_, ?_, ?_, ?_, ?_, ?_, ?_⟩⟩, ⟨rfl, Nat.le_refl _, fun q hq => rfl, fun a ha => absurd rfl ha⟩, rfl, rfl, rfl, rfl, fun a => rfl, rfl, k0⟩
  · intro k q hk
    have h5 : k = 0 ∨ k = 1 ∨ k = 2 ∨ k = 3 ∨ k = 4 := by
      have := (List.getElem?_eq_some_iff.mp hk).1
      simp only [aTys, List.length_cons, List.length_nil] at this
      omega
    rcases h5 with rfl | rfl | rfl | rfl | rfl
    · cases hk; exact ⟨by show ArrOfT s (aC 21) _; rw [c1]; exact i1, by show va_RA s (aC 21) _; rw [c1]; exact j1⟩
    · cases hk; exact ⟨by show ArrOfT s (aC 22) _; rw [c2]; exact i2, by show va_RA s (aC 22) _; rw [c2]; exact j2⟩
    · cases hk; exact ⟨by show ArrOfT s (aC 23) _; rw [c3]; exact i3, by show va_RA s (aC 23) _; rw [c3]; exact j3⟩
    · cases hk; exact ⟨by show ArrOfT s (aC 24) _; rw [c4]; exact i4, by show va_RA s (aC 24) _; rw [c4]; exact j4⟩
    · cases hk; exact ⟨by show ArrOfT s (aC 25) _; rw [c5]; exact i5, by show va_RA s (aC 25) _; rw [c5]; exact j5⟩
  · show vk_R _ _ _ (kc 1) s
    rw [k1]; exact r1
  · show vk_R _ _ _ (kc 1) s
    rw [k1]; exact r2
  · show vk_R _ _ _ (kc 2) s
    rw [k2]; exact r3
  · show vk_R _ _ _ (kc 3) s
    rw [k3]; exact r4
  · show vk_R _ _ _ (kc 4) s
    rw [k4]; exact r5
  · show vk_S 1 [6] [sVar] (fun _ => kc 1) (fun _ => kc 5) (fun q => s.heap.size ≤ q) s s.heap
    rw [k1, k5]
    exact ⟨fun i hi => by
      have : i = 0 := by omega
      subst this
      exact hS.1 0 hi, fun i j hi hj _ => by omega⟩
  · exact va_Zof (args := args) (hts _ (lwm 42 (by decide +kernel))) (hts _ (lwm 3 (by decide +kernel))) (va_eqi (hs _ (by decide +kernel))) (fun a ha => Nat.not_le.mpr ha)
  · exact stF_of (args := args) rfl rfl (hts _ (lwm 189 (by decide +kernel))) (hs _ (by decide +kernel))
  · exact stF_of (args := args) rfl rfl (hts _ (lwm 191 (by decide +kernel))) (hs _ (by decide +kernel))
  · exact Cond.notCastable_spec (args := args) (hs _ (by decide +kernel))
  · exact va_Nw.of (A := args) rfl (hts _ (lwm 245 (by decide +kernel)))
  · intro w hw hg
    have h9 := hts w hw
    cases w <;> first | exact va_Nw.of rfl h9 | cases hg
/-- the law's own end -/
def lz (below : List Frame) (s : State) : State → Prop := fun t => ∃ o, t.status = .running ∧ Ended t below o ∧ o = .returned (some (.int 1)) ∧ Framed s o t [] 601024 7293034
theorem lz_of {G : Gx} {below : List Frame} {s : State} {M M' : Mem} (hZ : gZ G = s.heap.size) (hC : mC M = gC G) (hM : StartM M) {t : State} (h : CQ G below s M (.inl (some (.int 1))) M' t) : lz below s t := by
  obtain ⟨o, L, h1, h2, h3, h4, h5, h6, h7, h8, h9, h10, h11, h12⟩ := h
  have ho : o = .returned (some (.int 1)) := h12
  have e0 : mC M' 0 = mS M + 601024 := by rw [h9, ← hC]; exact hM.2.2
  have e1 : SLm = 7293034 := rfl
  rw [e0] at h10
  rw [e1] at h11
  refine ⟨o, h1, h2, ho, ⟨_, ho⟩, h3, h4.weaken (fun y hy hlt => ?_) (by omega) (by omega)⟩
  have := h5 y hy
  rw [hZ] at this
  exact absurd hlt (Nat.not_lt.mpr this)
/-- how long a loop may run; how many frames are left to the law -/
def nF : Nat := 30000000
def dF : Nat := 1300
set_option maxRecDepth 10000 in
theorem whole_of {p : Program} {e : Env} {s : State} {m : MethodId} {below : List Frame} {meth : Method} {c : Code} {l : Launch} {b L : Nat} {xs : Nat → Int32} (hl9 : l.stackTraces = false) (hx : p.tables.exec = Jvm.exec) (hb : c.code = code) (hrt : meth.sig.returnType = ret) (hml : c.maxLocals = 7) (hown : s.vm.findClass "HeadCountLaw" = some m.cls) (hts : ∀ w ∈ lw_tbl, w.before #[Value.ref b] s = true) (hX : va_X b L xs s s.heap) (hbl : b < s.heap.size) (hlk : meth.locks = false) (hex : c.exceptionTable.isEmpty = true) (hgv : (Jvm.Cond.and given_1 narrow_1).before #[Value.ref b] s = true)
    (hpure : ∀ M : Mem, StartM M → ∃ M', fL_law_0 nF dF (mR nF dF) (mR nF (dF - 1)) xs L M = some (.inl (some (.int 1)), M')) :
    W p l e room_1 s m #[Value.ref b] below meth c s.heap [] 0 0 (lz below s) (entryFrame m ([Value.ref b] : List Value).toArray 7) := by
  obtain ⟨G, M, hK, hR, hZ, hH, hC, hS, hM⟩ := start_ex hts hgv
  obtain ⟨M', hf⟩ := hpure M hM
  have hfr : dF + 1 ≤ room_1.frames := by decide
  have hlo : 64 * (dF + 1) ≤ room_1.locals := by decide
  have hrc : gC G 0 ≤ room_1.cells + mS M := by
    rw [← hC, hM.2.2]
    have h9 : room_1.cells = 601024 := rfl
    omega
  have hrs : SLm ≤ room_1.slots + mU M := Nat.le_add_right _ _
  have F : FX p s m meth c G room_1 M dF "HeadCountLaw" bL_law 7 (some .boolean) := ⟨hx, hb, hml, hown, hrt, hlk, hex, hK, hfr, hlo, hrc, hrs⟩
  have hl := lv_entry ([Value.ref b]) (n := 7) (by simp [lg_sl, cat_rf, cat_i, cat_a, cat_l, cat_n])
  rw [lg_entry_eq]
  generalize (lg_sl ([Value.ref b]) ++ List.replicate (7 - (lg_sl ([Value.ref b])).length) Slot.unset).toArray = ls at hl ⊢
  have hl : lv_has ls 7 [(0, .ref b)] := by simpa [lv_args, cat_rf, cat_i, cat_a, cat_l, cat_n] using hl
  have hs1 : mS M ≤ mC M 0 := by rw [hM.2.2]; omega
  have hs2 : mU M ≤ SLm := by rw [hM.2.1]; exact Nat.zero_le _
  refine (tL_law_0 F (mR_good l hl9 G nF dF) rfl (mR_good l hl9 G nF (dF - 1)) (b0 := b) ⟨by rw [hH]; exact hX, by rw [hZ]; exact hbl⟩ M s.heap [] 0 0 ls hf (RL.start hR hC hs1 hs2) hl).mono (fun t ht => lz_of hZ hC hM ht)
