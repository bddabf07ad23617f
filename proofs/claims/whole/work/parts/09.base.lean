/-! what the mirrors of methods are made of, and what their proofs stand on -/
def yL : List MethodName := [yH_init, yP_init, yS_length, yS_coder, yO_init, yH_write, yH_byteAt, yH_append, yH_wipe, yH_length, yH_read, yP_parse, yP_start, yP_row, yP_item, yP_one, yP_insist, yP_peek, yP_not, yP_next, yP_make, yN_init, yN_reset, yP_quantified, yS_indexOf, yS_indexOf2, yS_isLatin1, yT_indexOf, yT_canEncode, yT_indexOfChar, yP_bracketed, yP_take, yP_comparisonOfSets, yP_startsWithDivisor, yP_isDecimal, yP_number, yP_divided, yP_addSum, yP_addPart, yP_thing, yP_single, yP_boundVariable, yP_comparisonOfSums, yH_holds, yH_needSentence, yH_needWorld, yH_isTrueIn, yH_waysIn, yO_count, yO_isTrue, yO_anyIs, yO_anyChoiceMakes, yO_value, yO_firstChoice, yO_choices, yO_bind, yO_isTrueOfSets, yO_elements, yO_union, yO_meet, yO_isTrueOfSum, yO_amount, yI_bitCount, yH_fails, yH_ways, yM_init, yM_thrown, yM_write, yM_wipe, yM_length, yM_read, yM_isSentence, yM_next, yM_one, yM_deeper, yM_push, yM_sum, yM_part, yM_isDigit, yM_thing, yM_variableOf, yM_emit, yM_wholePart, yM_afterOne, yM_settle, yM_upper, yM_close, yM_wholeOne, yM_bound, yM_afterNumber, yM_afterPart, yM_single, yM_wholeSingle, yM_afterSingle, yM_holds, yM_isSize, yM_run, yM_pop, yM_ends, yM_lastOf, yM_put, yM_doSum, yM_count, yM_doOther, yM_fails, yM_ways, yM_isLoop]
abbrev Cx : Type := Nat → List Value → Mem → Rz
def yT (j : Nat) : MethodName := yL.getD j yH_init
/-- what the methods that are called do -/
def CBs (l : Launch) (G : Gx) (d : Nat) (C : Cx) : Prop := ∀ (j : Nat) (as : List Value) (M : Mem) (r : Option Value ⊕ Nat) (M' : Mem), C j as M = some (r, M') → CB l G d (yT j) as M r M'
def FX (p : Program) (s : State) (m : MethodId) (meth : Method) (c : Code) (G : Gx) (R : Room) (M0 : Mem) (d : Nat) (own : String) (bytes : ByteArray) (nL : Nat) (ret : Option FieldType) : Prop :=
  p.tables.exec = Jvm.exec ∧ c.code = bytes ∧ c.maxLocals = nL ∧ s.vm.findClass own = some m.cls ∧ meth.sig.returnType = ret ∧ meth.locks = false ∧ c.exceptionTable.isEmpty = true ∧ Kst G s ∧ RM G R M0 d
theorem fx_of {s : State} {m : MethodId} {meth : Method} {c : Code} {y : MethodName} {bytes : ByteArray} {maxL : Nat} {ret : Option FieldType} (hn : s.methodNamed? y = some m) (hm : s.vm.method? m = some meth) (hc : meth.code = some c) (hw : (Cond.code y bytes maxL ret).before #[] s = true) :
    c.code = bytes ∧ c.maxLocals = maxL ∧ meth.sig.returnType = ret ∧ c.exceptionTable.isEmpty = true ∧ s.vm.findClass y.cls = some m.cls := by
  obtain ⟨meth', c', h1, h2, h3, h4, h5, -, h7, -⟩ := Cond.code_spec hn hw
  cases hm.symm.trans h1
  cases hc.symm.trans h2
  exact ⟨h3, h4, h5, h7, findClass_of_methodNamed hn⟩
theorem cat_i (x : Int32) : (Value.int x).category = 1 := rfl
theorem cat_a (a : Nat) : (Value.ref a).category = 1 := rfl
theorem cat_l (x : Int64) : (Value.long x).category = 2 := rfl
theorem cat_n : Value.null.category = 1 := rfl
def rzM (X : Mem) (k : Mem → Rz) : Rz := k X
theorem rz_m {X : Mem} {k : Mem → Rz} {x : (Option Value ⊕ Nat) × Mem} (h : rzM X k = some x) : ∃ M1, M1 = X ∧ k M1 = some x := ⟨X, rfl, h⟩
theorem rz_t {c : Prop} [Decidable c] {X Y : Rz} {x : (Option Value ⊕ Nat) × Mem} (hc : c) (h : (if c then X else Y) = some x) : X = some x := by rw [if_pos hc] at h; exact h
theorem rz_f {c : Prop} [Decidable c] {X Y : Rz} {x : (Option Value ⊕ Nat) × Mem} (hc : ¬ c) (h : (if c then X else Y) = some x) : Y = some x := by rw [if_neg hc] at h; exact h
theorem rz_n1 {r : Option Nat} {X : Rz} {k : Nat → Rz} {x : (Option Value ⊕ Nat) × Mem} (hr : r = none) (h : rzN r X k = some x) : X = some x := by subst hr; exact h
theorem rz_n2 {r : Option Nat} {a : Nat} {X : Rz} {k : Nat → Rz} {x : (Option Value ⊕ Nat) × Mem} (hr : r = some a) (h : rzN r X k = some x) : k a = some x := by subst hr; exact h
theorem RL.start {G : Gx} {M : Mem} {H : Heap} (hR : Real G M H) (h1 : mC M = gC G) (h2 : mS M ≤ mC M 0) (h3 : mU M ≤ SLm) : RL G M M H [] 0 0 :=
  ⟨hR, fun _ hq => absurd hq List.not_mem_nil, Nat.zero_add _, Nat.zero_add _, h1, h2, h3⟩
theorem kn_keep {G : Gx} {M0 M : Mem} {H : Heap} {locs : List Loc} {cells slots a k kd ln sl : Nat} (hR : RL G M0 M H locs cells slots) (h : mK M a = k) (hk : k ≠ 0) : mK (newC M kd ln sl) a = k := by
  have h1 := (hR.1.2.2.2 a (by rw [h]; exact hk)).2.1
  rw [mK_newC, va_up_ne _ _ (Nat.ne_of_lt h1)]
  exact h
section RowsB
variable {p : Program} {l : Launch} {e : Env} {R : Room} {s : State} {m : MethodId} {args : Array Value} {below : List Frame} {meth : Method} {c : Code} {H : Heap} {locs : List Loc} {cells slots : Nat} {Q : State → Prop}
variable {cc : ByteArray} {pc : Nat} {ls : Array Slot} {rest : List Value} {G : Gx} {M0 M : Mem} {a : Nat}
theorem rt_b (hx : p.tables.exec = Jvm.exec) (hb : c.code = cc) (hlk : meth.locks = false) {v : Int32} (hr : meth.sig.returnType = some .byte) (hn : v.toInt8.toInt32 = v) (hR : RL G M0 M H locs cells slots) (hdg : decode cc pc = .ok (.ireturn, 1)) : W p l e R s m args below meth c H locs cells slots (CQ G below s M0 (.inl (some (.int v))) M) (F0 m pc ls [.int v]) :=
  (W.zret (Qc := fun _ _ o t => o = .returned (some (.int v)) ∧ t.heap = H) (free := fun q => gZ G ≤ q) hx hb hr (by show Value.int v.toInt8.toInt32 = .int v; rw [hn]) (fun t ht _ => ⟨rfl, ht⟩) hR.2.1 hdg hlk).mono (fun _ h => cq_of hR h)
/-- the constructor of a nest mate -/
theorem rc_IN (hx : p.tables.exec = Jvm.exec) (hb : c.code = cc) (hnl : ls.size = c.maxLocals) {own host : String} {index : Nat} (hown : s.vm.findClass own = some m.cls) (hK : Kst G s) (hR : RL G M0 M H locs cells slots) {d : Nat} (hRm : RM G R M0 d) {y : MethodName} {bytes : ByteArray} {maxL n : Nat} (hy : MN y bytes maxL n) (hl : va_Nw (.methodLinkNest own index y host) s) {b : Nat} {As : List Value} (hn : As.length = n) (hcat : (rest.map fun v => v.category).sum ≤ 8) {r : Option Value ⊕ Nat} {M1 : Mem} (hM : CB l G d y (.ref b :: As) M r M1) (hdg : decode cc pc = .ok (.invokespecial index, 3))
    (kr : ∀ (v : Option Value) (H1 : Heap) (locs1 : List Loc) (cells1 slots1 : Nat), r = .inl v → RL G M0 M1 H1 locs1 cells1 slots1 → W p l e R s m args below meth c H1 locs1 cells1 slots1 Q (F0 m (pc + 3) ls (v.toList ++ rest)))
    (kx : ∀ (x : Nat) (q : Addr) (ce : Cell) (H1 : Heap) (locs1 : List Loc) (cells1 slots1 : Nat), r = .inr x → RL G M0 M1 H1 locs1 cells1 slots1 → H1[q]? = some ce → ce.vm = .none → s.vm.findClass (exN x) = some ce.cls → WT p l e R s m args below meth c H1 locs1 cells1 slots1 Q (F0 m pc ls rest) q) :
    W p l e R s m args below meth c H locs cells slots Q (F0 m pc ls (As.reverse ++ .ref b :: rest)) := by
  intro T hT X
  obtain ⟨y1, y2, y3, y4, y5, y6, y7⟩ := hy
  obtain ⟨d1, d2, d3, d4⟩ := hRm
  have hpl : e.platform.magicAccessors = ({} : Platform).magicAccessors := by rw [X.admits.platform]
  obtain ⟨mk, methM, cM, kP, vm₁, hnamed, hmethM, hcM, -, hlM, hlkM, hkP, -, hW₁, hstep₁⟩ := Steps.initColdArgsNest (e := e) X.here hx X.warmed hpl hown y2 y5 (va_Nw.use rfl hl (A := args)) (hK.w y1 rfl args) (hK.w y3 rfl args) (f := F0 m pc ls (As.reverse ++ .ref b :: rest)) rfl (a := b) (argsL := As) (rest := rest) (fun sig h => hn.trans (len_of y7 h)) rfl (by rw [hb]; exact hdg)
  have X₁ := X.noted hW₁
  have hT1 : (T.setVm vm₁).heap = H := hT
  rcases cb_core X₁ hx hT1 (g := F0 m pc ls rest) rfl hnl (by rw [hb]; exact hdg) hnamed hmethM hcM hlkM (by rw [hlM]; exact y4) y6 hK hR (by simpa using hcat) d1 d2 d3 d4 hM with ⟨v, T', L, c1, s1, e1, X', hR1, st⟩ | ⟨x, q, ce, T', L, c1, s1, e1, X', hR1, g1, g2, g3, st⟩
  · obtain ⟨t2, a1, b1⟩ := kr v T'.heap _ _ _ e1 hR1 T' rfl X'
    exact ⟨t2, hstep₁ _ fun acts => by rw [doInvoke_state]; exact st.trans a1, b1⟩
  · obtain ⟨t2, a1, b1⟩ := kx x q ce T'.heap _ _ _ e1 hR1 g1 g2 g3 T' rfl X'
    exact ⟨t2, hstep₁ _ fun acts => by rw [doInvoke_state]; exact st.trans a1, b1⟩
end RowsB
