/-! rows for the law's own methods: catching, the script -/
/-- a call whose throwing is caught here -/
def rzT (c : Rz) (k : Option Value → Mem → Rz) (kx : Nat → Mem → Rz) : Rz := match c with
  | none => none
  | some (.inl v, M) => k v M
  | some (.inr x, M) => kx x M
theorem rz_tt {c : Rz} {k : Option Value → Mem → Rz} {kx : Nat → Mem → Rz} {x : (Option Value ⊕ Nat) × Mem} (h : rzT c k kx = some x) : ∃ r M, c = some (r, M) ∧ ((∃ v, r = .inl v ∧ k v M = some x) ∨ (∃ e, r = .inr e ∧ kx e M = some x)) := by
  rcases c with _ | ⟨v | e, M⟩
  · cases h
  · exact ⟨_, _, rfl, Or.inl ⟨v, rfl, h⟩⟩
  · exact ⟨_, _, rfl, Or.inr ⟨e, rfl, h⟩⟩
theorem fx_ofW {s : State} {m : MethodId} {meth : Method} {c : Code} {y : MethodName} {bytes : ByteArray} {maxL : Nat} {ret : Option FieldType} {hs : List (Nat × Nat × Nat × Nat)} (hn : s.methodNamed? y = some m) (hm : s.vm.method? m = some meth) (hc : meth.code = some c) (hw : (Cond.codeWith y bytes maxL ret hs).before #[] s = true) :
    c.code = bytes ∧ c.maxLocals = maxL ∧ meth.sig.returnType = ret ∧ c.exceptionTable.toList.map (fun h => (h.startPc, h.endPc, h.handlerPc, h.catchType)) = hs ∧ s.vm.findClass y.cls = some m.cls := by
  obtain ⟨m', meth', c', h0, h1, h2, h3, h4, h5, h6, -⟩ := Cond.codeWith_spec hw
  cases hn.symm.trans h0
  cases hm.symm.trans h1
  cases hc.symm.trans h2
  exact ⟨h3, h4, h6, h5, findClass_of_methodNamed hn⟩
section RowsL
variable {p : Program} {l : Launch} {e : Env} {R : Room} {s : State} {m : MethodId} {args : Array Value} {below : List Frame} {meth : Method} {c : Code} {H : Heap} {locs : List Loc} {cells slots : Nat} {Q : State → Prop}
variable {cc : ByteArray} {pc : Nat} {ls : Array Slot} {rest : List Value} {G : Gx} {M0 M : Mem} {a : Nat}
/-- caught by the row x of this method's table; the rows ahead don't take it -/
theorem rt_cc {own name : String} {E : String} {ce : Cell} {q : Addr} (hown : s.vm.findClass own = some m.cls) (pre : List ExceptionTableEntry) (x : ExceptionTableEntry) (suf : List ExceptionTableEntry) (hsplit : c.exceptionTable.toList = pre ++ x :: suf)
    (hpass : ∀ z ∈ pre, covers z pc = false ∨ (z.catchType ≠ 0 ∧ ∃ nm : String, (Cond.classLink own z.catchType nm).before args s = true ∧ va_Nc E nm s)) (hx : covers x pc = true) (h0 : x.catchType ≠ 0)
    (hlink : (Cond.classLink own x.catchType name).before args s = true) (hcast : (Cond.castable E name).before args s = true) (hcell : H[q]? = some ce) (hv : ce.vm = .none) (hcl : s.vm.findClass E = some ce.cls)
    (kk : W p l e R s m args below meth c H locs cells slots Q (F0 m x.handlerPc ls [.ref q])) : WT p l e R s m args below meth c H locs cells slots Q (F0 m pc ls rest) q := by
  intro T hT X
  have hpl : e.platform.magicAccessors = ({} : Platform).magicAccessors := by rw [X.admits.platform]
  obtain ⟨c3, c4, hc3, hc4, hasg⟩ := Cond.castable_spec hcast
  cases Option.some.inj (hc3.symm.trans hcl)
  obtain ⟨c5, hc5, hcl5⟩ := Cond.classLink_spec hown hlink e.platform hpl
  cases Option.some.inj (hc4.symm.trans hc5)
  obtain ⟨vm', X', st⟩ := X.thenCaughtThrough q (g := F0 m pc ls rest) rfl (Steps.refl _) (by rw [hT]; exact hcell) (by rw [hv]; rfl) (by obtain ⟨k9, h9, -⟩ := Vm.findClass_spec hcl; exact ⟨k9, h9⟩) pre x suf hsplit
    (fun z hz => by
      rcases hpass z hz with h | ⟨hz0, nm, hl1, hn1⟩
      · exact Or.inl h
      · obtain ⟨c6, hc6, hcl6⟩ := Cond.classLink_spec hown hl1 e.platform hpl
        obtain ⟨a8, b8, h1, h2, h3⟩ := hn1
        cases Option.some.inj (h1.symm.trans hcl)
        cases Option.some.inj (h2.symm.trans hc6)
        exact Or.inr ⟨hz0, _, hcl6, h3⟩) hx (Or.inr ⟨h0, c4, hcl5, hasg⟩)
  obtain ⟨t, a1, b1⟩ := kk (T.setVm vm') hT X'
  exact ⟨t, st.trans a1, b1⟩
theorem rt_c1 {own : String} {x : Nat} {ce : Cell} {q : Addr} {h0 h1 hp ht : Nat} {suf : List (Nat × Nat × Nat × Nat)} (hown : s.vm.findClass own = some m.cls) (hK : Kst G s) (htab : c.exceptionTable.toList.map (fun h => (h.startPc, h.endPc, h.handlerPc, h.catchType)) = (h0, h1, hp, ht) :: suf) (hlo : h0 ≤ pc) (hhi : pc < h1) (hz : ht ≠ 0)
    (hlink : Cond.classLink own ht (exN x) ∈ lw_tbl) (hcast : Cond.castable (exN x) (exN x) ∈ lw_tbl) (hcell : H[q]? = some ce) (hv : ce.vm = .none) (hcl : s.vm.findClass (exN x) = some ce.cls)
    (kk : W p l e R s m args below meth c H locs cells slots Q (F0 m hp ls [.ref q])) : WT p l e R s m args below meth c H locs cells slots Q (F0 m pc ls rest) q := by
  obtain ⟨e0, es, he, h2, h3⟩ := List.map_eq_cons_iff.mp htab
  simp only [Prod.mk.injEq] at h2
  obtain ⟨f1, f2, f3, f4⟩ := h2
  subst f3 f4
  exact rt_cc hown [] e0 es he (fun z hz => absurd hz List.not_mem_nil) (by simp [covers]; omega) hz (hK.w hlink rfl args) (dcw_use rfl (hK.2.2.2.2.2.2.2.2.2.2 _ hcast rfl) args) hcell hv hcl kk
theorem rt_c2 {own : String} {x y : Nat} {ce : Cell} {q : Addr} {g0 g1 gp gt h0 h1 hp ht : Nat} {suf : List (Nat × Nat × Nat × Nat)} (hown : s.vm.findClass own = some m.cls) (hK : Kst G s) (htab : c.exceptionTable.toList.map (fun h => (h.startPc, h.endPc, h.handlerPc, h.catchType)) = (g0, g1, gp, gt) :: (h0, h1, hp, ht) :: suf) (hgz : gt ≠ 0) (hgl : Cond.classLink own gt (exN y) ∈ lw_tbl) (hgn : va_Nc (exN x) (exN y) s) (hlo : h0 ≤ pc) (hhi : pc < h1) (hz : ht ≠ 0)
    (hlink : Cond.classLink own ht (exN x) ∈ lw_tbl) (hcast : Cond.castable (exN x) (exN x) ∈ lw_tbl) (hcell : H[q]? = some ce) (hv : ce.vm = .none) (hcl : s.vm.findClass (exN x) = some ce.cls)
    (kk : W p l e R s m args below meth c H locs cells slots Q (F0 m hp ls [.ref q])) : WT p l e R s m args below meth c H locs cells slots Q (F0 m pc ls rest) q := by
  obtain ⟨e0, es, he, h2, h3⟩ := List.map_eq_cons_iff.mp htab
  obtain ⟨e1, es1, he1, h4, h5⟩ := List.map_eq_cons_iff.mp h3
  simp only [Prod.mk.injEq] at h2 h4
  obtain ⟨f1, f2, f3, f4⟩ := h2
  obtain ⟨f5, f6, f7, f8⟩ := h4
  subst f7 f8 f4
  refine rt_cc hown [e0] e1 es1 (by rw [he, he1]; rfl) (fun z hz => ?_) (by simp [covers]; omega) hz (hK.w hlink rfl args) (dcw_use rfl (hK.2.2.2.2.2.2.2.2.2.2 _ hcast rfl) args) hcell hv hcl kk
  rw [List.mem_singleton] at hz
  subst hz
  exact Or.inr ⟨hgz, _, hK.w hgl rfl args, hgn⟩
/-- the call of a static method that has a table of what it catches -/
theorem rc_SW (hx : p.tables.exec = Jvm.exec) (hb : c.code = cc) (hnl : ls.size = c.maxLocals) {own : String} {index : Nat} (hown : s.vm.findClass own = some m.cls) (hK : Kst G s) (hR : RL G M0 M H locs cells slots) {d : Nat} (hRm : RM G R M0 d) {y : MethodName} {bytes : ByteArray} {maxL n : Nat} {ret : Option FieldType} {hs : List (Nat × Nat × Nat × Nat)} (y1 : Cond.static y ∈ lw_tbl) (y2 : Cond.initialized y.cls ∈ lw_tbl) (y3 : Cond.codeWith y bytes maxL ret hs ∈ lw_tbl) (y4 : maxL ≤ 40) (y5 : y.cls ≠ "java/lang/invoke/MethodHandle" ∧ y.cls ≠ "java/lang/invoke/VarHandle") (y6 : plainName y.cls = true) (y7 : (parseMethodDescriptor y.desc).map (fun d => d.parameters.length) = some n) (hl : Cond.methodLink own index y ∈ lw_tbl) {As : List Value} (hn : As.length = n) (hcat : (rest.map fun v => v.category).sum ≤ 8) {r : Option Value ⊕ Nat} {M1 : Mem} (hM : CB l G d y As M r M1) (hdg : decode cc pc = .ok (.invokestatic index, 3))
    (kr : ∀ (v : Option Value) (H1 : Heap) (locs1 : List Loc) (cells1 slots1 : Nat), r = .inl v → RL G M0 M1 H1 locs1 cells1 slots1 → W p l e R s m args below meth c H1 locs1 cells1 slots1 Q (F0 m (pc + 3) ls (v.toList ++ rest)))
    (kx : ∀ (x : Nat) (q : Addr) (ce : Cell) (H1 : Heap) (locs1 : List Loc) (cells1 slots1 : Nat), r = .inr x → RL G M0 M1 H1 locs1 cells1 slots1 → H1[q]? = some ce → ce.vm = .none → s.vm.findClass (exN x) = some ce.cls → WT p l e R s m args below meth c H1 locs1 cells1 slots1 Q (F0 m pc ls rest) q) :
    W p l e R s m args below meth c H locs cells slots Q (F0 m pc ls (As.reverse ++ rest)) := by
  intro T hT X
  obtain ⟨d1, d2, d3, d4⟩ := hRm
  obtain ⟨mk, methM, cM, hnamed, hmethM, hcM, -, hlM, -, -, hlkM, hsigM⟩ := Cond.codeWith_spec (hK.w y3 rfl args)
  have hstatic : methM.isStatic = true := Cond.static_spec hnamed hmethM (hK.w y1 rfl args)
  obtain ⟨kP, hkP, -⟩ := className_of_methodNamed hnamed
  have hinitP : kP.init = .initialized := Cond.initialized_spec (findClass_of_methodNamed hnamed) hkP (hK.w y2 rfl args)
  obtain ⟨vm₁, X₁, hstep₁⟩ := X.invokestatic hx hown (hK.w hl rfl args) hnamed hmethM hstatic hkP hinitP y5 (g := F0 m pc ls (As.reverse ++ rest)) rfl (argsL := As) (rest := rest) (hn.trans (len_of y7 hsigM)) rfl (by rw [hb]; exact hdg)
  have hT1 : (T.setVm vm₁).heap = H := hT
  rcases cb_core X₁ hx hT1 (g := F0 m pc ls rest) rfl hnl (by rw [hb]; exact hdg) hnamed hmethM hcM hlkM (by rw [hlM]; exact y4) y6 hK hR (by simpa using hcat) d1 d2 d3 d4 hM with ⟨v, T', L, c1, s1, e1, X', hR1, st⟩ | ⟨x, q, ce, T', L, c1, s1, e1, X', hR1, g1, g2, g3, st⟩
  · obtain ⟨t2, a1, b1⟩ := kr v T'.heap _ _ _ e1 hR1 T' rfl X'
    exact ⟨t2, hstep₁ _ fun acts => by rw [doInvoke_state]; exact st.trans a1, b1⟩
  · obtain ⟨t2, a1, b1⟩ := kx x q ce T'.heap _ _ _ e1 hR1 g1 g2 g3 T' rfl X'
    exact ⟨t2, hstep₁ _ fun acts => by rw [doInvoke_state]; exact st.trans a1, b1⟩
/-- the law's own script, in the old part of the heap -/
def Scr (G : Gx) (s : State) (b N : Nat) (sc : Nat → Int32) : Prop := va_X b N sc s (gH G) ∧ b < gZ G
theorem rl_sld (hx : p.tables.exec = Jvm.exec) (hb : c.code = cc) {b N : Nat} {sc : Nat → Int32} (hX : Scr G s b N sc) (hR : RL G M0 M H locs cells slots) {i : Int32} (hin : inA i N) (hdg : decode cc pc = .ok (.iaload, 1))
    (kk : W p l e R s m args below meth c H locs cells slots Q (F0 m (pc + 1) ls (.int (sc i.toNatClampNeg) :: rest))) : W p l e R s m args below meth c H locs cells slots Q (F0 m pc ls (.int i :: .ref b :: rest)) := by
  obtain ⟨⟨scr, h1, h2, h3, h4, h5⟩, h6⟩ := hX
  have hlt : i.toNatClampNeg < N := Nat.not_le.mp fun q => hin (Or.inr q)
  exact W.iald (v := .int (sc i.toNatClampNeg)) hx hb (by rw [old_at hR (Nat.not_le.mpr h6)]; exact h1) h2 h3 (by rw [h4]; exact hin) (h5 _ hlt) rfl rfl hdg kk
theorem rl_slen (hx : p.tables.exec = Jvm.exec) (hb : c.code = cc) {b N : Nat} {sc : Nat → Int32} (hX : Scr G s b N sc) (hR : RL G M0 M H locs cells slots) (hdg : decode cc pc = .ok (.arraylength, 1))
    (kk : W p l e R s m args below meth c H locs cells slots Q (F0 m (pc + 1) ls (.int (nI N) :: rest))) : W p l e R s m args below meth c H locs cells slots Q (F0 m pc ls (.ref b :: rest)) := by
  obtain ⟨⟨scr, h1, h2, h3, h4, h5⟩, h6⟩ := hX
  exact W.alen (n := nI N) hx hb (by rw [old_at hR (Nat.not_le.mpr h6)]; exact h1) h2 (by rw [h4] <;> rfl) rfl rfl hdg kk
end RowsL
