/-! rows: making cells, returning, throwing, calling -/
theorem st_weak {tb : Tables} {e : Env} {mid below : List Frame} {a b : State} (h : Steps tb e (mid ++ below) a b) : Steps tb e below a b := by
  obtain ⟨n, hn, hw⟩ := h
  exact ⟨n, hn, fun k hk => (hw k hk).weaken⟩
/-- the names of what is thrown -/
def exN (x : Nat) : String := if x = 1 then "java/lang/IllegalArgumentException" else "java/lang/IllegalStateException"
def outI (s : State) (r : Option Value ⊕ Nat) (o : Outcome) (t : State) : Prop := match r with
  | .inl v => o = .returned v
  | .inr x => ∃ (q : Addr) (ce : Cell), o = .threw q ∧ t.heap[q]? = some ce ∧ ce.vm = .none ∧ s.vm.findClass (exN x) = some ce.cls
/-- the end of a method that came from M to M' with r -/
def CQ (G : Gx) (below : List Frame) (s : State) (M : Mem) (r : Option Value ⊕ Nat) (M' : Mem) : State → Prop := fun t =>
  ∃ (o : Outcome) (L : List Loc), t.status = .running ∧ Ended t below o ∧ s.WarmedH t.vm ∧ s.sameButNew ({ t with vm := s.vm } : State) L (mS M' - mS M) (mU M' - mU M) ∧ (∀ q ∈ L, gZ G ≤ q.base) ∧ Real G M' t.heap ∧ mS M ≤ mS M' ∧ mU M ≤ mU M' ∧ mC M' = gC G ∧ mS M' ≤ mC M' 0 ∧ mU M' ≤ SLm ∧ outI s r o t
/-- the contract: with d frames left, from M the method y at the arguments as comes to r and M' -/
def CB (l : Launch) (G : Gx) (d : Nat) (y : MethodName) (as : List Value) (M : Mem) (r : Option Value ⊕ Nat) (M' : Mem) : Prop :=
  ∀ (p : Program) (e : Env) (R : Room) (s : State) (m : MethodId) (below : List Frame) (meth : Method) (c : Code),
    p.tables.exec = Jvm.exec → s.methodNamed? y = some m → s.vm.method? m = some meth → meth.code = some c → meth.locks = false → Kst G s → Real G M s.heap → mC M = gC G → mS M ≤ mC M 0 → mU M ≤ SLm → d ≤ R.frames → 64 * d ≤ R.locals → mC M 0 ≤ R.cells + mS M → SLm ≤ R.slots + mU M →
    W p l e R s m as.toArray below meth c s.heap [] 0 0 (CQ G below s M r M') (entryFrame m as.toArray c.maxLocals)
section RowsC
variable {p : Program} {l : Launch} {e : Env} {R : Room} {s : State} {m : MethodId} {args : Array Value} {below : List Frame} {meth : Method} {c : Code} {H : Heap} {locs : List Loc} {cells slots : Nat} {Q : State → Prop}
variable {cc : ByteArray} {pc : Nat} {ls : Array Slot} {rest : List Value} {G : Gx} {M0 M : Mem} {a : Nat}
theorem W.mono {Q2 : State → Prop} {g : JFrame} (k : W p l e R s m args below meth c H locs cells slots Q g) (h : ∀ t, Q t → Q2 t) : W p l e R s m args below meth c H locs cells slots Q2 g := by
  intro T hT X
  obtain ⟨t, a1, b1⟩ := k T hT X
  exact ⟨t, a1, h t b1⟩
theorem cq_of {v : Option Value} (hR : RL G M0 M H locs cells slots) {t : State} (h : MQ below (fun _ _ o t => o = .returned v ∧ t.heap = H) args s cells slots (fun q => gZ G ≤ q) t) : CQ G below s M0 (.inl v) M t := by
  obtain ⟨o, h1, h2, ⟨h3, h4⟩, L, ⟨-, hW, hsm⟩, hL⟩ := h
  obtain ⟨r1, r2, r3, r4, r5, r6, r7⟩ := hR
  have e1 : mS M - mS M0 = cells := by omega
  have e2 : mU M - mU M0 = slots := by omega
  exact ⟨o, L, h1, h2, hW, by rw [e1, e2]; exact hsm, hL, by rw [h4]; exact r1, by omega, by omega, r5, r6, r7, h3⟩
theorem rt_i (hx : p.tables.exec = Jvm.exec) (hb : c.code = cc) (hlk : meth.locks = false) {ty : FieldType} {v : Int32} (hr : meth.sig.returnType = some ty) (hty : ty = .int ∨ ty = .char ∨ ty = .boolean) (hn : fits ty (.int v) = true) (hR : RL G M0 M H locs cells slots) (hdg : decode cc pc = .ok (.ireturn, 1)) : W p l e R s m args below meth c H locs cells slots (CQ G below s M0 (.inl (some (.int v))) M) (F0 m pc ls [.int v]) :=
  (W.zret (Qc := fun _ _ o t => o = .returned (some (.int v)) ∧ t.heap = H) (free := fun q => gZ G ≤ q) hx hb hr (nar_fit hn hty) (fun t ht _ => ⟨rfl, ht⟩) hR.2.1 hdg hlk).mono (fun _ h => cq_of hR h)
theorem rt_a (hx : p.tables.exec = Jvm.exec) (hb : c.code = cc) (hlk : meth.locks = false) {ty : FieldType} {r : Option Nat} (hr : meth.sig.returnType = some ty) (hty : (∃ n, ty = .object n) ∨ ∃ t, ty = .array t) (hR : RL G M0 M H locs cells slots) (hdg : decode cc pc = .ok (.areturn, 1)) : W p l e R s m args below meth c H locs cells slots (CQ G below s M0 (.inl (some (va_rf r))) M) (F0 m pc ls [va_rf r]) :=
  (W.aret (Qc := fun _ _ o t => o = .returned (some (va_rf r)) ∧ t.heap = H) (free := fun q => gZ G ≤ q) hx hb hr hty (by cases r; exact Or.inl rfl; exact Or.inr ⟨_, rfl⟩) (fun t ht _ => ⟨rfl, ht⟩) hR.2.1 hdg hlk).mono (fun _ h => cq_of hR h)
theorem rt_v (hx : p.tables.exec = Jvm.exec) (hb : c.code = cc) (hlk : meth.locks = false) (hr : meth.sig.returnType = none) (hR : RL G M0 M H locs cells slots) (hdg : decode cc pc = .ok (.return_, 1)) : W p l e R s m args below meth c H locs cells slots (CQ G below s M0 (.inl none) M) (F0 m pc ls []) :=
  (W.vret (Qc := fun _ _ o t => o = .returned none ∧ t.heap = H) (free := fun q => gZ G ≤ q) hx hb hr (fun t ht _ => ⟨rfl, ht⟩) hR.2.1 hdg hlk).mono (fun _ h => cq_of hR h)
/-- the frame g, with q thrown over it -/
def WT (p : Program) (l : Launch) (e : Env) (R : Room) (s : State) (m : MethodId) (args : Array Value) (below : List Frame) (meth : Method) (c : Code) (H : Heap) (locs : List Loc) (cells slots : Nat) (Q : State → Prop) (g : JFrame) (q : Addr) : Prop :=
  ∀ T : State, T.heap = H → Stand p l e R s m args below meth c T locs cells slots → ∃ t, Steps p.tables e below ((T.setTop g).pushFrame (.throwing q)) t ∧ Q t
/-- what is thrown leaves the method -/
theorem rt_x (hlk : meth.locks = false) (hex : c.exceptionTable.isEmpty = true) {x : Nat} {q : Addr} {ce : Cell} (hR : RL G M0 M H locs cells slots) (h1 : H[q]? = some ce) (h2 : ce.vm = .none) (h3 : s.vm.findClass (exN x) = some ce.cls) : WT p l e R s m args below meth c H locs cells slots (CQ G below s M0 (.inr x) M) (F0 m pc ls rest) q := by
  intro T hT X
  have hout : ∀ y ∈ c.exceptionTable.toList, covers y pc = false := fun y hy => by
    have he : c.exceptionTable.toList = [] := by simpa [Array.isEmpty] using hex
    rw [he] at hy
    cases hy
  obtain ⟨st1, hrun, hend, hW, hsm⟩ := X.leaveThrown q (g := F0 m pc ls rest) rfl rfl rfl hout hlk
  obtain ⟨r1, r2, r3, r4, r5, r6, r7⟩ := hR
  have e1 : mS M - mS M0 = cells := by omega
  have e2 : mU M - mU M0 = slots := by omega
  have hh : (T.setFrames (.throwing q :: below)).heap = H := hT
  exact ⟨_, st1, .threw q, locs, hrun, hend, hW, by rw [e1, e2]; exact hsm, r2, by rw [hh]; exact r1, by omega, by omega, r5, r6, r7, q, ce, rfl, by rw [hh]; exact h1, h2, h3⟩
/-- the call itself, behind its linking -/
theorem cb_core {T : State} (X : Stand p l e R s m args below meth c T locs cells slots) (hx : p.tables.exec = Jvm.exec) (hT : T.heap = H) {g : JFrame} (hg : g.method = m) (hsize : g.locals.size = c.maxLocals) {ig : Instr} {len : Nat} (hdg : decode c.code g.pc = .ok (ig, len)) {y : MethodName} {mk : MethodId} {methk : Method} {ck : Code} {as : List Value} {r : Option Value ⊕ Nat} {M1 : Mem} (hnamed : s.methodNamed? y = some mk) (hmk : s.vm.method? mk = some methk) (hck : methk.code = some ck) (hlk : methk.locks = false) (hml : ck.maxLocals ≤ 40) (hplain : plainName y.cls = true)
    (hK : Kst G s) (hR : RL G M0 M H locs cells slots) (hW8 : 2 * g.monitorRoom + (g.stack.map fun v => v.category).sum ≤ 8) {d : Nat} (hfr : d + 1 ≤ R.frames) (hlo : 64 * (d + 1) ≤ R.locals) (hrc : gC G 0 ≤ R.cells + mS M0) (hrs : SLm ≤ R.slots + mU M0) (hM : CB l G d y as M r M1) :
    (∃ (v : Option Value) (T' : State) (L : List Loc) (cells1 slots1 : Nat), r = .inl v ∧ Stand p l e R s m args below meth c T' (locs ++ L) cells1 slots1 ∧ RL G M0 M1 T'.heap (locs ++ L) cells1 slots1 ∧ Steps p.tables e below (doInvoke e (T.setTop g) [] mk as.toArray).1 (T'.setTop { g with pc := g.pc + len, stack := v.toList ++ g.stack })) ∨
    (∃ (x : Nat) (q : Addr) (ce : Cell) (T' : State) (L : List Loc) (cells1 slots1 : Nat), r = .inr x ∧ Stand p l e R s m args below meth c T' (locs ++ L) cells1 slots1 ∧ RL G M0 M1 T'.heap (locs ++ L) cells1 slots1 ∧ T'.heap[q]? = some ce ∧ ce.vm = .none ∧ s.vm.findClass (exN x) = some ce.cls ∧ Steps p.tables e below (doInvoke e (T.setTop g) [] mk as.toArray).1 ((T'.setTop g).pushFrame (.throwing q))) := by
  obtain ⟨r1, r2, r3, r4, r5, r6, r7⟩ := hR
  have hmT : T.vm.method? mk = some methk := by rw [X.warmed.alike.method?]; exact hmk
  have hnT : T.methodNamed? y = some mk := X.named hnamed
  have hpk : T.plainMethod mk := State.plainMethod.of_named (plainFor_of_name hplain) hnT hmT
  obtain ⟨Y, hdo⟩ := X.into hg hsize hdg as.toArray (R' := { frames := d, locals := 64 * d, cells := R.cells - cells, slots := R.slots - slots }) hmT hck hlk hpk hfr (by show 2 * g.monitorRoom + (g.stack.map fun v => v.category).sum + (ck.maxLocals + 11) + 64 * d ≤ R.locals; omega) (by show cells + (R.cells - cells) ≤ R.cells; rw [r5] at r6; omega) (by show slots + (R.slots - slots) ≤ R.slots; omega)
  have hKc : Kst G (T.calling g mk as.toArray) := hK.moved (U := T.calling g mk as.toArray) X.warmed
  have hC := hM p e { frames := d, locals := 64 * d, cells := R.cells - cells, slots := R.slots - slots } (T.calling g mk as.toArray) mk (.java g :: below) methk ck hx hnT hmT hck hlk hKc (by show Real G M T.heap; rw [hT]; exact r1) r5 r6 r7 (Nat.le_refl _) (Nat.le_refl _) (by show mC M 0 ≤ R.cells - cells + mS M; rw [r5] at r6 ⊢; omega) (by show SLm ≤ R.slots - slots + mU M; omega)
  obtain ⟨t, hst, o, L, hrun, hend, hW2, hsame, hL, hR1, hle1, hle2, hC1, hS1, hU1, ho⟩ := hC ((T.setTop g).pushFrame (.java (entryFrame mk as.toArray ck.maxLocals))) rfl Y
  have hst2 : Steps p.tables e below (doInvoke e (T.setTop g) [] mk as.toArray).1 t := by
    rw [hdo []]
    exact st_weak (mid := [.java g]) hst
  have hRL : ∀ H1 : Heap, H1 = t.heap → RL G M0 M1 H1 (locs ++ L) (cells + (mS M1 - mS M)) (slots + (mU M1 - mU M)) := fun H1 h1 =>
    ⟨by rw [h1]; exact hR1, t_lL (free := fun q => gZ G ≤ q) r2 hL, by omega, by omega, hC1, hS1, hU1⟩
  cases r with
  | inl v =>
    have ho2 : o = .returned v := ho
    subst ho2
    obtain ⟨T', X', -, -, ht⟩ := X.outOf hg hdg hend hW2 hsame
    have hh : T'.heap = t.heap := by rw [ht]; rfl
    exact Or.inl ⟨v, T', L, _, _, rfl, X', hRL _ hh, by rw [← ht]; exact hst2⟩
  | inr x =>
    obtain ⟨q, ce, ho2, h1, h2, h3⟩ := ho
    subst ho2
    obtain ⟨T', X', -, -, ht⟩ := X.outOfThrown hg hend hW2 hsame
    have hh : T'.heap = t.heap := by rw [ht]; rfl
    have h3' : s.vm.findClass (exN x) = some ce.cls := by
      have h4 : T.vm.findClass (exN x) = some ce.cls := h3
      rw [X.warmed.alike.findClass] at h4
      exact h4
    exact Or.inr ⟨x, q, ce, T', L, _, _, rfl, X', hRL _ hh, by rw [hh]; exact h1, h2, h3', by rw [← ht]; exact hst2⟩
/-- a method's words: of an object's method, of a static one, of a constructor -/
def MV (y : MethodName) (bytes : ByteArray) (maxL n : Nat) (ret : Option FieldType) : Prop := Cond.instanceMethod y ∈ lw_tbl ∧ Cond.selects y.cls y y ∈ lw_tbl ∧ Cond.code y bytes maxL ret ∈ lw_tbl ∧ maxL ≤ 40 ∧ (y.cls ≠ "java/lang/invoke/MethodHandle" ∧ y.cls ≠ "java/lang/invoke/VarHandle") ∧ plainName y.cls = true ∧ (parseMethodDescriptor y.desc).map (fun d => d.parameters.length) = some n
def MS (y : MethodName) (bytes : ByteArray) (maxL n : Nat) (ret : Option FieldType) : Prop := Cond.static y ∈ lw_tbl ∧ Cond.initialized y.cls ∈ lw_tbl ∧ Cond.code y bytes maxL ret ∈ lw_tbl ∧ maxL ≤ 40 ∧ (y.cls ≠ "java/lang/invoke/MethodHandle" ∧ y.cls ≠ "java/lang/invoke/VarHandle") ∧ plainName y.cls = true ∧ (parseMethodDescriptor y.desc).map (fun d => d.parameters.length) = some n
def MN (y : MethodName) (bytes : ByteArray) (maxL n : Nat) : Prop := Cond.instanceMethod y ∈ lw_tbl ∧ y.name = "<init>" ∧ Cond.code y bytes maxL none ∈ lw_tbl ∧ maxL ≤ 40 ∧ (y.cls ≠ "java/lang/invoke/MethodHandle" ∧ y.cls ≠ "java/lang/invoke/VarHandle") ∧ plainName y.cls = true ∧ (parseMethodDescriptor y.desc).map (fun d => d.parameters.length) = some n
theorem len_of {y : MethodName} {n : Nat} (h : (parseMethodDescriptor y.desc).map (fun d => d.parameters.length) = some n) {sig : MethodDescriptor} (hs : parseMethodDescriptor y.desc = some sig) : n = sig.parameters.length := by
  rw [hs] at h
  exact (Option.some.inj h).symm
theorem cat_rf (r : Option Nat) : (va_rf r).category = 1 := by cases r <;> rfl
/-- the room that is left -/
def RM (G : Gx) (R : Room) (M0 : Mem) (d : Nat) : Prop := d + 1 ≤ R.frames ∧ 64 * (d + 1) ≤ R.locals ∧ gC G 0 ≤ R.cells + mS M0 ∧ SLm ≤ R.slots + mU M0
theorem rc_V (hx : p.tables.exec = Jvm.exec) (hb : c.code = cc) (hnl : ls.size = c.maxLocals) {own : String} {index : Nat} (hown : s.vm.findClass own = some m.cls) (hK : Kst G s) (hR : RL G M0 M H locs cells slots) {d : Nat} (hRm : RM G R M0 d) {y : MethodName} {bytes : ByteArray} {maxL n : Nat} {ret : Option FieldType} (hy : MV y bytes maxL n ret) (hl : Cond.methodLink own index y ∈ lw_tbl) {ci : Nat} {rr : vw_C} (hc : hcCl[ci]? = some rr) (hcy : rr.1 = y.cls) {b : Nat} {As : List Value} (hn : As.length = n) (hbk : mK M b = ci + 1) (hcat : (rest.map fun v => v.category).sum ≤ 8) {r : Option Value ⊕ Nat} {M1 : Mem} (hM : CB l G d y (.ref b :: As) M r M1) (hdg : decode cc pc = .ok (.invokevirtual index, 3))
    (kr : ∀ (v : Option Value) (H1 : Heap) (locs1 : List Loc) (cells1 slots1 : Nat), r = .inl v → RL G M0 M1 H1 locs1 cells1 slots1 → W p l e R s m args below meth c H1 locs1 cells1 slots1 Q (F0 m (pc + 3) ls (v.toList ++ rest)))
    (kx : ∀ (x : Nat) (q : Addr) (ce : Cell) (H1 : Heap) (locs1 : List Loc) (cells1 slots1 : Nat), r = .inr x → RL G M0 M1 H1 locs1 cells1 slots1 → H1[q]? = some ce → ce.vm = .none → s.vm.findClass (exN x) = some ce.cls → WT p l e R s m args below meth c H1 locs1 cells1 slots1 Q (F0 m pc ls rest) q) :
    W p l e R s m args below meth c H locs cells slots Q (F0 m pc ls (As.reverse ++ .ref b :: rest)) := by
  intro T hT X
  obtain ⟨y1, y2, y3, y4, y5, y6, y7⟩ := hy
  obtain ⟨d1, d2, d3, d4⟩ := hRm
  obtain ⟨cellB, b1, b2, b3, -⟩ := hR.1.obj hbk hc
  have hcls : s.vm.findClass y.cls = some cellB.cls := by rw [← hcy, b2]; exact (hK.2.1.1 ci rr hc).2.1
  obtain ⟨mk, methM, hnamed, hmethM, hstM, habM⟩ := Cond.instanceMethod_spec (hK.w y1 rfl args)
  obtain ⟨methM', cM, hmethM', hcM, -, hlM, -, hlkM, -, hsigM⟩ := Cond.code_spec hnamed (hK.w y3 rfl args)
  cases hmethM.symm.trans hmethM'
  obtain ⟨c2, r2, m2, q1, q2, q3, q4, kP, hkP, hkPi⟩ := Cond.selects_spec (hK.w y2 rfl args)
  cases hcls.symm.trans q1
  cases (State.methodFound?_of_named hnamed y5).symm.trans q2
  cases hnamed.symm.trans q3
  have hselP : selectMethod e.platform s.vm cellB.cls mk = .method mk := by rw [Launch.admits_selectMethod X.admits]; exact q4
  obtain ⟨vm₁, X₁, hstep₁⟩ := X.invokevirtual hx hown (hK.w hl rfl args) hnamed hmethM hstM hkP hkPi y5 (a := b) (cell := cellB) (by rw [hT]; exact b1)
    (fun z h => by rw [b3] at h; cases h) hselP hmethM habM hkP hkPi (g := F0 m pc ls (As.reverse ++ .ref b :: rest)) rfl (argsL := As) (rest := rest) (hn.trans (len_of y7 hsigM)) rfl (by rw [hb]; exact hdg)
  have hT1 : (T.setVm vm₁).heap = H := hT
  rcases cb_core X₁ hx hT1 (g := F0 m pc ls rest) rfl hnl (by rw [hb]; exact hdg) hnamed hmethM hcM hlkM (by rw [hlM]; exact y4) y6 hK hR (by simpa using hcat) d1 d2 d3 d4 hM with ⟨v, T', L, c1, s1, e1, X', hR1, st⟩ | ⟨x, q, ce, T', L, c1, s1, e1, X', hR1, g1, g2, g3, st⟩
  · obtain ⟨t2, a1, b1⟩ := kr v T'.heap _ _ _ e1 hR1 T' rfl X'
    exact ⟨t2, hstep₁ _ fun acts => by rw [doInvoke_state]; exact st.trans a1, b1⟩
  · obtain ⟨t2, a1, b1⟩ := kx x q ce T'.heap _ _ _ e1 hR1 g1 g2 g3 T' rfl X'
    exact ⟨t2, hstep₁ _ fun acts => by rw [doInvoke_state]; exact st.trans a1, b1⟩
theorem rc_S (hx : p.tables.exec = Jvm.exec) (hb : c.code = cc) (hnl : ls.size = c.maxLocals) {own : String} {index : Nat} (hown : s.vm.findClass own = some m.cls) (hK : Kst G s) (hR : RL G M0 M H locs cells slots) {d : Nat} (hRm : RM G R M0 d) {y : MethodName} {bytes : ByteArray} {maxL n : Nat} {ret : Option FieldType} (hy : MS y bytes maxL n ret) (hl : Cond.methodLink own index y ∈ lw_tbl) {As : List Value} (hn : As.length = n) (hcat : (rest.map fun v => v.category).sum ≤ 8) {r : Option Value ⊕ Nat} {M1 : Mem} (hM : CB l G d y As M r M1) (hdg : decode cc pc = .ok (.invokestatic index, 3))
    (kr : ∀ (v : Option Value) (H1 : Heap) (locs1 : List Loc) (cells1 slots1 : Nat), r = .inl v → RL G M0 M1 H1 locs1 cells1 slots1 → W p l e R s m args below meth c H1 locs1 cells1 slots1 Q (F0 m (pc + 3) ls (v.toList ++ rest)))
    (kx : ∀ (x : Nat) (q : Addr) (ce : Cell) (H1 : Heap) (locs1 : List Loc) (cells1 slots1 : Nat), r = .inr x → RL G M0 M1 H1 locs1 cells1 slots1 → H1[q]? = some ce → ce.vm = .none → s.vm.findClass (exN x) = some ce.cls → WT p l e R s m args below meth c H1 locs1 cells1 slots1 Q (F0 m pc ls rest) q) :
    W p l e R s m args below meth c H locs cells slots Q (F0 m pc ls (As.reverse ++ rest)) := by
  intro T hT X
  obtain ⟨y1, y2, y3, y4, y5, y6, y7⟩ := hy
  obtain ⟨d1, d2, d3, d4⟩ := hRm
  obtain ⟨mk, hnamed⟩ := Cond.code_named (hK.w y3 rfl args)
  obtain ⟨methM, cM, hmethM, hcM, -, hlM, -, hlkM, -, hsigM⟩ := Cond.code_spec hnamed (hK.w y3 rfl args)
  have hstatic : methM.isStatic = true := Cond.static_spec hnamed hmethM (hK.w y1 rfl args)
  obtain ⟨kP, hkP, -⟩ := className_of_methodNamed hnamed
  have hinitP : kP.init = .initialized := Cond.initialized_spec (findClass_of_methodNamed hnamed) hkP (hK.w y2 rfl args)
  obtain ⟨vm₁, X₁, hstep₁⟩ := X.invokestatic hx hown (hK.w hl rfl args) hnamed hmethM hstatic hkP hinitP y5 (g := F0 m pc ls (As.reverse ++ rest)) rfl (argsL := As) (rest := rest) (hn.trans (len_of y7 hsigM)) rfl (by rw [hb]; exact hdg)
  have hT1 : (T.setVm vm₁).heap = H := hT
  rcases cb_core X₁ hx hT1 (g := F0 m pc ls rest) rfl hnl (by rw [hb]; exact hdg) hnamed hmethM hcM hlkM (by rw [hlM]; exact y4) y6 hK hR (by simpa using hcat) d1 d2 d3 d4 hM with ⟨v, T', L, c1, s1, e1, X', hR1, st⟩ | ⟨x, q, ce, T', L, c1, s1, e1, X', hR1, g1, g2, g3, st⟩
  · obtain ⟨t2, a1, b1⟩ := kr v T'.heap _ _ _ e1 hR1 T' rfl X'
    exact ⟨t2, hstep₁ _ fun acts => by rw [doInvoke_state]; exact st.trans a1, b1⟩
  · obtain ⟨t2, a1, b1⟩ := kx x q ce T'.heap _ _ _ e1 hR1 g1 g2 g3 T' rfl X'
    exact ⟨t2, hstep₁ _ fun acts => by rw [doInvoke_state]; exact st.trans a1, b1⟩
theorem rc_I (hx : p.tables.exec = Jvm.exec) (hb : c.code = cc) (hnl : ls.size = c.maxLocals) {own : String} {index : Nat} (hown : s.vm.findClass own = some m.cls) (hK : Kst G s) (hR : RL G M0 M H locs cells slots) {d : Nat} (hRm : RM G R M0 d) {y : MethodName} {bytes : ByteArray} {maxL n : Nat} (hy : MN y bytes maxL n) (hl : Cond.methodLink own index y ∈ lw_tbl) {b : Nat} {As : List Value} (hn : As.length = n) (hcat : (rest.map fun v => v.category).sum ≤ 8) {r : Option Value ⊕ Nat} {M1 : Mem} (hM : CB l G d y (.ref b :: As) M r M1) (hdg : decode cc pc = .ok (.invokespecial index, 3))
    (kr : ∀ (v : Option Value) (H1 : Heap) (locs1 : List Loc) (cells1 slots1 : Nat), r = .inl v → RL G M0 M1 H1 locs1 cells1 slots1 → W p l e R s m args below meth c H1 locs1 cells1 slots1 Q (F0 m (pc + 3) ls (v.toList ++ rest)))
    (kx : ∀ (x : Nat) (q : Addr) (ce : Cell) (H1 : Heap) (locs1 : List Loc) (cells1 slots1 : Nat), r = .inr x → RL G M0 M1 H1 locs1 cells1 slots1 → H1[q]? = some ce → ce.vm = .none → s.vm.findClass (exN x) = some ce.cls → WT p l e R s m args below meth c H1 locs1 cells1 slots1 Q (F0 m pc ls rest) q) :
    W p l e R s m args below meth c H locs cells slots Q (F0 m pc ls (As.reverse ++ .ref b :: rest)) := by
  intro T hT X
  obtain ⟨y1, y2, y3, y4, y5, y6, y7⟩ := hy
  obtain ⟨d1, d2, d3, d4⟩ := hRm
  have hpl : e.platform.magicAccessors = ({} : Platform).magicAccessors := by rw [X.admits.platform]
  obtain ⟨mk, methM, cM, kP, vm₁, hnamed, hmethM, hcM, -, hlM, hlkM, hkP, -, hW₁, hstep₁⟩ := Steps.initColdArgs (e := e) X.here hx X.warmed hpl hown y2 y5 (hK.w hl rfl args) (hK.w y1 rfl args) (hK.w y3 rfl args) (f := F0 m pc ls (As.reverse ++ .ref b :: rest)) rfl (a := b) (argsL := As) (rest := rest) (fun sig h => hn.trans (len_of y7 h)) rfl (by rw [hb]; exact hdg)
  have X₁ := X.noted hW₁
  have hT1 : (T.setVm vm₁).heap = H := hT
  rcases cb_core X₁ hx hT1 (g := F0 m pc ls rest) rfl hnl (by rw [hb]; exact hdg) hnamed hmethM hcM hlkM (by rw [hlM]; exact y4) y6 hK hR (by simpa using hcat) d1 d2 d3 d4 hM with ⟨v, T', L, c1, s1, e1, X', hR1, st⟩ | ⟨x, q, ce, T', L, c1, s1, e1, X', hR1, g1, g2, g3, st⟩
  · obtain ⟨t2, a1, b1⟩ := kr v T'.heap _ _ _ e1 hR1 T' rfl X'
    exact ⟨t2, hstep₁ _ fun acts => by rw [doInvoke_state]; exact st.trans a1, b1⟩
  · obtain ⟨t2, a1, b1⟩ := kx x q ce T'.heap _ _ _ e1 hR1 g1 g2 g3 T' rfl X'
    exact ⟨t2, hstep₁ _ fun acts => by rw [doInvoke_state]; exact st.trans a1, b1⟩
/-- a new object -/
theorem RL.new (hR : RL G M0 M H locs cells slots) {H' : Heap} (kd ln sl : Nat) (h1 : mS M + 1 ≤ mC M 0) (h2 : mU M + sl ≤ SLm) (hs : H'.size = H.size + 1) (ho : ∀ q : Nat, q < H.size → H'[q]? = H[q]?) (hat : kd ≠ 0 → RealAt (gD G) (gA G) (newC M kd ln sl) H' (mS M)) : RL G M0 (newC M kd ln sl) H' locs (cells + 1) (slots + sl) := by
  obtain ⟨r1, r2, r3, r4, r5, r6, r7⟩ := hR
  exact ⟨r1.new kd ln sl hs ho hat, r2, by rw [mS_newC]; omega, by rw [mU_newC]; omega, by rw [mC_newC]; exact r5, by rw [mS_newC, mC_newC]; omega, by rw [mU_newC]; omega⟩
theorem rg_new (hx : p.tables.exec = Jvm.exec) (hb : c.code = cc) {own C : String} {T : u_T} {N ci index : Nat} (hown : s.vm.findClass own = some m.cls) (hK : Kst G s) (hR : RL G M0 M H locs cells slots) {d : Nat} (hRm : RM G R M0 d) (hc : hcCl[ci]? = some (C, T, N)) (hl : Cond.classLink own index C ∈ lw_tbl) (hin : Cond.instantiable C N ∈ lw_tbl) (hini : Cond.initialized C ∈ lw_tbl) (h1 : mS M + 1 ≤ mC M 0) (h2 : mU M + N ≤ SLm) (hdg : decode cc pc = .ok (.new index, 3))
    (kk : ∀ H1 : Heap, RL G M0 (newC M (ci + 1) 0 N) H1 locs (cells + 1) (slots + N) → W p l e R s m args below meth c H1 locs (cells + 1) (slots + N) Q (F0 m (pc + 3) ls (.ref (mS M) :: rest))) : W p l e R s m args below meth c H locs cells slots Q (F0 m pc ls rest) := by
  have hKn := hK.2.1.1 ci _ hc
  obtain ⟨d1, d2, d3, d4⟩ := hRm
  have hR' := hR
  obtain ⟨r1, r2, r3, r4, r5, r6, r7⟩ := hR'
  refine W.newcK hx hb hown (hK.w hl rfl args) (hK.w hin rfl args) (hK.w hini rfl args) rfl hdg (by rw [r5] at h1; omega) (by omega) hKn.2.1 r1.1 fun H1 kC hkC e1 z1 o1 => ?_
  have hok := hcOk (C, T, N) (List.mem_of_getElem? hc)
  refine kk H1 (hR.new (ci + 1) 0 N h1 h2 (by rw [z1, r1.1]) (fun q hq => o1 q (by rw [← r1.1]; exact hq)) (fun _ => ⟨fun c2 r2 g1 g2 => ?_, fun g1 => ?_⟩))
  · rw [mK_newC, va_up_self] at g1
    have hcc : ci = c2 := by omega
    subst hcc
    cases hc.symm.trans g2
    refine (u_born (fun k => (parseFieldDescriptor (T k).2.2.1).getD .int) (hK.uw hc args) (fun _ h => h) hKn hkC e1 (fun k hk => ?_)).to (fun k hk => ?_)
    · have h3 := hok.1 k hk
      cases hp : parseFieldDescriptor (T k).2.2.1 with
      | none => rw [hp] at h3; cases h3
      | some t => rfl
    · have h4 := hcDef ci (C, T, N) hc k hk
      show defaultValue ((parseFieldDescriptor (T k).2.2.1).getD .int) = _
      rw [h4]
      simp only [fV, mI_newC, mP_newC, fz_eq]
      cases fR ci k <;> rfl
  · exfalso
    rw [mK_newC, va_up_self] at g1
    have hlt := (List.getElem?_eq_some_iff.mp hc).1
    have hle : hcCl.length ≤ 20 := by decide
    omega
/-- a new array of numbers; nT: its kind by its type -/
theorem rg_newa (hx : p.tables.exec = Jvm.exec) (hb : c.code = cc) (hK : Kst G s) (hR : RL G M0 M H locs cells slots) {d : Nat} (hRm : RM G R M0 d) {atype : ArrayType} {ty : FieldType} {kd : Nat} (hty : newarray.typeOf atype = ty) (hkd : (kd = 21 ∧ ty = .int) ∨ (kd = 22 ∧ ty = .char) ∨ (kd = 23 ∧ ty = .boolean) ∨ (kd = 24 ∧ ty = .long)) (harr : Cond.arrayClass ty ∈ lw_tbl) {n : Int32} (hn : ¬ n < 0) (hN : n.toNatClampNeg ≤ 1000) (h1 : mS M + 1 ≤ mC M 0) (h2 : mU M + n.toNatClampNeg ≤ SLm) (hdg : decode cc pc = .ok (.newarray atype, 2))
    (kk : ∀ H1 : Heap, RL G M0 (newC M kd n.toNatClampNeg n.toNatClampNeg) H1 locs (cells + 1) (slots + n.toNatClampNeg) → W p l e R s m args below meth c H1 locs (cells + 1) (slots + n.toNatClampNeg) Q (F0 m (pc + 2) ls (.ref (mS M) :: rest))) : W p l e R s m args below meth c H locs cells slots Q (F0 m pc ls (.int n :: rest)) := by
  subst hty
  obtain ⟨d1, d2, d3, d4⟩ := hRm
  have hR' := hR
  obtain ⟨r1, r2, r3, r4, r5, r6, r7⟩ := hR'
  have hbyt : n.toNatClampNeg * componentBytes (newarray.typeOf atype) ≤ 536870912 := by
    have h8 : componentBytes (newarray.typeOf atype) ≤ 8 := by cases atype <;> decide
    have := Nat.mul_le_mul hN h8
    omega
  refine va_newaK hx hb (hK.w harr rfl args) rfl hdg rfl hn rfl hbyt (by rw [r5] at h1; omega) (by omega) r1.1 fun H1 cA e1 z1 o1 hAr hNm => ?_
  refine kk H1 (hR.new kd _ _ h1 h2 (by rw [z1, r1.1]) (fun q hq => o1 q (by rw [← r1.1]; exact hq)) (fun hk0 => ⟨fun c2 r2 g1 g2 => ?_, fun g1 => ?_⟩))
  · exfalso
    rw [mK_newC, va_up_self] at g1
    have hlt := (List.getElem?_eq_some_iff.mp g2).1
    have hle : hcCl.length ≤ 20 := by decide
    omega
  · rw [mK_newC, va_up_self]
    rw [e1]
    rcases hkd with ⟨rfl, ht⟩ | ⟨rfl, ht⟩ | ⟨rfl, ht⟩ | ⟨rfl, ht⟩
    · have hcA : cA = (gA G) 21 := by
        have h3 : s.vm.findClass ("[" ++ FieldType.int.toString) = some ((gA G) 21) := (hK.2.1.2 0 _ rfl).2
        rw [ht] at hNm
        exact Option.some.inj (hNm.symm.trans h3)
      rw [hcA, ht, aE_i (by decide), mL_newC, va_up_self]
      congr 2
      funext j
      rw [mI_newC, fz_eq]; rfl
    · have hcA : cA = (gA G) 22 := by
        have h3 : s.vm.findClass ("[" ++ FieldType.char.toString) = some ((gA G) 22) := (hK.2.1.2 1 _ rfl).2
        rw [ht] at hNm
        exact Option.some.inj (hNm.symm.trans h3)
      rw [hcA, ht, aE_i (by decide), mL_newC, va_up_self]
      congr 2
      funext j
      rw [mI_newC, fz_eq]; rfl
    · have hcA : cA = (gA G) 23 := by
        have h3 : s.vm.findClass ("[" ++ FieldType.boolean.toString) = some ((gA G) 23) := (hK.2.1.2 2 _ rfl).2
        rw [ht] at hNm
        exact Option.some.inj (hNm.symm.trans h3)
      rw [hcA, ht, aE_i (by decide), mL_newC, va_up_self]
      congr 2
      funext j
      rw [mI_newC, fz_eq]; rfl
    · have hcA : cA = (gA G) 24 := by
        have h3 : s.vm.findClass ("[" ++ FieldType.long.toString) = some ((gA G) 24) := (hK.2.1.2 3 _ rfl).2
        rw [ht] at hNm
        exact Option.some.inj (hNm.symm.trans h3)
      rw [hcA, ht, aE_l, mL_newC, va_up_self]
      congr 2
      funext j
      rw [mJ_newC, fz_eq]; rfl
/-- a new row of Nodes -/
theorem rg_newq (hx : p.tables.exec = Jvm.exec) (hb : c.code = cc) {own : String} {index : Nat} (hown : s.vm.findClass own = some m.cls) (hK : Kst G s) (hR : RL G M0 M H locs cells slots) {d : Nat} (hRm : RM G R M0 d) (hl : Cond.classLink own index "HeadCount$Node" ∈ lw_tbl) {n : Int32} (hn : ¬ n < 0) (hN : n.toNatClampNeg ≤ 1000) (h1 : mS M + 1 ≤ mC M 0) (h2 : mU M + n.toNatClampNeg ≤ SLm) (hdg : decode cc pc = .ok (.anewarray index, 3))
    (kk : ∀ H1 : Heap, RL G M0 (newC M 25 n.toNatClampNeg n.toNatClampNeg) H1 locs (cells + 1) (slots + n.toNatClampNeg) → W p l e R s m args below meth c H1 locs (cells + 1) (slots + n.toNatClampNeg) Q (F0 m (pc + 3) ls (.ref (mS M) :: rest))) : W p l e R s m args below meth c H locs cells slots Q (F0 m pc ls (.int n :: rest)) := by
  obtain ⟨d1, d2, d3, d4⟩ := hRm
  have hR' := hR
  obtain ⟨r1, r2, r3, r4, r5, r6, r7⟩ := hR'
  have hsz := r1.1
  refine W.anew hx hb hown (hK.w hl rfl args) (va_AO.use hK.2.2.1) rfl hdg rfl hn (by omega) (by rw [r5] at h1; omega) (by omega) fun cA kA comp f1 f2 f3 f4 => ?_
  generalize hH1 : H.push ({ cls := cA, slots := Array.replicate n.toNatClampNeg .null, vm := .none } : Cell) = H1
  have z1 : H1.size = H.size + 1 := by rw [← hH1, Array.size_push]
  have e1 : H1[H.size]? = some (arrV cA n.toNatClampNeg (fun _ => .null)) := by rw [← hH1, Array.getElem?_push_size, ← arrV_new]
  have o1 : ∀ q : Nat, q < H.size → H1[q]? = H[q]? := fun q hq => by rw [← hH1, Array.getElem?_push, if_neg (Nat.ne_of_lt hq)]
  rw [hsz]
  refine kk H1 (hR.new 25 _ _ h1 h2 z1 o1 (fun hk0 => ⟨fun c2 r2 g1 g2 => ?_, fun g1 => ?_⟩))
  · exfalso
    rw [mK_newC, va_up_self] at g1
    have hlt := (List.getElem?_eq_some_iff.mp g2).1
    have hle : hcCl.length ≤ 20 := by decide
    omega
  · rw [mK_newC, va_up_self, ← hsz, e1]
    have hcA : cA = (gA G) 25 := by
      obtain ⟨kA', comp', k1, k2, k3, k4⟩ := (hK.2.1.2 4 _ rfl).2
      exact Option.some.inj (f1.symm.trans k4)
    rw [hcA, aE_p, mL_newC, ← hsz, va_up_self]
    congr 2
    funext j
    rw [mP_newC, ← hsz, fz_eq]; rfl
end RowsC
