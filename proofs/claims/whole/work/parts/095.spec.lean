/-! rows: the text's constant, the library's own, and throwing -/
section RowsS
variable {p : Program} {l : Launch} {e : Env} {R : Room} {s : State} {m : MethodId} {args : Array Value} {below : List Frame} {meth : Method} {c : Code} {H : Heap} {locs : List Loc} {cells slots : Nat} {Q : State → Prop}
variable {cc : ByteArray} {pc : Nat} {ls : Array Slot} {rest : List Value} {G : Gx} {M0 M : Mem} {a : Nat}
theorem old_at (hR : RL G M0 M H locs cells slots) {q : Nat} (h : ¬ gO G q) : H[q]? = (gH G)[q]? := hR.1.2.2.1 q (Nat.not_le.mp h)
theorem rs_recv (hK : Kst G s) (hR : RL G M0 M H locs cells slots) (ha : a = mC M 1) : ∃ cell : Cell, H[a]? = some cell ∧ cell.vm.isStatics = false ∧ s.vm.findClass "java/lang/String" = some cell.cls := by
  obtain ⟨cell, h1, h2, h3, h4⟩ := (hK.2.2.2.2.1.1 0 (by decide)).1
  have hc := hR.2.2.2.2.1
  rw [hc] at ha
  subst ha
  exact ⟨cell, by rw [old_at hR h4]; exact h1, h2, h3⟩
theorem rs_value (hx : p.tables.exec = Jvm.exec) (hb : c.code = cc) {own : String} {index : Nat} (hown : s.vm.findClass own = some m.cls) (hK : Kst G s) (hR : RL G M0 M H locs cells slots) (ha : a = mC M 1) (hl : Cond.fieldLink own index "java/lang/String" "value" "[B" ∈ lw_tbl) (hdg : decode cc pc = .ok (.getfield index, 3))
    (kk : W p l e R s m args below meth c H locs cells slots Q (F0 m (pc + 3) ls (.ref (mC M 5) :: rest))) : W p l e R s m args below meth c H locs cells slots Q (F0 m pc ls (.ref a :: rest)) := by
  obtain ⟨cf, k, fi, f, cell, h1, h2, h3, h4, h5, h6⟩ := (hK.2.2.2.2.1.1 0 (by decide)).2.2.1
  have hc := hR.2.2.2.2.1
  rw [hc] at ha kk
  subst ha
  exact W.getf hx hb hown (hK.w hl rfl args) h1 h2 (by rw [old_at hR h6]; exact h3) h4 h5 rfl rfl hdg kk
theorem rs_coder (hx : p.tables.exec = Jvm.exec) (hb : c.code = cc) {own : String} {index : Nat} (hown : s.vm.findClass own = some m.cls) (hK : Kst G s) (hR : RL G M0 M H locs cells slots) (ha : a = mC M 1) (hl : Cond.fieldLink own index "java/lang/String" "coder" "B" ∈ lw_tbl) (hdg : decode cc pc = .ok (.getfield index, 3))
    (kk : W p l e R s m args below meth c H locs cells slots Q (F0 m (pc + 3) ls (.int 0 :: rest))) : W p l e R s m args below meth c H locs cells slots Q (F0 m pc ls (.ref a :: rest)) := by
  obtain ⟨cf, k, fi, f, cell, h1, h2, h3, h4, h5, h6⟩ := (hK.2.2.2.2.1.1 0 (by decide)).2.1
  have hc := hR.2.2.2.2.1
  rw [hc] at ha
  subst ha
  exact W.getf hx hb hown (hK.w hl rfl args) h1 h2 (by rw [old_at hR h6]; exact h3) h4 h5 rfl rfl hdg kk
theorem rs_compact (hx : p.tables.exec = Jvm.exec) (hb : c.code = cc) {own : String} {index : Nat} (hown : s.vm.findClass own = some m.cls) (hK : Kst G s) (hR : RL G M0 M H locs cells slots) (hl : Cond.fieldLink own index "java/lang/String" "COMPACT_STRINGS" "Z" ∈ lw_tbl) (hdg : decode cc pc = .ok (.getstatic index, 3))
    (kk : W p l e R s m args below meth c H locs cells slots Q (F0 m (pc + 3) ls (.int 1 :: rest))) : W p l e R s m args below meth c H locs cells slots Q (F0 m pc ls rest) := by
  obtain ⟨cf, kf, fi, f, a, cell, h1, h2, h3, h4, h5, h6, h7, h8⟩ := hK.2.2.2.2.2.1
  exact W.gets hx hb hown (hK.w hl rfl args) h1 h2 h3 h4 (by rw [old_at hR h8]; exact h5) (fun e => by rw [e] at h6; cases h6) h7 rfl hdg kk
theorem rs_bald (hx : p.tables.exec = Jvm.exec) (hb : c.code = cc) (hK : Kst G s) (hR : RL G M0 M H locs cells slots) {i : Int32} (ha : a = mC M 5) (hin : inA i 6) (hdg : decode cc pc = .ok (.baload, 1))
    (kk : W p l e R s m args below meth c H locs cells slots Q (F0 m (pc + 1) ls (.int (sVar.getD i.toNatClampNeg 0) :: rest))) : W p l e R s m args below meth c H locs cells slots Q (F0 m pc ls (.int i :: .ref a :: rest)) := by
  obtain ⟨cell, h1, h2, h3, h4, h5, h6, h7⟩ := (hK.2.2.2.2.1.1 0 (by decide)).2.2.2
  have hc := hR.2.2.2.2.1
  rw [hc] at ha
  subst ha
  have hlt : i.toNatClampNeg < 6 := Nat.not_le.mp fun q => hin (Or.inr q)
  have h4' : 6 ≤ cell.slots.size := h4
  exact W.bald hx hb (by rw [old_at hR h7]; exact h1) h2 h3 (fun q => q.elim (fun z => hin (Or.inl z)) (fun z => by omega)) (h6 _ hlt) rfl rfl hdg kk
theorem rs_blen (hx : p.tables.exec = Jvm.exec) (hb : c.code = cc) (hK : Kst G s) (hR : RL G M0 M H locs cells slots) (ha : a = mC M 5) (hdg : decode cc pc = .ok (.arraylength, 1))
    (kk : W p l e R s m args below meth c H locs cells slots Q (F0 m (pc + 1) ls (.int 6 :: rest))) : W p l e R s m args below meth c H locs cells slots Q (F0 m pc ls (.ref a :: rest)) := by
  obtain ⟨cell, h1, h2, h3, h4, h5, h6, h7⟩ := (hK.2.2.2.2.1.1 0 (by decide)).2.2.2
  have hc := hR.2.2.2.2.1
  rw [hc] at ha
  subst ha
  exact W.alen (n := 6) hx hb (by rw [old_at hR h7]; exact h1) h2 h5 rfl rfl hdg kk
theorem rs_max (hx : p.tables.exec = Jvm.exec) (hb : c.code = cc) (hml : c.maxLocals = ls.size) {own : String} {index : Nat} (hown : s.vm.findClass own = some m.cls) (hK : Kst G s) (hR : RL G M0 M H locs cells slots) {d : Nat} (hRm : RM G R M0 d) (hl : Cond.methodLink own index Lib.Math.max.name ∈ lw_tbl) (hcat : (rest.map fun v => v.category).sum ≤ 8) {x y : Int32} (hdg : decode cc pc = .ok (.invokestatic index, 3))
    (kk : W p l e R s m args below meth c H locs cells slots Q (F0 m (pc + 3) ls (.int (if x < y then y else x) :: rest))) : W p l e R s m args below meth c H locs cells slots Q (F0 m pc ls (.int y :: .int x :: rest)) := by
  obtain ⟨d1, d2, d3, d4⟩ := hRm
  obtain ⟨r1, r2, r3, r4, r5, r6, r7⟩ := hR
  rw [r5] at r6
  exact va_mmax hx hb hml hown (hK.w hl rfl args) (hK.w km_max.1 rfl args) (hK.w km_ini rfl args) (hK.w km_max.2 rfl args) (by omega) (by omega) (by omega) (by omega) hdg kk
theorem rs_min (hx : p.tables.exec = Jvm.exec) (hb : c.code = cc) (hml : c.maxLocals = ls.size) {own : String} {index : Nat} (hown : s.vm.findClass own = some m.cls) (hK : Kst G s) (hR : RL G M0 M H locs cells slots) {d : Nat} (hRm : RM G R M0 d) (hl : Cond.methodLink own index Lib.Math.min.name ∈ lw_tbl) (hcat : (rest.map fun v => v.category).sum ≤ 8) {x y : Int32} (hdg : decode cc pc = .ok (.invokestatic index, 3))
    (kk : W p l e R s m args below meth c H locs cells slots Q (F0 m (pc + 3) ls (.int (if y < x then y else x) :: rest))) : W p l e R s m args below meth c H locs cells slots Q (F0 m pc ls (.int y :: .int x :: rest)) := by
  obtain ⟨d1, d2, d3, d4⟩ := hRm
  obtain ⟨r1, r2, r3, r4, r5, r6, r7⟩ := hR
  rw [r5] at r6
  exact va_mmin hx hb hml hown (hK.w hl rfl args) (hK.w km_min.1 rfl args) (hK.w km_ini rfl args) (hK.w km_min.2 rfl args) (by omega) (by omega) (by omega) (by omega) hdg kk
theorem rc_VS (hx : p.tables.exec = Jvm.exec) (hb : c.code = cc) (hnl : ls.size = c.maxLocals) {own : String} {index : Nat} (hown : s.vm.findClass own = some m.cls) (hK : Kst G s) (hR : RL G M0 M H locs cells slots) {d : Nat} (hRm : RM G R M0 d) {y : MethodName} {bytes : ByteArray} {maxL n : Nat} {ret : Option FieldType} (hy : MV y bytes maxL n ret) (hl : Cond.methodLink own index y ∈ lw_tbl) (hcy : y.cls = "java/lang/String") {b : Nat} {As : List Value} (hn : As.length = n) (hbs : b = mC M 1) (hcat : (rest.map fun v => v.category).sum ≤ 8) {r : Option Value ⊕ Nat} {M1 : Mem} (hM : CB l G d y (.ref b :: As) M r M1) (hdg : decode cc pc = .ok (.invokevirtual index, 3))
    (kr : ∀ (v : Option Value) (H1 : Heap) (locs1 : List Loc) (cells1 slots1 : Nat), r = .inl v → RL G M0 M1 H1 locs1 cells1 slots1 → W p l e R s m args below meth c H1 locs1 cells1 slots1 Q (F0 m (pc + 3) ls (v.toList ++ rest)))
    (kx : ∀ (x : Nat) (q : Addr) (ce : Cell) (H1 : Heap) (locs1 : List Loc) (cells1 slots1 : Nat), r = .inr x → RL G M0 M1 H1 locs1 cells1 slots1 → H1[q]? = some ce → ce.vm = .none → s.vm.findClass (exN x) = some ce.cls → WT p l e R s m args below meth c H1 locs1 cells1 slots1 Q (F0 m pc ls rest) q) :
    W p l e R s m args below meth c H locs cells slots Q (F0 m pc ls (As.reverse ++ .ref b :: rest)) := by
  intro T hT X
  obtain ⟨y1, y2, y3, y4, y5, y6, y7⟩ := hy
  obtain ⟨d1, d2, d3, d4⟩ := hRm
  obtain ⟨cellB, b1, b3, b2⟩ := rs_recv hK hR hbs
  have hcls : s.vm.findClass y.cls = some cellB.cls := by rw [hcy]; exact b2
  obtain ⟨mk, methM, hnamed, hmethM, hstM, habM⟩ := Cond.instanceMethod_spec (hK.w y1 rfl args)
  obtain ⟨methM', cM, hmethM', hcM, -, hlM, -, hlkM, -, hsigM⟩ := Cond.code_spec hnamed (hK.w y3 rfl args)
  cases hmethM.symm.trans hmethM'
  obtain ⟨c2, r2, m2, q1, q2, q3, q4, kP, hkP, hkPi⟩ := Cond.selects_spec (hK.w y2 rfl args)
  cases hcls.symm.trans q1
  cases (State.methodFound?_of_named hnamed y5).symm.trans q2
  cases hnamed.symm.trans q3
  have hselP : selectMethod e.platform s.vm cellB.cls mk = .method mk := by rw [Launch.admits_selectMethod X.admits]; exact q4
  obtain ⟨vm₁, X₁, hstep₁⟩ := X.invokevirtual hx hown (hK.w hl rfl args) hnamed hmethM hstM hkP hkPi y5 (a := b) (cell := cellB) (by rw [hT]; exact b1)
    (fun z h => by rw [h] at b3; cases b3) hselP hmethM habM hkP hkPi (g := F0 m pc ls (As.reverse ++ .ref b :: rest)) rfl (argsL := As) (rest := rest) (hn.trans (len_of y7 hsigM)) rfl (by rw [hb]; exact hdg)
  have hT1 : (T.setVm vm₁).heap = H := hT
  rcases cb_core X₁ hx hT1 (g := F0 m pc ls rest) rfl hnl (by rw [hb]; exact hdg) hnamed hmethM hcM hlkM (by rw [hlM]; exact y4) y6 hK hR (by simpa using hcat) d1 d2 d3 d4 hM with ⟨v, T', L, c1, s1, e1, X', hR1, st⟩ | ⟨x, q, ce, T', L, c1, s1, e1, X', hR1, g1, g2, g3, st⟩
  · obtain ⟨t2, a1, b1⟩ := kr v T'.heap _ _ _ e1 hR1 T' rfl X'
    exact ⟨t2, hstep₁ _ fun acts => by rw [doInvoke_state]; exact st.trans a1, b1⟩
  · obtain ⟨t2, a1, b1⟩ := kx x q ce T'.heap _ _ _ e1 hR1 g1 g2 g3 T' rfl X'
    exact ⟨t2, hstep₁ _ fun acts => by rw [doInvoke_state]; exact st.trans a1, b1⟩
end RowsS
/-! what is thrown: the words of it -/
def xN4 : List Cond := [.isRef (.static "java/lang/Throwable" "UNASSIGNED_STACK" "[Ljava/lang/StackTraceElement;"), .isRef (.static "java/lang/Throwable" "SUPPRESSED_SENTINEL" "Ljava/util/List;"), .laysStatic "java/lang/Throwable" "UNASSIGNED_STACK" "[Ljava/lang/StackTraceElement;", .laysStatic "java/lang/Throwable" "SUPPRESSED_SENTINEL" "Ljava/util/List;"]
def xNm : List String := ["java/lang/RuntimeException", "java/lang/Exception"]
def xOk (own : String) (ic : Nat) (X : String) : Bool := (Bundle.ownAtoms own ic X xNm).all (fun w => (decide (w ∈ lw_tbl) && (goodWord w || dcw w)) || decide (w ∈ xN4))
theorem xw_P_156 : xOk "HeadCount$Parser" 156 "java/lang/IllegalArgumentException" = true := by decide +kernel
theorem xw_H_72 : xOk "HeadCount" 72 "java/lang/IllegalStateException" = true := by decide +kernel
theorem xw_H_79 : xOk "HeadCount" 79 "java/lang/IllegalArgumentException" = true := by decide +kernel
section RowsX
variable {p : Program} {l : Launch} {e : Env} {R : Room} {s : State} {m : MethodId} {args : Array Value} {below : List Frame} {meth : Method} {c : Code} {cc : ByteArray} {pc : Nat} {ls : Array Slot} {rest : List Value} {G : Gx} {M : Mem}
theorem xs_frame {locs : List Loc} {U : State} {k n : Nat} (h : s.sameButNew ({ U with vm := s.vm } : State) locs k n) : s.heap.size ≤ U.heap.size ∧ U.heap.size ≤ s.heap.size + k ∧ ∀ q : Nat, q < s.heap.size → (∀ z ∈ locs, z.base ≠ q) → U.heap[q]? = s.heap[q]? := by
  obtain ⟨-, h2, h3, -, -, h6⟩ := h
  refine ⟨h2, h3, fun q hq hz => ?_⟩
  obtain ⟨c9, e1, e2, e3, e4⟩ := h6 q _ (Array.getElem?_eq_getElem hq)
  have hs : c9.slots = (s.heap[q]).slots := Array.ext_getElem? fun i => e4 i fun hm => hz _ hm rfl
  have h9 : c9 = s.heap[q] := by
    rw [hs] at e2
    exact e2
  have e5 : U.heap[q]? = some c9 := e1
  rw [e5, h9, Array.getElem?_eq_getElem hq]
theorem StF.lays {C n d : String} (h : StF C n d G s) (hR : Real G M s.heap) : (Cond.laysStatic C n d).before args s = true := by
  obtain ⟨c, k, i, f, a, cell, v, h1, h2, h3, h4, h5, h6, h7, h8, h9, h10, h11, h12⟩ := h
  show (Cond.laysStatic C n d).holds args s none s [] = true
  exact Cond.laysStatic_of h1 h2 h3 h4 (by rw [hR.2.2.1 a h12]; exact h5) h6 h7 h8 h9
theorem StF.isRef {C n d : String} (h : StF C n d G s) (hR : Real G M s.heap) : (Cond.isRef (.static C n d)).before args s = true := by
  obtain ⟨c, k, i, f, a, cell, v, h1, h2, h3, h4, h5, h6, h7, h8, h9, h10, h11, h12⟩ := h
  have h5' : s.heap[a]? = some cell := by rw [hR.2.2.1 a h12]; exact h5
  have he : (Term.static C n d).eval args s none [] s = some v := by
    simp [Term.eval, State.fieldNamed?, h2, h3, h4, h5', h6, h10]
  simp only [Cond.before, Cond.holds, Cond.value, he]
  cases v <;> simp_all [Value.isRef]
theorem xs_words (hK : Kst G s) (hR : Real G M s.heap) {own X : String} {ic : Nat} (hw : xOk own ic X = true) : ∀ w ∈ Bundle.ownAtoms own ic X xNm, w.before args s = true := by
  intro w hin
  have h1 := List.all_eq_true.mp hw w hin
  simp only [Bool.or_eq_true, Bool.and_eq_true, decide_eq_true_eq] at h1
  obtain ⟨-, -, -, o1, o2, -, -, o3⟩ := hK.2.2.2
  rcases h1 with ⟨h2, h3 | h3⟩ | h2
  · exact hK.w h2 h3 args
  · exact dcw_use h3 (o3 w h2 h3) args
  · simp only [xN4, List.mem_cons, List.not_mem_nil, or_false] at h2
    rcases h2 with rfl | rfl | rfl | rfl
    · exact o1.isRef hR
    · exact o2.isRef hR
    · exact o1.lays hR
    · exact o2.lays hR
theorem exN_fit (x : Nat) : Bundle.fit (exN x) = true := by
  unfold exN
  split <;> decide
set_option maxHeartbeats 1000000 in
theorem rg_throw (hl9 : l.stackTraces = false) (hx : p.tables.exec = Jvm.exec) (hb : c.code = cc) {own : String} (hown : s.vm.findClass own = some m.cls) (hlk : meth.locks = false) (hex : c.exceptionTable.isEmpty = true) (hK : Kst G s) {d : Nat} (hRm : RM G R M d) (h8 : 8 ≤ d) (hR : RL G M M s.heap [] 0 0) (x : Nat) {ik is ic : Nat} (kc : Cond.classLink own ik (exN x) ∈ lw_tbl) (xi : Cond.instantiable (exN x) 6 ∈ lw_tbl) (xz : Cond.initialized (exN x) ∈ lw_tbl) (xw : xOk own ic (exN x) = true) {tx : String} {sa : Nat} (vk : vk_R own is tx sa s) (hsize : ls.size = c.maxLocals) (h1 : mS M + 1 ≤ mC M 0) (h2 : mU M + 6 ≤ SLm)
    (d0 : decode cc pc = .ok (.new ik, 3)) (d3 : decode cc (pc + 3) = .ok (.dup, 1)) (d4 : decode cc (pc + 4) = .ok (.ldc is, 2)) (d6 : decode cc (pc + 6) = .ok (.invokespecial ic, 3)) (d9 : decode cc (pc + 9) = .ok (.athrow, 1)) :
    W p l e R s m args below meth c s.heap [] 0 0 (CQ G below s M (.inr x) (newC M 0 0 6)) (F0 m pc ls []) := by
  intro T hT X
  have htr : e.platform.stackTraces = false := (show e.platform.stackTraces = l.stackTraces by rw [X.admits.platform]).trans hl9
  obtain ⟨r1, r2, r3, r4⟩ := hRm
  obtain ⟨q1, q2, q3, q4, q5, q6, q7⟩ := hR
  have h := xs_words (args := args) hK q1 xw
  have h1' := h1
  rw [q5] at h1'
  obtain ⟨vm₁, cX, kX, hfX, hkX, -, -, X₁, st1⟩ := X.newCold hx (own := own) (C := exN x) (index := ik) (n := 6) hown (hK.w kc rfl args) (hK.w xi rfl args) (hK.w xz rfl args)
    (g := F0 m pc ls []) rfl (by rw [hb]; exact d0) (by omega) (by omega)
  generalize hT1 : (T.setVm vm₁).pushCell { cls := cX, slots := kX.instanceTypes.map defaultValue, vm := .none } = T1 at X₁ st1
  have hcat : (Value.ref T.heap.size).category = 1 := rfl
  have hcellA : T1.heap[T.heap.size]? = some (freshCell cX kX) := by rw [← hT1]; exact State.heap_pushCell_size _ _
  have d3' : decode c.code (pc + 3) = .ok (.dup, 1) := by rw [hb]; exact d3
  have d4' : decode c.code (pc + 4) = .ok (.ldc is, 2) := by rw [hb]; exact d4
  have hout : ∀ y ∈ c.exceptionTable.toList, covers y (pc + 6 + 3) = false := fun y hy => by
    have he : c.exceptionTable.toList = [] := by simpa [Array.isEmpty] using hex
    rw [he] at hy
    cases hy
  have hnm : ∀ n ∈ xNm, Bundle.fit n = true := by decide
  obtain ⟨U, hsteps, hrun, hend, hW, hsame, ce, hce, hO⟩ := X₁.ctorThrowS hx htr (own := own) (cls := exN x) (names := xNm) (ic := ic) hown (exN_fit x) hnm h (fun x hx => nomatch hx) hfX hkX hcellA (by rw [hT]; exact Nat.le_refl _) (msg := .ref sa) rfl
    (g := { method := m, pc := pc + 6, locals := ls, stack := .ref sa :: .ref T.heap.size :: .ref T.heap.size :: [], locked := none }) rfl hsize rfl rfl (rest := []) rfl
    (by rw [hb]; exact d6) (by rw [hb]; exact d9) hout (by show 5 < R.frames; omega) (by simp only [List.map_cons, List.sum_cons, List.map_nil, List.sum_nil, hcat, xNm, List.length_cons, List.length_nil]; omega) hlk
  obtain ⟨f1, f3, f2⟩ := xs_frame hsame
  have hlt := (Array.getElem?_eq_some_iff.mp hce).1
  have hz : s.heap.size = mS M := q1.1
  rw [hT] at hlt
  have e1 : mS (newC M 0 0 6) - mS M = 1 := by rw [mS_newC]; omega
  have e2 : mU (newC M 0 0 6) - mU M = 6 := by rw [mU_newC]; omega
  refine ⟨U, ?_, .threw T.heap.size, [], hrun, hend, hW, by rw [e1, e2]; exact hsame, fun q hq => absurd hq List.not_mem_nil, q1.new 0 0 6 (by omega) (fun q hq => f2 q hq (fun z hz => absurd hz List.not_mem_nil)) (fun h0 => absurd rfl h0), by rw [mS_newC]; omega, by rw [mU_newC]; omega, by rw [mC_newC]; exact q5, by rw [mS_newC, mC_newC]; exact h1, by rw [mU_newC]; exact h2, T.heap.size, ce, rfl, hce, hO.vm, hO.cls⟩
  refine st1 _ ?_
  show Steps p.tables e below (T1.setTop { method := m, pc := pc + 3, locals := ls, stack := .ref T.heap.size :: [], locked := none }) _
  jvm_step X₁.here [X₁.here.top, hx, d3', Value.category]
  exact X₁.ldcString hx (own := own) (text := tx) (index := is) (a := sa) hown vk.1 vk.2
    (g := { method := m, pc := pc + 4, locals := ls, stack := .ref T.heap.size :: .ref T.heap.size :: [], locked := none }) rfl d4' _ hsteps
end RowsX
