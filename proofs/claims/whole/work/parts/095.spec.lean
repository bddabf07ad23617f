/-! rows: the text's constant, the library's own, and throwing -/
section RowsS
variable {p : Program} {l : Launch} {e : Env} {R : Room} {s : State} {m : MethodId} {args : Array Value} {below : List Frame} {meth : Method} {c : Code} {H : Heap} {locs : List Loc} {cells slots : Nat} {Q : State → Prop}
variable {cc : ByteArray} {pc : Nat} {ls : Array Slot} {rest : List Value} {G : Gx} {M0 M : Mem} {a : Nat}
theorem old_at (hR : RL G M0 M H locs cells slots) {q : Nat} (h : ¬ gO G q) : H[q]? = (gH G)[q]? := hR.1.2.2.1 q (Nat.not_le.mp h)
theorem rs_recv (hK : Kst G s) (hR : RL G M0 M H locs cells slots) (ha : a = mC M 1) : ∃ cell : Cell, H[a]? = some cell ∧ cell.vm.isStatics = false ∧ s.vm.findClass "java/lang/String" = some cell.cls := by
  obtain ⟨cell, h1, h2, h3, h4⟩ := (hK.2.2.2.2.1.1 0 (by decide)).1
  have hc := hR.2.2.2.2.1
  rw [hc] at ha
  subst ha
  exact ⟨cell, by rw [old_at hR h4]; exact h1, h2, h3⟩
theorem rs_value (hx : p.tables.exec = Jvm.exec) (hb : c.code = cc) {own : String} {index : Nat} (hown : s.vm.findClass own = some m.cls) (hK : Kst G s) (hR : RL G M0 M H locs cells slots) (ha : a = mC M 1) (hl : Cond.fieldLink own index "java/lang/String" "value" "[B" ∈ lw_tbl) (hdg : decode cc pc = .ok (.getfield index, 3))
    (kk : W p l e R s m args below meth c H locs cells slots Q (F0 m (pc + 3) ls (.ref (mC M 5) :: rest))) : W p l e R s m args below meth c H locs cells slots Q (F0 m pc ls (.ref a :: rest)) := by
  obtain ⟨cf, k, fi, f, cell, h1, h2, h3, h4, h5, h6⟩ := (hK.2.2.2.2.1.1 0 (by decide)).2.2.1
  have hc := hR.2.2.2.2.1
  rw [hc] at ha kk
  subst ha
  exact W.getf hx hb hown (hK.w hl rfl args) h1 h2 (by rw [old_at hR h6]; exact h3) h4 h5 rfl rfl hdg kk
theorem rs_coder (hx : p.tables.exec = Jvm.exec) (hb : c.code = cc) {own : String} {index : Nat} (hown : s.vm.findClass own = some m.cls) (hK : Kst G s) (hR : RL G M0 M H locs cells slots) (ha : a = mC M 1) (hl : Cond.fieldLink own index "java/lang/String" "coder" "B" ∈ lw_tbl) (hdg : decode cc pc = .ok (.getfield index, 3))
    (kk : W p l e R s m args below meth c H locs cells slots Q (F0 m (pc + 3) ls (.int 0 :: rest))) : W p l e R s m args below meth c H locs cells slots Q (F0 m pc ls (.ref a :: rest)) := by
  obtain ⟨cf, k, fi, f, cell, h1, h2, h3, h4, h5, h6⟩ := (hK.2.2.2.2.1.1 0 (by decide)).2.1
  have hc := hR.2.2.2.2.1
  rw [hc] at ha
  subst ha
  exact W.getf hx hb hown (hK.w hl rfl args) h1 h2 (by rw [old_at hR h6]; exact h3) h4 h5 rfl rfl hdg kk
theorem rs_compact (hx : p.tables.exec = Jvm.exec) (hb : c.code = cc) {own : String} {index : Nat} (hown : s.vm.findClass own = some m.cls) (hK : Kst G s) (hR : RL G M0 M H locs cells slots) (hl : Cond.fieldLink own index "java/lang/String" "COMPACT_STRINGS" "Z" ∈ lw_tbl) (hdg : decode cc pc = .ok (.getstatic index, 3))
    (kk : W p l e R s m args below meth c H locs cells slots Q (F0 m (pc + 3) ls (.int 1 :: rest))) : W p l e R s m args below meth c H locs cells slots Q (F0 m pc ls rest) := by
  obtain ⟨cf, kf, fi, f, a, cell, h1, h2, h3, h4, h5, h6, h7, h8⟩ := hK.2.2.2.2.2.1
  exact W.gets hx hb hown (hK.w hl rfl args) h1 h2 h3 h4 (by rw [old_at hR h8]; exact h5) (fun e => by rw [e] at h6; cases h6) h7 rfl hdg kk
theorem rs_bald (hx : p.tables.exec = Jvm.exec) (hb : c.code = cc) (hK : Kst G s) (hR : RL G M0 M H locs cells slots) {i : Int32} (ha : a = mC M 5) (hin : inA i 6) (hdg : decode cc pc = .ok (.baload, 1))
    (kk : W p l e R s m args below meth c H locs cells slots Q (F0 m (pc + 1) ls (.int (sVar.getD i.toNatClampNeg 0) :: rest))) : W p l e R s m args below meth c H locs cells slots Q (F0 m pc ls (.int i :: .ref a :: rest)) := by
  obtain ⟨cell, h1, h2, h3, h4, h5, h6, h7⟩ := (hK.2.2.2.2.1.1 0 (by decide)).2.2.2
  have hc := hR.2.2.2.2.1
  rw [hc] at ha
  subst ha
  have hlt : i.toNatClampNeg < 6 := Nat.not_le.mp fun q => hin (Or.inr q)
  have h4' : 6 ≤ cell.slots.size := h4
  exact W.bald hx hb (by rw [old_at hR h7]; exact h1) h2 h3 (fun q => q.elim (fun z => hin (Or.inl z)) (fun z => by omega)) (h6 _ hlt) rfl rfl hdg kk
theorem rs_blen (hx : p.tables.exec = Jvm.exec) (hb : c.code = cc) (hK : Kst G s) (hR : RL G M0 M H locs cells slots) (ha : a = mC M 5) (hdg : decode cc pc = .ok (.arraylength, 1))
    (kk : W p l e R s m args below meth c H locs cells slots Q (F0 m (pc + 1) ls (.int 6 :: rest))) : W p l e R s m args below meth c H locs cells slots Q (F0 m pc ls (.ref a :: rest)) := by
  obtain ⟨cell, h1, h2, h3, h4, h5, h6, h7⟩ := (hK.2.2.2.2.1.1 0 (by decide)).2.2.2
  have hc := hR.2.2.2.2.1
  rw [hc] at ha
  subst ha
  exact W.alen (n := 6) hx hb (by rw [old_at hR h7]; exact h1) h2 h5 rfl rfl hdg kk
theorem rs_max (hx : p.tables.exec = Jvm.exec) (hb : c.code = cc) (hml : c.maxLocals = ls.size) {own : String} {index : Nat} (hown : s.vm.findClass own = some m.cls) (hK : Kst G s) (hR : RL G M0 M H locs cells slots) {d : Nat} (hRm : RM G R M0 d) (hl : Cond.methodLink own index Lib.Math.max.name ∈ lw_tbl) (hcat : (rest.map fun v => v.category).sum ≤ 8) {x y : Int32} (hdg : decode cc pc = .ok (.invokestatic index, 3))
    (kk : W p l e R s m args below meth c H locs cells slots Q (F0 m (pc + 3) ls (.int (if x < y then y else x) :: rest))) : W p l e R s m args below meth c H locs cells slots Q (F0 m pc ls (.int y :: .int x :: rest)) := by
  obtain ⟨d1, d2, d3, d4⟩ := hRm
  obtain ⟨r1, r2, r3, r4, r5, r6, r7⟩ := hR
  rw [r5] at r6
  exact va_mmax hx hb hml hown (hK.w hl rfl args) (hK.w km_max.1 rfl args) (hK.w km_ini rfl args) (hK.w km_max.2 rfl args) (by omega) (by omega) (by omega) (by omega) hdg kk
theorem rs_min (hx : p.tables.exec = Jvm.exec) (hb : c.code = cc) (hml : c.maxLocals = ls.size) {own : String} {index : Nat} (hown : s.vm.findClass own = some m.cls) (hK : Kst G s) (hR : RL G M0 M H locs cells slots) {d : Nat} (hRm : RM G R M0 d) (hl : Cond.methodLink own index Lib.Math.min.name ∈ lw_tbl) (hcat : (rest.map fun v => v.category).sum ≤ 8) {x y : Int32} (hdg : decode cc pc = .ok (.invokestatic index, 3))
    (kk : W p l e R s m args below meth c H locs cells slots Q (F0 m (pc + 3) ls (.int (if y < x then y else x) :: rest))) : W p l e R s m args below meth c H locs cells slots Q (F0 m pc ls (.int y :: .int x :: rest)) := by
  obtain ⟨d1, d2, d3, d4⟩ := hRm
  obtain ⟨r1, r2, r3, r4, r5, r6, r7⟩ := hR
  rw [r5] at r6
  exact va_mmin hx hb hml hown (hK.w hl rfl args) (hK.w km_min.1 rfl args) (hK.w km_ini rfl args) (hK.w km_min.2 rfl args) (by omega) (by omega) (by omega) (by omega) hdg kk
theorem rc_VS (hx : p.tables.exec = Jvm.exec) (hb : c.code = cc) (hnl : ls.size = c.maxLocals) {own : String} {index : Nat} (hown : s.vm.findClass own = some m.cls) (hK : Kst G s) (hR : RL G M0 M H locs cells slots) {d : Nat} (hRm : RM G R M0 d) {y : MethodName} {bytes : ByteArray} {maxL n : Nat} {ret : Option FieldType} (hy : MV y bytes maxL n ret) (hl : Cond.methodLink own index y ∈ lw_tbl) (hcy : y.cls = "java/lang/String") {b : Nat} {As : List Value} (hn : As.length = n) (hbs : b = mC M 1) (hcat : (rest.map fun v => v.category).sum ≤ 8) {r : Option Value ⊕ Nat} {M1 : Mem} (hM : CB l G d y (.ref b :: As) M r M1) (hdg : decode cc pc = .ok (.invokevirtual index, 3))
    (kr : ∀ (v : Option Value) (H1 : Heap) (locs1 : List Loc) (cells1 slots1 : Nat), r = .inl v → RL G M0 M1 H1 locs1 cells1 slots1 → W p l e R s m args below meth c H1 locs1 cells1 slots1 Q (F0 m (pc + 3) ls (v.toList ++ rest)))
    (kx : ∀ (x : Nat) (q : Addr) (ce : Cell) (H1 : Heap) (locs1 : List Loc) (cells1 slots1 : Nat), r = .inr x → RL G M0 M1 H1 locs1 cells1 slots1 → H1[q]? = some ce → ce.vm = .none → s.vm.findClass (exN x) = some ce.cls → WT p l e R s m args below meth c H1 locs1 cells1 slots1 Q (F0 m pc ls rest) q) :
    W p l e R s m args below meth c H locs cells slots Q (F0 m pc ls (As.reverse ++ .ref b :: rest)) := by
  intro T hT X
  obtain ⟨y1, y2, y3, y4, y5, y6, y7⟩ := hy
  obtain ⟨d1, d2, d3, d4⟩ := hRm
  obtain ⟨cellB, b1, b3, b2⟩ := rs_recv hK hR hbs
  have hcls : s.vm.findClass y.cls = some cellB.cls := by rw [hcy]; exact b2
  obtain ⟨mk, methM, hnamed, hmethM, hstM, habM⟩ := Cond.instanceMethod_spec (hK.w y1 rfl args)
  obtain ⟨methM', cM, hmethM', hcM, -, hlM, -, hlkM, -, hsigM⟩ := Cond.code_spec hnamed (hK.w y3 rfl args)
  cases hmethM.symm.trans hmethM'
  obtain ⟨c2, r2, m2, q1, q2, q3, q4, kP, hkP, hkPi⟩ := Cond.selects_spec (hK.w y2 rfl args)
  cases hcls.symm.trans q1
  cases (State.methodFound?_of_named hnamed y5).symm.trans q2
  cases hnamed.symm.trans q3
  have hselP : selectMethod e.platform s.vm cellB.cls mk = .method mk := by rw [Launch.admits_selectMethod X.admits]; exact q4
  obtain ⟨vm₁, X₁, hstep₁⟩ := X.invokevirtual hx hown (hK.w hl rfl args) hnamed hmethM hstM hkP hkPi y5 (a := b) (cell := cellB) (by rw [hT]; exact b1)
    (fun z h => by rw [h] at b3; cases b3) hselP hmethM habM hkP hkPi (g := F0 m pc ls (As.reverse ++ .ref b :: rest)) rfl (argsL := As) (rest := rest) (hn.trans (len_of y7 hsigM)) rfl (by rw [hb]; exact hdg)
  have hT1 : (T.setVm vm₁).heap = H := hT
  rcases cb_core X₁ hx hT1 (g := F0 m pc ls rest) rfl hnl (by rw [hb]; exact hdg) hnamed hmethM hcM hlkM (by rw [hlM]; exact y4) y6 hK hR (by simpa using hcat) d1 d2 d3 d4 hM with ⟨v, T', L, c1, s1, e1, X', hR1, st⟩ | ⟨x, q, ce, T', L, c1, s1, e1, X', hR1, g1, g2, g3, st⟩
  · obtain ⟨t2, a1, b1⟩ := kr v T'.heap _ _ _ e1 hR1 T' rfl X'
    exact ⟨t2, hstep₁ _ fun acts => by rw [doInvoke_state]; exact st.trans a1, b1⟩
  · obtain ⟨t2, a1, b1⟩ := kx x q ce T'.heap _ _ _ e1 hR1 g1 g2 g3 T' rfl X'
    exact ⟨t2, hstep₁ _ fun acts => by rw [doInvoke_state]; exact st.trans a1, b1⟩
end RowsS
/-! what is thrown: the words of it -/
def xN4 : List Cond := [.isRef (.static "java/lang/Throwable" "UNASSIGNED_STACK" "[Ljava/lang/StackTraceElement;"), .isRef (.static "java/lang/Throwable" "SUPPRESSED_SENTINEL" "Ljava/util/List;"), .laysStatic "java/lang/Throwable" "UNASSIGNED_STACK" "[Ljava/lang/StackTraceElement;", .laysStatic "java/lang/Throwable" "SUPPRESSED_SENTINEL" "Ljava/util/List;"]
def xNm : List String := ["java/lang/RuntimeException", "java/lang/Exception"]
def xOk (own : String) (ic : Nat) (X : String) : Bool := (Bundle.ownAtoms own ic X xNm).all (fun w => (decide (w ∈ lw_tbl) && goodWord w) || decide (w ∈ xN4))
theorem xw_P_156 : xOk "HeadCount$Parser" 156 "java/lang/IllegalArgumentException" = true := by decide +kernel
theorem xw_H_72 : xOk "HeadCount" 72 "java/lang/IllegalStateException" = true := by decide +kernel
theorem xw_H_79 : xOk "HeadCount" 79 "java/lang/IllegalArgumentException" = true := by decide +kernel
