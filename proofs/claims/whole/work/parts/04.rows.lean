/-! rows: reading and writing the memory -/
abbrev gO (G : Gx) : Nat → Prop := fun q => gZ G ≤ q
/-- a static of the library's that holds a reference, in the old part of the heap -/
def StF (C n d : String) (G : Gx) (U : State) : Prop := ∃ (c : ClassId) (k : Class) (i : Nat) (f : Field) (a : Nat) (cell : Cell) (v : Value), U.vm.findClass C = some c ∧ U.fieldFound? C n d = some (c, k, i, f) ∧ f.isStatic = true ∧ k.statics = some a ∧ (gH G)[a]? = some cell ∧ cell.vm.isStatics = true ∧ cell.cls = c ∧ f.slot < cell.slots.size ∧ k.staticTypes[f.slot]? = some f.type ∧ cell.slots[f.slot]? = some v ∧ v.isRef = true ∧ a < gZ G
theorem StF.moved {C n d : String} {G : Gx} {u U : State} (hvm : u.vm.Alike U.vm) (h : StF C n d G u) : StF C n d G U := by
  obtain ⟨c, k, i, f, a, cell, v, h1, h2, h3, h4, h5, h6, h7, h8, h9, h10⟩ := h
  obtain ⟨k', hi', he⟩ := State.fieldFound?_setVm hvm h2
  exact ⟨c, k', i, f, a, cell, v, by rw [hvm.findClass]; exact h1, hi', h3, by rw [he]; exact h4, h5, h6, h7, h8, by rw [he]; exact h9, h10⟩
/-- the text's own signs of the variables -/
def sVar : List Int32 := [105, 106, 107, 88, 89, 90]
/-- words on tables alone that the kit carries by rows of their own -/
def dcw : Cond → Bool
  | .declares _ => true
  | .castable _ _ => true
  | _ => false
theorem dcw_moved {w : Cond} (hw : dcw w = true) {s U : State} (hW : s.WarmedH U.vm) (h : va_Nw w s) : va_Nw w U := by
  cases w <;> first | exact h.warmD hW | exact h.warmC hW | cases hw
theorem dcw_use {w : Cond} (hw : dcw w = true) {s : State} (h : va_Nw w s) (a : Array Value) : w.before a s = true := by
  cases w <;> first | exact va_Nw.use rfl h | cases hw
/-- what the old part of the heap holds -/
def Old (G : Gx) (s : State) : Prop := (vk_R "HeadCount$Parser" 15 "ijkXYZ" (gC G 1) s ∧ vk_R "HeadCount$World" 9 "ijkXYZ" (gC G 1) s ∧ vk_R "HeadCount$Parser" 154 "the text is no sentence" (gC G 2) s ∧ vk_R "HeadCount" 70 "there is no sentence" (gC G 3) s ∧ vk_R "HeadCount" 77 "no world has so many elements" (gC G 4) s) ∧
  vk_S 1 [6] [sVar] (fun _ => gC G 1) (fun _ => gC G 5) (gO G) s (gH G) ∧ va_Z "java/lang/String" "COMPACT_STRINGS" "Z" (.int 1) (gO G) s (gH G) ∧ StF "java/lang/Throwable" "UNASSIGNED_STACK" "[Ljava/lang/StackTraceElement;" G s ∧ StF "java/lang/Throwable" "SUPPRESSED_SENTINEL" "Ljava/util/List;" G s ∧ va_Nc "java/lang/IllegalArgumentException" "java/lang/IllegalStateException" s ∧ va_Nw (.methodLinkNest "HeadCount$Parser" 147 yN_init "HeadCount") s ∧ ∀ w ∈ lw_tbl, dcw w = true → va_Nw w s
theorem Old.moved {G : Gx} {s U : State} (hW : s.WarmedH U.vm) (h : Old G s) : Old G U := by
  obtain ⟨⟨a1, a2, a3, a4, a5⟩, b1, b2, b3, b4, b5, b6, b7⟩ := h
  exact ⟨⟨a1.warm hW, a2.warm hW, a3.warm hW, a4.warm hW, a5.warm hW⟩, b1.moved hW.alike, b2.moved hW.alike, b3.moved hW.alike, b4.moved hW.alike, b5.moved hW.alike, b6.warmM hW, fun w hw hg => dcw_moved hg hW (b7 w hw hg)⟩
def aTys (G : Gx) : List (ClassId × FieldType) := [((gA G) 21, .int), ((gA G) 22, .char), ((gA G) 23, .boolean), ((gA G) 24, .long), ((gA G) 25, .object "HeadCount$Node")]
/-- what holds at each method's start -/
def Kst (G : Gx) (s : State) : Prop := (∀ w ∈ lw_tbl, goodWord w = true → ∀ a : Array Value, w.before a s = true) ∧ va_K (gD G) hcCl (aTys G) s ∧ va_AO "HeadCount$Node" s ∧ Old G s
theorem Kst.w {G : Gx} {s : State} (h : Kst G s) {w : Cond} (hw : w ∈ lw_tbl) (hg : goodWord w = true) (a : Array Value) : w.before a s = true := h.1 w hw hg a
theorem Kst.moved {G : Gx} {s U : State} (h : Kst G s) (hW : s.WarmedH U.vm) : Kst G U :=
  ⟨fun w hw hg a => word_at hW (good_of_word hg) (h.1 w hw hg #[]), va_K.moved hW.alike h.2.1, h.2.2.1.moved hW.alike, Old.moved hW h.2.2.2⟩
theorem Kst.uw {G : Gx} {s : State} (h : Kst G s) {c : Nat} {r : vw_C} (hc : hcCl[c]? = some r) (a : Array Value) : ∀ w ∈ u_ws r.1 r.2.1 r.2.2, w.before a s = true :=
  fun w hw => h.1 w (cuW c r hc w hw).1 (cuW c r hc w hw).2 a
abbrev inA (i : Int32) (n : Nat) : Prop := ¬ (i < 0 ∨ n ≤ i.toNatClampNeg)
theorem nar_fit {ty : FieldType} {x : Int32} (h : fits ty (.int x) = true) (ht : ty = .int ∨ ty = .char ∨ ty = .boolean) : narrow ty (.int x) = .int x := by
  rcases ht with rfl | rfl | rfl
  · rfl
  · have h1 : (decide (0 ≤ x) && decide (x ≤ 65535)) = true := h
    simp only [Bool.and_eq_true, decide_eq_true_eq] at h1
    obtain ⟨j, hj, rfl⟩ := nI_of2 (M := 65535) (n := 65535) (by decide) (by
      intro q
      rw [Int32.lt_iff_toInt_lt] at q
      have h3 := h1.1
      rw [Int32.le_iff_toInt_le] at h3
      omega) h1.2
    exact (pk_charN (by omega)).1
  · have h1 : (x == 0 || x == 1) = true := h
    simp only [Bool.or_eq_true, beq_iff_eq] at h1
    rcases h1 with rfl | rfl
    · decide
    · decide
theorem nar_ref (r : Option Nat) {ty : FieldType} (ht : (∃ n, ty = .object n) ∨ ∃ t, ty = .array t) : narrow ty (va_rf r) = va_rf r := by
  rcases ht with ⟨n, rfl⟩ | ⟨t, rfl⟩ <;> cases r <;> rfl
theorem fit_ref (r : Option Nat) {ty : FieldType} (ht : (∃ n, ty = .object n) ∨ ∃ t, ty = .array t) : fits ty (va_rf r) = true := by
  rcases ht with ⟨n, rfl⟩ | ⟨t, rfl⟩ <;> cases r <;> rfl
/-- the slots of a kind are apart -/
theorem cuA {G : Gx} {s : State} (hK : Kst G s) {ci : Nat} {C : String} {T : u_T} {N : Nat} (hc : hcCl[ci]? = some (C, T, N)) : ∀ x y, x < N → y < N → x ≠ y → ((gD G).2 ci) x ≠ ((gD G).2 ci) y := by
  have hok := hcOk (C, T, N) (List.mem_of_getElem? hc)
  refine va_apart (own := C) (args := #[]) (hK.uw hc #[]) (fun _ h => h) (fun k => (parseFieldDescriptor (T k).2.2.1).getD .int) (fun k hk => ?_) hok.2 hK.2.1 hc
  have h1 := hok.1 k hk
  cases hp : parseFieldDescriptor (T k).2.2.1 with
  | none => rw [hp] at h1; cases h1
  | some t => rfl
section Rows
variable {p : Program} {l : Launch} {e : Env} {R : Room} {s : State} {m : MethodId} {args : Array Value} {below : List Frame} {meth : Method} {c : Code} {H : Heap} {locs : List Loc} {cells slots : Nat} {Q : State → Prop}
variable {cc : ByteArray} {pc : Nat} {ls : Array Slot} {rest : List Value} {G : Gx} {M0 M : Mem} {a : Nat}
theorem rg_get (hx : p.tables.exec = Jvm.exec) (hb : c.code = cc) {own C : String} {T : u_T} {N ci index : Nat} (hown : s.vm.findClass own = some m.cls) (hK : Kst G s) (hR : RL G M0 M H locs cells slots) (hc : hcCl[ci]? = some (C, T, N)) (k : Nat) (hk : k < N) (hl : Cond.fieldLink own index (T k).1 (T k).2.1 (T k).2.2.1 ∈ lw_tbl) (ha : mK M a = ci + 1) (hdg : decode cc pc = .ok (.getfield index, 3))
    (kk : W p l e R s m args below meth c H locs cells slots Q (F0 m (pc + 3) ls (fV M a ci k :: rest))) : W p l e R s m args below meth c H locs cells slots Q (F0 m pc ls (.ref a :: rest)) := by
  obtain ⟨cell, q1, q2, q3, q4⟩ := hR.1.obj ha hc
  obtain ⟨hS, hfc, kC, hkC, hkind⟩ := hK.2.1.1 ci _ hc
  obtain ⟨cf, kf, fi, f, hi, hsl⟩ := hS k hk
  refine W.getf hx hb hown (hK.w hl rfl args) hi (u_facts hfc hkC (u_lays (hK.uw hc args) (fun _ h => h) hk) hi).1 q1 (by rw [q3]; exact fun h => by cases h) (v := fV M a ci k) ?_ rfl rfl hdg kk
  rw [hsl, q4 k hk]
theorem rg_getI (hx : p.tables.exec = Jvm.exec) (hb : c.code = cc) {own C : String} {T : u_T} {N ci index : Nat} (hown : s.vm.findClass own = some m.cls) (hK : Kst G s) (hR : RL G M0 M H locs cells slots) (hc : hcCl[ci]? = some (C, T, N)) (k : Nat) (hk : k < N) (hl : Cond.fieldLink own index (T k).1 (T k).2.1 (T k).2.2.1 ∈ lw_tbl) (hf : fR ci k = false) (ha : mK M a = ci + 1) (hdg : decode cc pc = .ok (.getfield index, 3))
    (kk : W p l e R s m args below meth c H locs cells slots Q (F0 m (pc + 3) ls (.int (mI M a k) :: rest))) : W p l e R s m args below meth c H locs cells slots Q (F0 m pc ls (.ref a :: rest)) :=
  rg_get hx hb hown hK hR hc k hk hl ha hdg (by
    have h1 : fV M a ci k = .int (mI M a k) := by simp [fV, hf]
    rw [h1]; exact kk)
theorem rg_getP (hx : p.tables.exec = Jvm.exec) (hb : c.code = cc) {own C : String} {T : u_T} {N ci index : Nat} (hown : s.vm.findClass own = some m.cls) (hK : Kst G s) (hR : RL G M0 M H locs cells slots) (hc : hcCl[ci]? = some (C, T, N)) (k : Nat) (hk : k < N) (hl : Cond.fieldLink own index (T k).1 (T k).2.1 (T k).2.2.1 ∈ lw_tbl) (hf : fR ci k = true) (ha : mK M a = ci + 1) (hdg : decode cc pc = .ok (.getfield index, 3))
    (kk : W p l e R s m args below meth c H locs cells slots Q (F0 m (pc + 3) ls (va_rf (mP M a k) :: rest))) : W p l e R s m args below meth c H locs cells slots Q (F0 m pc ls (.ref a :: rest)) :=
  rg_get hx hb hown hK hR hc k hk hl ha hdg (by
    have h1 : fV M a ci k = va_rf (mP M a k) := by simp [fV, hf]
    rw [h1]; exact kk)
/-- a field is written (not a final one) -/
theorem rg_put (hx : p.tables.exec = Jvm.exec) (hb : c.code = cc) {own C : String} {T : u_T} {N ci index : Nat} (hown : s.vm.findClass own = some m.cls) (hK : Kst G s) (hR : RL G M0 M H locs cells slots) (hc : hcCl[ci]? = some (C, T, N)) (k : Nat) (hk : k < N) (hl : Cond.fieldLink own index (T k).1 (T k).2.1 (T k).2.2.1 ∈ lw_tbl) (hfin : (T k).2.2.2 = false) {ty : FieldType} {v : Value} (hd : parseFieldDescriptor (T k).2.2.1 = some ty) (hn : narrow ty v = v) (hfit : fits ty v = true)
    {M' : Mem} (hM : mK M' = mK M ∧ mL M' = mL M ∧ mS M' = mS M ∧ mU M' = mU M ∧ mC M' = mC M ∧ (∀ b, b ≠ a → mI M' b = mI M b) ∧ (∀ b, b ≠ a → mP M' b = mP M b) ∧ (∀ b, mJ M' b = mJ M b)) (hV : fV M' a ci = updV (fV M a ci) k v) (ha : mK M a = ci + 1) (hdg : decode cc pc = .ok (.putfield index, 3))
    (kk : ∀ (H1 : Heap) (locs1 : List Loc), RL G M0 M' H1 locs1 cells slots → W p l e R s m args below meth c H1 locs1 cells slots Q (F0 m (pc + 3) ls rest)) : W p l e R s m args below meth c H locs cells slots Q (F0 m pc ls (v :: .ref a :: rest)) := by
  obtain ⟨cell, q1, q2, q3, q4⟩ := hR.1.obj ha hc
  have hKn := hK.2.1.1 ci _ hc
  obtain ⟨hS, hfc, kC, hkC, hkind⟩ := hKn
  obtain ⟨cf, kf, fi, f, hi, hsl⟩ := hS k hk
  have hap := cuA hK hc
  have hlay := hK.uw hc args _ (u_in_lay hk)
  unfold u_lay at hlay
  rw [if_neg (by rw [hfin]; decide)] at hlay
  have hst := (u_facts hfc hkC (u_lays (hK.uw hc args) (fun _ h => h) hk) hi).1
  have h6 := u_store hfc hkC hkind hlay hi hd hn hfit
  obtain ⟨m1, m2, m3, m4, m5, m6, m7, m8⟩ := hM
  have hne : mK M a ≠ 0 := by rw [ha]; exact Nat.succ_ne_zero _
  refine W.putK hx hb (f := f) ⟨hown, hK.w hl rfl args, ⟨_, _, _, hi⟩, hst⟩ (by rw [q2]; exact h6) q1 q3 (by rw [hsl]; exact k2_hasslot (q4 k hk)) rfl rfl hdg fun H' e1 e2 e3 => ?_
  rw [hsl] at e1
  refine kk H' _ (hR.put (hR.1.lo hne) m3 m4 m5 (hR.1.upd hne e2 e3 m1 m2 m3 m6 m7 (fun b _ => m8 b) ⟨fun c2 r2 g1 g2 => ?_, fun g1 => ?_⟩))
  · rw [m1, ha] at g1
    have hcc : ci = c2 := by omega
    subst hcc
    cases hc.symm.trans g2
    rw [hV]
    exact ⟨_, e1, q2, q3, t_set q4 hap hk v⟩
  · exfalso
    rw [m1, ha] at g1
    have hlt := (List.getElem?_eq_some_iff.mp hc).1
    have hle : hcCl.length ≤ 20 := by decide
    omega
theorem rg_putI (hx : p.tables.exec = Jvm.exec) (hb : c.code = cc) {own C : String} {T : u_T} {N ci index : Nat} (hown : s.vm.findClass own = some m.cls) (hK : Kst G s) (hR : RL G M0 M H locs cells slots) (hc : hcCl[ci]? = some (C, T, N)) (k : Nat) (hk : k < N) (hl : Cond.fieldLink own index (T k).1 (T k).2.1 (T k).2.2.1 ∈ lw_tbl) (hfin : (T k).2.2.2 = false) (hf : fR ci k = false) {ty : FieldType} {x : Int32} (hd : parseFieldDescriptor (T k).2.2.1 = some ty) (hty : ty = .int ∨ ty = .char ∨ ty = .boolean) (hn : fits ty (.int x) = true) (ha : mK M a = ci + 1) (hdg : decode cc pc = .ok (.putfield index, 3))
    (kk : ∀ (H1 : Heap) (locs1 : List Loc), RL G M0 (setI M a k x) H1 locs1 cells slots → W p l e R s m args below meth c H1 locs1 cells slots Q (F0 m (pc + 3) ls rest)) : W p l e R s m args below meth c H locs cells slots Q (F0 m pc ls (.int x :: .ref a :: rest)) :=
  rg_put (M' := setI M a k x) hx hb hown hK hR hc k hk hl hfin hd (nar_fit hn hty) hn ⟨rfl, rfl, rfl, rfl, rfl, fun b hb => by rw [mI_setI, fu_row _ _ hb], fun _ _ => rfl, fun _ => rfl⟩ (fV_setI hf) ha hdg kk
theorem rg_putP (hx : p.tables.exec = Jvm.exec) (hb : c.code = cc) {own C : String} {T : u_T} {N ci index : Nat} (hown : s.vm.findClass own = some m.cls) (hK : Kst G s) (hR : RL G M0 M H locs cells slots) (hc : hcCl[ci]? = some (C, T, N)) (k : Nat) (hk : k < N) (hl : Cond.fieldLink own index (T k).1 (T k).2.1 (T k).2.2.1 ∈ lw_tbl) (hfin : (T k).2.2.2 = false) (hf : fR ci k = true) {ty : FieldType} {r : Option Nat} (hd : parseFieldDescriptor (T k).2.2.1 = some ty) (hty : (∃ n, ty = .object n) ∨ ∃ t, ty = .array t) (ha : mK M a = ci + 1) (hdg : decode cc pc = .ok (.putfield index, 3))
    (kk : ∀ (H1 : Heap) (locs1 : List Loc), RL G M0 (setP M a k r) H1 locs1 cells slots → W p l e R s m args below meth c H1 locs1 cells slots Q (F0 m (pc + 3) ls rest)) : W p l e R s m args below meth c H locs cells slots Q (F0 m pc ls (va_rf r :: .ref a :: rest)) :=
  rg_put (M' := setP M a k r) hx hb hown hK hR hc k hk hl hfin hd (nar_ref r hty) (fit_ref r hty) ⟨rfl, rfl, rfl, rfl, rfl, fun _ _ => rfl, fun b hb => by rw [mP_setP, fu_row _ _ hb], fun _ => rfl⟩ (fV_setP hf) ha hdg kk
/-- a final field in a constructor -/
theorem rg_putF (hx : p.tables.exec = Jvm.exec) (hb : c.code = cc) {own C : String} {T : u_T} {N ci index : Nat} (hown : s.vm.findClass own = some m.cls) (hK : Kst G s) (hR : RL G M0 M H locs cells slots) (hc : hcCl[ci]? = some (C, T, N)) (k : Nat) (hk : k < N) (hl : Cond.fieldLink own index (T k).1 (T k).2.1 (T k).2.2.1 ∈ lw_tbl) (hfin : (T k).2.2.2 = true) (hin2 : meth.name = "<init>") (hdecl : (T k).1 = own) (hf : fR ci k = true) {ty : FieldType} {r : Option Nat} (hd : parseFieldDescriptor (T k).2.2.1 = some ty) (hty : (∃ n, ty = .object n) ∨ ∃ t, ty = .array t) (ha : mK M a = ci + 1) (hdg : decode cc pc = .ok (.putfield index, 3))
    (kk : ∀ (H1 : Heap) (locs1 : List Loc), RL G M0 (setP M a k r) H1 locs1 cells slots → W p l e R s m args below meth c H1 locs1 cells slots Q (F0 m (pc + 3) ls rest)) : W p l e R s m args below meth c H locs cells slots Q (F0 m pc ls (va_rf r :: .ref a :: rest)) := by
  obtain ⟨cell, q1, q2, q3, q4⟩ := hR.1.obj ha hc
  obtain ⟨hS, hfc, kC, hkC, hkind⟩ := hK.2.1.1 ci _ hc
  obtain ⟨cf, kf, fi, f, hi, hsl⟩ := hS k hk
  have hap := cuA hK hc
  have hlay := hK.uw hc args _ (u_in_lay hk)
  unfold u_lay at hlay
  rw [if_pos hfin] at hlay
  have hst := (u_facts hfc hkC (u_lays (hK.uw hc args) (fun _ h => h) hk) hi).1
  have hcf : m.cls = cf := by
    obtain ⟨_, _, c', _, _, _, -, -, hf', -, -, -, hown2, -⟩ := Cond.laysFinal_spec hlay
    have e1 : c' = cf := by have := hi.symm.trans hf'; simp at this; exact this.1.symm
    rw [hdecl] at hown2
    rw [← e1]; exact Option.some.inj (hown.symm.trans hown2)
  have h6 := u_fits hfc hkC hkind (Or.inr hlay) hi hd (nar_ref r hty) (fit_ref r hty)
  have hne : mK M a ≠ 0 := by rw [ha]; exact Nat.succ_ne_zero _
  refine W.putFinK hx hb hown (hK.w hl rfl args) hi hst hcf hin2 (by rw [q2]; exact h6) q1 q3 (by rw [hsl]; exact k2_hasslot (q4 k hk)) rfl rfl hdg fun H' e1 e2 e3 => ?_
  rw [hsl] at e1
  refine kk H' _ (hR.put (hR.1.lo hne) rfl rfl rfl (hR.1.upd hne e2 e3 rfl rfl rfl (fun _ _ => rfl) (fun b hb => by rw [mP_setP, fu_row _ _ hb]) (fun _ _ => rfl) ⟨fun c2 r2 g1 g2 => ?_, fun g1 => ?_⟩))
  · rw [mK_setP, ha] at g1
    have hcc : ci = c2 := by omega
    subst hcc
    cases hc.symm.trans g2
    rw [fV_setP hf]
    exact ⟨_, e1, q2, q3, t_set q4 hap hk (va_rf r)⟩
  · exfalso
    rw [mK_setP, ha] at g1
    have hlt := (List.getElem?_eq_some_iff.mp hc).1
    have hle : hcCl.length ≤ 20 := by decide
    omega
theorem aE_i {cA : ClassId} {kd : Nat} (h : kd ≠ 24 ∧ kd ≠ 25) : vp_cell cA (aE M kd a) = arrV cA (mL M a) (fun j => .int (mI M a j)) := by
  unfold aE
  rw [if_neg h.1, if_neg h.2]
  rfl
theorem aE_l {cA : ClassId} : vp_cell cA (aE M 24 a) = arrV cA (mL M a) (fun j => .long (mJ M a j)) := rfl
theorem aE_p {cA : ClassId} : vp_cell cA (aE M 25 a) = arrV cA (mL M a) (fun j => va_rf (mP M a j)) := rfl
theorem arrK (hK : Kst G s) {k : Nat} {q : ClassId × FieldType} (h : (aTys G)[k]? = some q) (n : Nat) (z : Nat → Value) : s.isArrayOf (arrV q.1 n z) q.2 := (hK.2.1.2 k q h).1 n z
theorem rg_iald (hx : p.tables.exec = Jvm.exec) (hb : c.code = cc) (hK : Kst G s) (hR : RL G M0 M H locs cells slots) {i : Int32} (ha : mK M a = 21) (hin : inA i (mL M a)) (hdg : decode cc pc = .ok (.iaload, 1))
    (kk : W p l e R s m args below meth c H locs cells slots Q (F0 m (pc + 1) ls (.int (mI M a i.toNatClampNeg) :: rest))) : W p l e R s m args below meth c H locs cells slots Q (F0 m pc ls (.int i :: .ref a :: rest)) := by
  have h1 := hR.1.arr 21 ha (by decide)
  rw [aE_i (by decide)] at h1
  have hlt : i.toNatClampNeg < mL M a := Nat.not_le.mp fun q => hin (Or.inr q)
  exact W.iald (v := .int (mI M a i.toNatClampNeg)) hx hb h1 (arrK hK (k := 0) rfl _ _) (fun q => by cases q) (by rw [arrV_size]; exact hin) (by rw [arrV_read _ _ hlt]) rfl rfl hdg kk
theorem rg_cald (hx : p.tables.exec = Jvm.exec) (hb : c.code = cc) (hK : Kst G s) (hR : RL G M0 M H locs cells slots) {i : Int32} (ha : mK M a = 22) (hin : inA i (mL M a)) (hdg : decode cc pc = .ok (.caload, 1))
    (kk : W p l e R s m args below meth c H locs cells slots Q (F0 m (pc + 1) ls (.int (mI M a i.toNatClampNeg) :: rest))) : W p l e R s m args below meth c H locs cells slots Q (F0 m pc ls (.int i :: .ref a :: rest)) := by
  have h1 := hR.1.arr 22 ha (by decide)
  rw [aE_i (by decide)] at h1
  have hlt : i.toNatClampNeg < mL M a := Nat.not_le.mp fun q => hin (Or.inr q)
  exact W.cald (v := .int (mI M a i.toNatClampNeg)) hx hb h1 (arrK hK (k := 1) rfl _ _) (fun q => by cases q) (by rw [arrV_size]; exact hin) (by rw [arrV_read _ _ hlt]) rfl rfl hdg kk
theorem rg_zald (hx : p.tables.exec = Jvm.exec) (hb : c.code = cc) (hK : Kst G s) (hR : RL G M0 M H locs cells slots) {i : Int32} (ha : mK M a = 23) (hin : inA i (mL M a)) (hdg : decode cc pc = .ok (.baload, 1))
    (kk : W p l e R s m args below meth c H locs cells slots Q (F0 m (pc + 1) ls (.int (mI M a i.toNatClampNeg) :: rest))) : W p l e R s m args below meth c H locs cells slots Q (F0 m pc ls (.int i :: .ref a :: rest)) := by
  have h1 := hR.1.arr 23 ha (by decide)
  rw [aE_i (by decide)] at h1
  have hlt : i.toNatClampNeg < mL M a := Nat.not_le.mp fun q => hin (Or.inr q)
  exact W.zald (v := .int (mI M a i.toNatClampNeg)) hx hb h1 (arrK hK (k := 2) rfl _ _) (fun q => by cases q) (by rw [arrV_size]; exact hin) (by rw [arrV_read _ _ hlt]) rfl rfl hdg kk
theorem rg_lald (hx : p.tables.exec = Jvm.exec) (hb : c.code = cc) (hK : Kst G s) (hR : RL G M0 M H locs cells slots) {i : Int32} (ha : mK M a = 24) (hin : inA i (mL M a)) (hdg : decode cc pc = .ok (.laload, 1))
    (kk : W p l e R s m args below meth c H locs cells slots Q (F0 m (pc + 1) ls (.long (mJ M a i.toNatClampNeg) :: rest))) : W p l e R s m args below meth c H locs cells slots Q (F0 m pc ls (.int i :: .ref a :: rest)) := by
  have h1 := hR.1.arr 24 ha (by decide)
  rw [aE_l] at h1
  have hlt : i.toNatClampNeg < mL M a := Nat.not_le.mp fun q => hin (Or.inr q)
  exact W.lald (v := .long (mJ M a i.toNatClampNeg)) hx hb h1 (arrK hK (k := 3) rfl _ _) (fun q => by cases q) (by rw [arrV_size]; exact hin) (by rw [arrV_read _ _ hlt]) rfl rfl hdg kk
theorem rg_aald (hx : p.tables.exec = Jvm.exec) (hb : c.code = cc) (hK : Kst G s) (hR : RL G M0 M H locs cells slots) {i : Int32} (ha : mK M a = 25) (hin : inA i (mL M a)) (hdg : decode cc pc = .ok (.aaload, 1))
    (kk : W p l e R s m args below meth c H locs cells slots Q (F0 m (pc + 1) ls (va_rf (mP M a i.toNatClampNeg) :: rest))) : W p l e R s m args below meth c H locs cells slots Q (F0 m pc ls (.int i :: .ref a :: rest)) := by
  have h1 := hR.1.arr 25 ha (by decide)
  rw [aE_p] at h1
  have hlt : i.toNatClampNeg < mL M a := Nat.not_le.mp fun q => hin (Or.inr q)
  exact W.aald (v := va_rf (mP M a i.toNatClampNeg)) (ty := .object "HeadCount$Node") hx hb h1 (arrK hK (k := 4) rfl _ _) rfl (fun q => by cases q) (by rw [arrV_size]; exact hin) (by rw [arrV_read _ _ hlt]) rfl rfl hdg kk
theorem rg_alen (hx : p.tables.exec = Jvm.exec) (hb : c.code = cc) (hK : Kst G s) (hR : RL G M0 M H locs cells slots) (kd : Nat) (ha : mK M a = kd) (h21 : 21 ≤ kd) (h25 : kd ≤ 25) (hdg : decode cc pc = .ok (.arraylength, 1))
    (kk : W p l e R s m args below meth c H locs cells slots Q (F0 m (pc + 1) ls (.int (nI (mL M a)) :: rest))) : W p l e R s m args below meth c H locs cells slots Q (F0 m pc ls (.ref a :: rest)) := by
  have h1 := hR.1.arr kd ha h21
  have hk : kd = 21 ∨ kd = 22 ∨ kd = 23 ∨ kd = 24 ∨ kd = 25 := by omega
  rcases hk with rfl | rfl | rfl | rfl | rfl
  · rw [aE_i (by decide)] at h1
    exact W.alen (n := nI (mL M a)) hx hb h1 (arrK hK (k := 0) rfl _ _) (by rw [arrV_size] <;> rfl) rfl rfl hdg kk
  · rw [aE_i (by decide)] at h1
    exact W.alen (n := nI (mL M a)) hx hb h1 (arrK hK (k := 1) rfl _ _) (by rw [arrV_size] <;> rfl) rfl rfl hdg kk
  · rw [aE_i (by decide)] at h1
    exact W.alen (n := nI (mL M a)) hx hb h1 (arrK hK (k := 2) rfl _ _) (by rw [arrV_size] <;> rfl) rfl rfl hdg kk
  · rw [aE_l] at h1
    exact W.alen (n := nI (mL M a)) hx hb h1 (arrK hK (k := 3) rfl _ _) (by rw [arrV_size] <;> rfl) rfl rfl hdg kk
  · rw [aE_p] at h1
    exact W.alen (n := nI (mL M a)) hx hb h1 (arrK hK (k := 4) rfl _ _) (by rw [arrV_size] <;> rfl) rfl rfl hdg kk
/-- an array's place is written: what is left to show is the cell itself -/
theorem RL.ast (hR : RL G M0 M H locs cells slots) {kd : Nat} (ha : mK M a = kd) (h21 : 21 ≤ kd) {M' : Mem} {H' : Heap} {i : Nat} (hM : mK M' = mK M ∧ mL M' = mL M ∧ mS M' = mS M ∧ mU M' = mU M ∧ mC M' = mC M ∧ (∀ b, b ≠ a → mI M' b = mI M b) ∧ (∀ b, b ≠ a → mP M' b = mP M b) ∧ (∀ b, b ≠ a → mJ M' b = mJ M b)) (e1 : H'[a]? = some (vp_cell ((gA G) kd) (aE M' kd a))) (e2 : H'.size = H.size) (e3 : ∀ q : Nat, q ≠ a → H'[q]? = H[q]?) : RL G M0 M' H' (locs ++ [⟨a, i⟩]) cells slots := by
  obtain ⟨m1, m2, m3, m4, m5, m6, m7, m8⟩ := hM
  have hne : mK M a ≠ 0 := by rw [ha]; omega
  refine hR.put (hR.1.lo hne) m3 m4 m5 (hR.1.upd hne e2 e3 m1 m2 m3 m6 m7 m8 ⟨fun c2 r2 g1 g2 => ?_, fun g1 => ?_⟩)
  · exfalso
    rw [m1, ha] at g1
    have hlt := (List.getElem?_eq_some_iff.mp g2).1
    have hle : hcCl.length ≤ 20 := by decide
    omega
  · rw [m1, ha]
    exact e1
theorem stI (kd i : Nat) (x : Int32) (cA : ClassId) (h : kd ≠ 24 ∧ kd ≠ 25) : (arrV cA (mL M a) (fun j => Value.int (mI M a j))).setSlot i (.int x) = vp_cell cA (aE (setI M a i x) kd a) := by
  rw [aE_i h, arrV_store]
  congr 1
  funext q
  by_cases hq : q = i
  · subst hq; simp [updV, mI_setI, fu]
  · simp [updV, hq, mI_setI, fu]
theorem stOkI (i : Nat) (x : Int32) : mK (setI M a i x) = mK M ∧ mL (setI M a i x) = mL M ∧ mS (setI M a i x) = mS M ∧ mU (setI M a i x) = mU M ∧ mC (setI M a i x) = mC M ∧ (∀ b, b ≠ a → mI (setI M a i x) b = mI M b) ∧ (∀ b, b ≠ a → mP (setI M a i x) b = mP M b) ∧ (∀ b, b ≠ a → mJ (setI M a i x) b = mJ M b) :=
  ⟨rfl, rfl, rfl, rfl, rfl, fun b hb => by rw [mI_setI, fu_row _ _ hb], fun _ _ => rfl, fun _ _ => rfl⟩
theorem rg_iast (hx : p.tables.exec = Jvm.exec) (hb : c.code = cc) (hK : Kst G s) (hR : RL G M0 M H locs cells slots) {i x : Int32} (ha : mK M a = 21) (hin : inA i (mL M a)) (hdg : decode cc pc = .ok (.iastore, 1))
    (kk : ∀ (H1 : Heap) (locs1 : List Loc), RL G M0 (setI M a i.toNatClampNeg x) H1 locs1 cells slots → W p l e R s m args below meth c H1 locs1 cells slots Q (F0 m (pc + 1) ls rest)) : W p l e R s m args below meth c H locs cells slots Q (F0 m pc ls (.int x :: .int i :: .ref a :: rest)) := by
  have h1 := hR.1.arr 21 ha (by decide)
  rw [aE_i (by decide)] at h1
  refine W.iast hx hb h1 (arrK hK (k := 0) rfl _ _) (fun q => by cases q) (by rw [arrV_size]; exact hin) rfl rfl hdg fun H1 e z oq => ?_
  exact kk H1 _ (hR.ast ha (by decide) (stOkI _ x) (by rw [e, stI 21 _ x _ (by decide)]) z oq)
theorem rg_cast (hx : p.tables.exec = Jvm.exec) (hb : c.code = cc) (hK : Kst G s) (hR : RL G M0 M H locs cells slots) {i x : Int32} (ha : mK M a = 22) (hin : inA i (mL M a)) (hn : fits .char (.int x) = true) (hdg : decode cc pc = .ok (.castore, 1))
    (kk : ∀ (H1 : Heap) (locs1 : List Loc), RL G M0 (setI M a i.toNatClampNeg x) H1 locs1 cells slots → W p l e R s m args below meth c H1 locs1 cells slots Q (F0 m (pc + 1) ls rest)) : W p l e R s m args below meth c H locs cells slots Q (F0 m pc ls (.int x :: .int i :: .ref a :: rest)) := by
  have h1 := hR.1.arr 22 ha (by decide)
  rw [aE_i (by decide)] at h1
  refine W.cast hx hb h1 (arrK hK (k := 1) rfl _ _) (fun q => by cases q) (by rw [arrV_size]; exact hin) rfl rfl hdg fun H1 e z oq => ?_
  rw [nar_fit hn (Or.inr (Or.inl rfl))] at e
  exact kk H1 _ (hR.ast ha (by decide) (stOkI _ x) (by rw [e, stI 22 _ x _ (by decide)]) z oq)
theorem rg_zast (hx : p.tables.exec = Jvm.exec) (hb : c.code = cc) (hK : Kst G s) (hR : RL G M0 M H locs cells slots) {i x : Int32} (ha : mK M a = 23) (hin : inA i (mL M a)) (hn : fits .boolean (.int x) = true) (hdg : decode cc pc = .ok (.bastore, 1))
    (kk : ∀ (H1 : Heap) (locs1 : List Loc), RL G M0 (setI M a i.toNatClampNeg x) H1 locs1 cells slots → W p l e R s m args below meth c H1 locs1 cells slots Q (F0 m (pc + 1) ls rest)) : W p l e R s m args below meth c H locs cells slots Q (F0 m pc ls (.int x :: .int i :: .ref a :: rest)) := by
  have h1 := hR.1.arr 23 ha (by decide)
  rw [aE_i (by decide)] at h1
  refine W.zast hx hb h1 (arrK hK (k := 2) rfl _ _) (fun q => by cases q) (by rw [arrV_size]; exact hin) rfl rfl hdg fun H1 e z oq => ?_
  rw [nar_fit hn (Or.inr (Or.inr rfl))] at e
  exact kk H1 _ (hR.ast ha (by decide) (stOkI _ x) (by rw [e, stI 23 _ x _ (by decide)]) z oq)
theorem rg_last (hx : p.tables.exec = Jvm.exec) (hb : c.code = cc) (hK : Kst G s) (hR : RL G M0 M H locs cells slots) {i : Int32} {x : Int64} (ha : mK M a = 24) (hin : inA i (mL M a)) (hdg : decode cc pc = .ok (.lastore, 1))
    (kk : ∀ (H1 : Heap) (locs1 : List Loc), RL G M0 (setJ M a i.toNatClampNeg x) H1 locs1 cells slots → W p l e R s m args below meth c H1 locs1 cells slots Q (F0 m (pc + 1) ls rest)) : W p l e R s m args below meth c H locs cells slots Q (F0 m pc ls (.long x :: .int i :: .ref a :: rest)) := by
  have h1 := hR.1.arr 24 ha (by decide)
  rw [aE_l] at h1
  refine W.last hx hb h1 (arrK hK (k := 3) rfl _ _) (fun q => by cases q) (by rw [arrV_size]; exact hin) rfl rfl hdg fun H1 e z oq => ?_
  refine kk H1 _ (hR.ast ha (by decide) ⟨rfl, rfl, rfl, rfl, rfl, fun _ _ => rfl, fun _ _ => rfl, fun b hb => by rw [mJ_setJ, fu_row _ _ hb]⟩ ?_ z oq)
  rw [e, aE_l, arrV_store]
  congr 2
  funext q
  by_cases hq : q = i.toNatClampNeg
  · subst hq; simp [updV, mJ_setJ, fu]
  · simp [updV, hq, mJ_setJ, fu]
/-- a Node goes into a row of Nodes -/
theorem rg_aast (hx : p.tables.exec = Jvm.exec) (hb : c.code = cc) (hK : Kst G s) (hR : RL G M0 M H locs cells slots) {i : Int32} {v : Nat} (ha : mK M a = 25) (hin : inA i (mL M a)) (hv : mK M v = ndC + 1) (hdg : decode cc pc = .ok (.aastore, 1))
    (kk : ∀ (H1 : Heap) (locs1 : List Loc), RL G M0 (setP M a i.toNatClampNeg (some v)) H1 locs1 cells slots → W p l e R s m args below meth c H1 locs1 cells slots Q (F0 m (pc + 1) ls rest)) : W p l e R s m args below meth c H locs cells slots Q (F0 m pc ls (.ref v :: .int i :: .ref a :: rest)) := by
  have h1 := hR.1.arr 25 ha (by decide)
  rw [aE_p] at h1
  have hlt : i.toNatClampNeg < mL M a := Nat.not_le.mp fun q => hin (Or.inr q)
  have h0 : ¬ i < 0 := fun q => hin (Or.inl q)
  obtain ⟨cellV, g1, g2, g3, -⟩ := hR.1.obj hv ndCl
  have hcls := (hK.2.1.1 ndC _ ndCl).2
  obtain ⟨kA, comp, k1, k2, k3, -⟩ := (hK.2.1.2 4 _ rfl).2
  have hcomp : comp = (gD G).1 ndC := Option.some.inj (k3.symm.trans hcls.1)
  subst hcomp
  obtain ⟨kC, hkC, -⟩ := hcls.2
  refine W.aast hx hb h1 (fun q h => by cases h) (fun h => by cases h) k1 k2 rfl hkC ⟨h0, by rw [arrV_size]; exact hlt⟩ g1 (fun q h => by rw [g3] at h; cases h) (by rw [g2]; exact hkC) (by rw [g2]; exact va_assign hcls) rfl rfl hdg fun H1 e z oq => ?_
  refine kk H1 _ (hR.ast ha (by decide) ⟨rfl, rfl, rfl, rfl, rfl, fun _ _ => rfl, fun b hb => by rw [mP_setP, fu_row _ _ hb], fun _ _ => rfl⟩ ?_ z oq)
  rw [e, aE_p, arrV_store]
  congr 2
  funext q
  by_cases hq : q = i.toNatClampNeg
  · subst hq; simp [updV, mP_setP, fu, va_rf]
  · simp [updV, hq, mP_setP, fu]
end Rows
