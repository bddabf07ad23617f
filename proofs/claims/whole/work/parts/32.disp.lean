/-! one function for all methods, by the frames left -/
def aR (v : Value) (k : Nat → Rz) : Rz := match v with
  | .ref a => k a
  | _ => none
def aI (v : Value) (k : Int32 → Rz) : Rz := match v with
  | .int x => k x
  | _ => none
def aJ (v : Value) (k : Int64 → Rz) : Rz := match v with
  | .long x => k x
  | _ => none
def aP (v : Value) (k : Option Nat → Rz) : Rz := match v with
  | .ref a => k (some a)
  | .null => k none
  | _ => none
theorem a_r {v : Value} {k : Nat → Rz} {x : (Option Value ⊕ Nat) × Mem} (h : aR v k = some x) : ∃ a, v = .ref a ∧ k a = some x := by
  unfold aR at h
  split at h
  · exact ⟨_, rfl, h⟩
  · cases h
theorem a_i {v : Value} {k : Int32 → Rz} {x : (Option Value ⊕ Nat) × Mem} (h : aI v k = some x) : ∃ a, v = .int a ∧ k a = some x := by
  unfold aI at h
  split at h
  · exact ⟨_, rfl, h⟩
  · cases h
theorem a_j {v : Value} {k : Int64 → Rz} {x : (Option Value ⊕ Nat) × Mem} (h : aJ v k = some x) : ∃ a, v = .long a ∧ k a = some x := by
  unfold aJ at h
  split at h
  · exact ⟨_, rfl, h⟩
  · cases h
theorem a_p {v : Value} {k : Option Nat → Rz} {x : (Option Value ⊕ Nat) × Mem} (h : aP v k = some x) : ∃ a, v = va_rf a ∧ k a = some x := by
  unfold aP at h
  split at h
  · exact ⟨some _, rfl, h⟩
  · exact ⟨none, rfl, h⟩
  · cases h
theorem aP_rf (r : Option Nat) (k : Option Nat → Rz) : aP (va_rf r) k = k r := by cases r <;> rfl
abbrev Dx : Type := Nat → Nat → Cx → List Value → Mem → Rz
/-- g is a mirror of the method y -/
def GoodD (y : MethodName) (g : Dx) : Prop := ∀ (l : Launch) (G : Gx) (n d : Nat) (C : Cx) (as : List Value) (M M' : Mem) (r : Option Value ⊕ Nat), l.stackTraces = false → CBs l G d C → g n d C as M = some (r, M') → CB l G (d + 1) y as M r M'
def noD : Dx := fun _ _ _ _ _ => none
theorem noD_good (y : MethodName) : GoodD y noD := fun _ _ _ _ _ _ _ _ _ _ _ h => by cases h
def AllG : List MethodName → List Dx → Prop
  | _, [] => True
  | [], _ :: _ => False
  | y :: ys, g :: gs => GoodD y g ∧ AllG ys gs
theorem allG_at : ∀ (ys : List MethodName) (gs : List Dx) (y0 : MethodName), AllG ys gs → ∀ j, GoodD (ys.getD j y0) (gs.getD j noD)
  | _, [], _, _, _ => by rw [List.getD_nil]; exact noD_good _
  | [], _ :: _, _, h, _ => h.elim
  | y :: ys, g :: gs, y0, h, 0 => h.1
  | y :: ys, g :: gs, y0, h, j + 1 => by
    rw [List.getD_cons_succ, List.getD_cons_succ]
    exact allG_at ys gs y0 h.2 j
def gH_init : Dx := fun n d C as M => match as with
  | [v0] => aR v0 fun a0 => fH_init_0 n d C a0 M
  | _ => none
theorem ggH_init : GoodD yH_init gH_init := by
  intro l G n d C as M M' r hl9 hC h
  unfold gH_init at h
  split at h
  · replace h := a_r h
    obtain ⟨a0, rfl, h⟩ := h
    exact sH_init (n := n) hC a0 h
  · cases h
def gP_init : Dx := fun n d C as M => match as with
  | [v0] => aR v0 fun a0 => fP_init_0 n d C a0 M
  | _ => none
theorem ggP_init : GoodD yP_init gP_init := by
  intro l G n d C as M M' r hl9 hC h
  unfold gP_init at h
  split at h
  · replace h := a_r h
    obtain ⟨a0, rfl, h⟩ := h
    exact sP_init (n := n) hC a0 h
  · cases h
def gS_length : Dx := fun n d C as M => match as with
  | [v0] => aR v0 fun a0 => fS_length_0 n d C a0 M
  | _ => none
theorem ggS_length : GoodD yS_length gS_length := by
  intro l G n d C as M M' r hl9 hC h
  unfold gS_length at h
  split at h
  · replace h := a_r h
    obtain ⟨a0, rfl, h⟩ := h
    exact sS_length (n := n) hC a0 h
  · cases h
def gS_coder : Dx := fun n d C as M => match as with
  | [v0] => aR v0 fun a0 => fS_coder_0 n d C a0 M
  | _ => none
theorem ggS_coder : GoodD yS_coder gS_coder := by
  intro l G n d C as M M' r hl9 hC h
  unfold gS_coder at h
  split at h
  · replace h := a_r h
    obtain ⟨a0, rfl, h⟩ := h
    exact sS_coder (n := n) hC a0 h
  · cases h
def gO_init : Dx := fun n d C as M => match as with
  | [v0] => aR v0 fun a0 => fO_init_0 n d C a0 M
  | _ => none
theorem ggO_init : GoodD yO_init gO_init := by
  intro l G n d C as M M' r hl9 hC h
  unfold gO_init at h
  split at h
  · replace h := a_r h
    obtain ⟨a0, rfl, h⟩ := h
    exact sO_init (n := n) hC a0 h
  · cases h
def gH_write : Dx := fun n d C as M => match as with
  | [v0, v1] => aR v0 fun a0 => aJ v1 fun l1 => fH_write_0 n d C a0 l1 M
  | _ => none
theorem ggH_write : GoodD yH_write gH_write := by
  intro l G n d C as M M' r hl9 hC h
  unfold gH_write at h
  split at h
  · replace h := a_r h
    obtain ⟨a0, rfl, h⟩ := h
    replace h := a_j h
    obtain ⟨l1, rfl, h⟩ := h
    exact sH_write (n := n) hC a0 l1 h
  · cases h
def gH_byteAt : Dx := fun n d C as M => match as with
  | [v0, v1] => aJ v0 fun l0 => aI v1 fun x2 => fH_byteAt_0 n d C l0 x2 M
  | _ => none
theorem ggH_byteAt : GoodD yH_byteAt gH_byteAt := by
  intro l G n d C as M M' r hl9 hC h
  unfold gH_byteAt at h
  split at h
  · replace h := a_j h
    obtain ⟨l0, rfl, h⟩ := h
    replace h := a_i h
    obtain ⟨x2, rfl, h⟩ := h
    exact sH_byteAt (n := n) hC l0 x2 h
  · cases h
def gH_append : Dx := fun n d C as M => match as with
  | [v0, v1] => aR v0 fun a0 => aI v1 fun x1 => fH_append_0 n d C a0 x1 M
  | _ => none
theorem ggH_append : GoodD yH_append gH_append := by
  intro l G n d C as M M' r hl9 hC h
  unfold gH_append at h
  split at h
  · replace h := a_r h
    obtain ⟨a0, rfl, h⟩ := h
    replace h := a_i h
    obtain ⟨x1, rfl, h⟩ := h
    exact sH_append (n := n) hC a0 x1 h
  · cases h
def gH_wipe : Dx := fun n d C as M => match as with
  | [v0] => aR v0 fun a0 => fH_wipe_0 n d C a0 M
  | _ => none
theorem ggH_wipe : GoodD yH_wipe gH_wipe := by
  intro l G n d C as M M' r hl9 hC h
  unfold gH_wipe at h
  split at h
  · replace h := a_r h
    obtain ⟨a0, rfl, h⟩ := h
    exact sH_wipe (n := n) hC a0 h
  · cases h
def gH_length : Dx := fun n d C as M => match as with
  | [v0] => aR v0 fun a0 => fH_length_0 n d C a0 M
  | _ => none
theorem ggH_length : GoodD yH_length gH_length := by
  intro l G n d C as M M' r hl9 hC h
  unfold gH_length at h
  split at h
  · replace h := a_r h
    obtain ⟨a0, rfl, h⟩ := h
    exact sH_length (n := n) hC a0 h
  · cases h
def gH_read : Dx := fun n d C as M => match as with
  | [v0] => aR v0 fun a0 => fH_read_0 n d C a0 M
  | _ => none
theorem ggH_read : GoodD yH_read gH_read := by
  intro l G n d C as M M' r hl9 hC h
  unfold gH_read at h
  split at h
  · replace h := a_r h
    obtain ⟨a0, rfl, h⟩ := h
    exact sH_read (n := n) hC a0 h
  · cases h
def gP_parse : Dx := fun n d C as M => match as with
  | [v0, v1, v2] => aR v0 fun a0 => aP v1 fun r1 => aI v2 fun x2 => fP_parse_0 n d C a0 r1 x2 M
  | _ => none
theorem ggP_parse : GoodD yP_parse gP_parse := by
  intro l G n d C as M M' r hl9 hC h
  unfold gP_parse at h
  split at h
  · replace h := a_r h
    obtain ⟨a0, rfl, h⟩ := h
    replace h := a_p h
    obtain ⟨r1, rfl, h⟩ := h
    replace h := a_i h
    obtain ⟨x2, rfl, h⟩ := h
    exact sP_parse (n := n) hC a0 r1 x2 h
  · cases h
def gP_start : Dx := fun n d C as M => match as with
  | [v0, v1, v2] => aR v0 fun a0 => aP v1 fun r1 => aI v2 fun x2 => fP_start_0 n d C a0 r1 x2 M
  | _ => none
theorem ggP_start : GoodD yP_start gP_start := by
  intro l G n d C as M M' r hl9 hC h
  unfold gP_start at h
  split at h
  · replace h := a_r h
    obtain ⟨a0, rfl, h⟩ := h
    replace h := a_p h
    obtain ⟨r1, rfl, h⟩ := h
    replace h := a_i h
    obtain ⟨x2, rfl, h⟩ := h
    exact sP_start (n := n) hC a0 r1 x2 h
  · cases h
def gP_row : Dx := fun n d C as M => match as with
  | [v0, v1, v2] => aR v0 fun a0 => aI v1 fun x1 => aI v2 fun x2 => fP_row_0 n d C a0 x1 x2 M
  | _ => none
theorem ggP_row : GoodD yP_row gP_row := by
  intro l G n d C as M M' r hl9 hC h
  unfold gP_row at h
  split at h
  · replace h := a_r h
    obtain ⟨a0, rfl, h⟩ := h
    replace h := a_i h
    obtain ⟨x1, rfl, h⟩ := h
    replace h := a_i h
    obtain ⟨x2, rfl, h⟩ := h
    exact sP_row (n := n) hC a0 x1 x2 h
  · cases h
def gP_item : Dx := fun n d C as M => match as with
  | [v0, v1, v2] => aR v0 fun a0 => aI v1 fun x1 => aI v2 fun x2 => fP_item_0 n d C a0 x1 x2 M
  | _ => none
theorem ggP_item : GoodD yP_item gP_item := by
  intro l G n d C as M M' r hl9 hC h
  unfold gP_item at h
  split at h
  · replace h := a_r h
    obtain ⟨a0, rfl, h⟩ := h
    replace h := a_i h
    obtain ⟨x1, rfl, h⟩ := h
    replace h := a_i h
    obtain ⟨x2, rfl, h⟩ := h
    exact sP_item (n := n) hC a0 x1 x2 h
  · cases h
def gP_one : Dx := fun n d C as M => match as with
  | [v0, v1] => aR v0 fun a0 => aI v1 fun x1 => fP_one_0 n d C a0 x1 M
  | _ => none
theorem ggP_one : GoodD yP_one gP_one := by
  intro l G n d C as M M' r hl9 hC h
  unfold gP_one at h
  split at h
  · replace h := a_r h
    obtain ⟨a0, rfl, h⟩ := h
    replace h := a_i h
    obtain ⟨x1, rfl, h⟩ := h
    exact sP_one (n := n) hC a0 x1 h
  · cases h
def gP_insist : Dx := fun n d C as M => match as with
  | [v0] => aI v0 fun x0 => fP_insist_0 n d C x0 M
  | _ => none
theorem ggP_insist : GoodD yP_insist gP_insist := by
  intro l G n d C as M M' r hl9 hC h
  unfold gP_insist at h
  split at h
  · replace h := a_i h
    obtain ⟨x0, rfl, h⟩ := h
    exact sP_insist hl9 (n := n) hC x0 h
  · cases h
def gP_peek : Dx := fun n d C as M => match as with
  | [v0] => aR v0 fun a0 => fP_peek_0 n d C a0 M
  | _ => none
theorem ggP_peek : GoodD yP_peek gP_peek := by
  intro l G n d C as M M' r hl9 hC h
  unfold gP_peek at h
  split at h
  · replace h := a_r h
    obtain ⟨a0, rfl, h⟩ := h
    exact sP_peek (n := n) hC a0 h
  · cases h
def gP_not : Dx := fun n d C as M => match as with
  | [v0, v1] => aR v0 fun a0 => aI v1 fun x1 => fP_not_0 n d C a0 x1 M
  | _ => none
theorem ggP_not : GoodD yP_not gP_not := by
  intro l G n d C as M M' r hl9 hC h
  unfold gP_not at h
  split at h
  · replace h := a_r h
    obtain ⟨a0, rfl, h⟩ := h
    replace h := a_i h
    obtain ⟨x1, rfl, h⟩ := h
    exact sP_not (n := n) hC a0 x1 h
  · cases h
def gP_next : Dx := fun n d C as M => match as with
  | [v0] => aR v0 fun a0 => fP_next_0 n d C a0 M
  | _ => none
theorem ggP_next : GoodD yP_next gP_next := by
  intro l G n d C as M M' r hl9 hC h
  unfold gP_next at h
  split at h
  · replace h := a_r h
    obtain ⟨a0, rfl, h⟩ := h
    exact sP_next (n := n) hC a0 h
  · cases h
def gP_make : Dx := fun n d C as M => match as with
  | [v0, v1] => aR v0 fun a0 => aI v1 fun x1 => fP_make_0 n d C a0 x1 M
  | _ => none
theorem ggP_make : GoodD yP_make gP_make := by
  intro l G n d C as M M' r hl9 hC h
  unfold gP_make at h
  split at h
  · replace h := a_r h
    obtain ⟨a0, rfl, h⟩ := h
    replace h := a_i h
    obtain ⟨x1, rfl, h⟩ := h
    exact sP_make (n := n) hC a0 x1 h
  · cases h
def gN_init : Dx := fun n d C as M => match as with
  | [v0] => aR v0 fun a0 => fN_init_0 n d C a0 M
  | _ => none
theorem ggN_init : GoodD yN_init gN_init := by
  intro l G n d C as M M' r hl9 hC h
  unfold gN_init at h
  split at h
  · replace h := a_r h
    obtain ⟨a0, rfl, h⟩ := h
    exact sN_init (n := n) hC a0 h
  · cases h
def gN_reset : Dx := fun n d C as M => match as with
  | [v0, v1] => aR v0 fun a0 => aI v1 fun x1 => fN_reset_0 n d C a0 x1 M
  | _ => none
theorem ggN_reset : GoodD yN_reset gN_reset := by
  intro l G n d C as M M' r hl9 hC h
  unfold gN_reset at h
  split at h
  · replace h := a_r h
    obtain ⟨a0, rfl, h⟩ := h
    replace h := a_i h
    obtain ⟨x1, rfl, h⟩ := h
    exact sN_reset (n := n) hC a0 x1 h
  · cases h
def gP_quantified : Dx := fun n d C as M => match as with
  | [v0, v1] => aR v0 fun a0 => aI v1 fun x1 => fP_quantified_0 n d C a0 x1 M
  | _ => none
theorem ggP_quantified : GoodD yP_quantified gP_quantified := by
  intro l G n d C as M M' r hl9 hC h
  unfold gP_quantified at h
  split at h
  · replace h := a_r h
    obtain ⟨a0, rfl, h⟩ := h
    replace h := a_i h
    obtain ⟨x1, rfl, h⟩ := h
    exact sP_quantified (n := n) hC a0 x1 h
  · cases h
def gS_indexOf : Dx := fun n d C as M => match as with
  | [v0, v1] => aR v0 fun a0 => aI v1 fun x1 => fS_indexOf_0 n d C a0 x1 M
  | _ => none
theorem ggS_indexOf : GoodD yS_indexOf gS_indexOf := by
  intro l G n d C as M M' r hl9 hC h
  unfold gS_indexOf at h
  split at h
  · replace h := a_r h
    obtain ⟨a0, rfl, h⟩ := h
    replace h := a_i h
    obtain ⟨x1, rfl, h⟩ := h
    exact sS_indexOf (n := n) hC a0 x1 h
  · cases h
def gS_indexOf2 : Dx := fun n d C as M => match as with
  | [v0, v1, v2] => aR v0 fun a0 => aI v1 fun x1 => aI v2 fun x2 => fS_indexOf2_0 n d C a0 x1 x2 M
  | _ => none
theorem ggS_indexOf2 : GoodD yS_indexOf2 gS_indexOf2 := by
  intro l G n d C as M M' r hl9 hC h
  unfold gS_indexOf2 at h
  split at h
  · replace h := a_r h
    obtain ⟨a0, rfl, h⟩ := h
    replace h := a_i h
    obtain ⟨x1, rfl, h⟩ := h
    replace h := a_i h
    obtain ⟨x2, rfl, h⟩ := h
    exact sS_indexOf2 (n := n) hC a0 x1 x2 h
  · cases h
def gS_isLatin1 : Dx := fun n d C as M => match as with
  | [v0] => aR v0 fun a0 => fS_isLatin1_0 n d C a0 M
  | _ => none
theorem ggS_isLatin1 : GoodD yS_isLatin1 gS_isLatin1 := by
  intro l G n d C as M M' r hl9 hC h
  unfold gS_isLatin1 at h
  split at h
  · replace h := a_r h
    obtain ⟨a0, rfl, h⟩ := h
    exact sS_isLatin1 (n := n) hC a0 h
  · cases h
def gT_indexOf : Dx := fun n d C as M => match as with
  | [v0, v1, v2, v3] => aP v0 fun r0 => aI v1 fun x1 => aI v2 fun x2 => aI v3 fun x3 => fT_indexOf_0 n d C r0 x1 x2 x3 M
  | _ => none
theorem ggT_indexOf : GoodD yT_indexOf gT_indexOf := by
  intro l G n d C as M M' r hl9 hC h
  unfold gT_indexOf at h
  split at h
  · replace h := a_p h
    obtain ⟨r0, rfl, h⟩ := h
    replace h := a_i h
    obtain ⟨x1, rfl, h⟩ := h
    replace h := a_i h
    obtain ⟨x2, rfl, h⟩ := h
    replace h := a_i h
    obtain ⟨x3, rfl, h⟩ := h
    exact sT_indexOf (n := n) hC r0 x1 x2 x3 h
  · cases h
def gT_canEncode : Dx := fun n d C as M => match as with
  | [v0] => aI v0 fun x0 => fT_canEncode_0 n d C x0 M
  | _ => none
theorem ggT_canEncode : GoodD yT_canEncode gT_canEncode := by
  intro l G n d C as M M' r hl9 hC h
  unfold gT_canEncode at h
  split at h
  · replace h := a_i h
    obtain ⟨x0, rfl, h⟩ := h
    exact sT_canEncode (n := n) hC x0 h
  · cases h
def gT_indexOfChar : Dx := fun n d C as M => match as with
  | [v0, v1, v2, v3] => aP v0 fun r0 => aI v1 fun x1 => aI v2 fun x2 => aI v3 fun x3 => fT_indexOfChar_0 n d C r0 x1 x2 x3 M
  | _ => none
theorem ggT_indexOfChar : GoodD yT_indexOfChar gT_indexOfChar := by
  intro l G n d C as M M' r hl9 hC h
  unfold gT_indexOfChar at h
  split at h
  · replace h := a_p h
    obtain ⟨r0, rfl, h⟩ := h
    replace h := a_i h
    obtain ⟨x1, rfl, h⟩ := h
    replace h := a_i h
    obtain ⟨x2, rfl, h⟩ := h
    replace h := a_i h
    obtain ⟨x3, rfl, h⟩ := h
    exact sT_indexOfChar (n := n) hC r0 x1 x2 x3 h
  · cases h
def gP_bracketed : Dx := fun n d C as M => match as with
  | [v0, v1] => aR v0 fun a0 => aI v1 fun x1 => fP_bracketed_0 n d C a0 x1 M
  | _ => none
theorem ggP_bracketed : GoodD yP_bracketed gP_bracketed := by
  intro l G n d C as M M' r hl9 hC h
  unfold gP_bracketed at h
  split at h
  · replace h := a_r h
    obtain ⟨a0, rfl, h⟩ := h
    replace h := a_i h
    obtain ⟨x1, rfl, h⟩ := h
    exact sP_bracketed (n := n) hC a0 x1 h
  · cases h
def gP_take : Dx := fun n d C as M => match as with
  | [v0, v1] => aR v0 fun a0 => aI v1 fun x1 => fP_take_0 n d C a0 x1 M
  | _ => none
theorem ggP_take : GoodD yP_take gP_take := by
  intro l G n d C as M M' r hl9 hC h
  unfold gP_take at h
  split at h
  · replace h := a_r h
    obtain ⟨a0, rfl, h⟩ := h
    replace h := a_i h
    obtain ⟨x1, rfl, h⟩ := h
    exact sP_take (n := n) hC a0 x1 h
  · cases h
def gP_comparisonOfSets : Dx := fun n d C as M => match as with
  | [v0, v1] => aR v0 fun a0 => aI v1 fun x1 => fP_comparisonOfSets_0 n d C a0 x1 M
  | _ => none
theorem ggP_comparisonOfSets : GoodD yP_comparisonOfSets gP_comparisonOfSets := by
  intro l G n d C as M M' r hl9 hC h
  unfold gP_comparisonOfSets at h
  split at h
  · replace h := a_r h
    obtain ⟨a0, rfl, h⟩ := h
    replace h := a_i h
    obtain ⟨x1, rfl, h⟩ := h
    exact sP_comparisonOfSets (n := n) hC a0 x1 h
  · cases h
def gP_startsWithDivisor : Dx := fun n d C as M => match as with
  | [v0] => aR v0 fun a0 => fP_startsWithDivisor_0 n d C a0 M
  | _ => none
theorem ggP_startsWithDivisor : GoodD yP_startsWithDivisor gP_startsWithDivisor := by
  intro l G n d C as M M' r hl9 hC h
  unfold gP_startsWithDivisor at h
  split at h
  · replace h := a_r h
    obtain ⟨a0, rfl, h⟩ := h
    exact sP_startsWithDivisor (n := n) hC a0 h
  · cases h
def gP_isDecimal : Dx := fun n d C as M => match as with
  | [v0] => aI v0 fun x0 => fP_isDecimal_0 n d C x0 M
  | _ => none
theorem ggP_isDecimal : GoodD yP_isDecimal gP_isDecimal := by
  intro l G n d C as M M' r hl9 hC h
  unfold gP_isDecimal at h
  split at h
  · replace h := a_i h
    obtain ⟨x0, rfl, h⟩ := h
    exact sP_isDecimal (n := n) hC x0 h
  · cases h
def gP_number : Dx := fun n d C as M => match as with
  | [v0] => aR v0 fun a0 => fP_number_0 n d C a0 M
  | _ => none
theorem ggP_number : GoodD yP_number gP_number := by
  intro l G n d C as M M' r hl9 hC h
  unfold gP_number at h
  split at h
  · replace h := a_r h
    obtain ⟨a0, rfl, h⟩ := h
    exact sP_number (n := n) hC a0 h
  · cases h
def gP_divided : Dx := fun n d C as M => match as with
  | [v0, v1] => aR v0 fun a0 => aI v1 fun x1 => fP_divided_0 n d C a0 x1 M
  | _ => none
theorem ggP_divided : GoodD yP_divided gP_divided := by
  intro l G n d C as M M' r hl9 hC h
  unfold gP_divided at h
  split at h
  · replace h := a_r h
    obtain ⟨a0, rfl, h⟩ := h
    replace h := a_i h
    obtain ⟨x1, rfl, h⟩ := h
    exact sP_divided (n := n) hC a0 x1 h
  · cases h
def gP_addSum : Dx := fun n d C as M => match as with
  | [v0, v1, v2, v3] => aR v0 fun a0 => aP v1 fun r1 => aI v2 fun x2 => aI v3 fun x3 => fP_addSum_0 n d C a0 r1 x2 x3 M
  | _ => none
theorem ggP_addSum : GoodD yP_addSum gP_addSum := by
  intro l G n d C as M M' r hl9 hC h
  unfold gP_addSum at h
  split at h
  · replace h := a_r h
    obtain ⟨a0, rfl, h⟩ := h
    replace h := a_p h
    obtain ⟨r1, rfl, h⟩ := h
    replace h := a_i h
    obtain ⟨x2, rfl, h⟩ := h
    replace h := a_i h
    obtain ⟨x3, rfl, h⟩ := h
    exact sP_addSum (n := n) hC a0 r1 x2 x3 h
  · cases h
def gP_addPart : Dx := fun n d C as M => match as with
  | [v0, v1, v2, v3] => aR v0 fun a0 => aP v1 fun r1 => aI v2 fun x2 => aI v3 fun x3 => fP_addPart_0 n d C a0 r1 x2 x3 M
  | _ => none
theorem ggP_addPart : GoodD yP_addPart gP_addPart := by
  intro l G n d C as M M' r hl9 hC h
  unfold gP_addPart at h
  split at h
  · replace h := a_r h
    obtain ⟨a0, rfl, h⟩ := h
    replace h := a_p h
    obtain ⟨r1, rfl, h⟩ := h
    replace h := a_i h
    obtain ⟨x2, rfl, h⟩ := h
    replace h := a_i h
    obtain ⟨x3, rfl, h⟩ := h
    exact sP_addPart (n := n) hC a0 r1 x2 x3 h
  · cases h
def gP_thing : Dx := fun n d C as M => match as with
  | [v0, v1] => aR v0 fun a0 => aI v1 fun x1 => fP_thing_0 n d C a0 x1 M
  | _ => none
theorem ggP_thing : GoodD yP_thing gP_thing := by
  intro l G n d C as M M' r hl9 hC h
  unfold gP_thing at h
  split at h
  · replace h := a_r h
    obtain ⟨a0, rfl, h⟩ := h
    replace h := a_i h
    obtain ⟨x1, rfl, h⟩ := h
    exact sP_thing (n := n) hC a0 x1 h
  · cases h
def gP_single : Dx := fun n d C as M => match as with
  | [v0, v1] => aR v0 fun a0 => aI v1 fun x1 => fP_single_0 n d C a0 x1 M
  | _ => none
theorem ggP_single : GoodD yP_single gP_single := by
  intro l G n d C as M M' r hl9 hC h
  unfold gP_single at h
  split at h
  · replace h := a_r h
    obtain ⟨a0, rfl, h⟩ := h
    replace h := a_i h
    obtain ⟨x1, rfl, h⟩ := h
    exact sP_single (n := n) hC a0 x1 h
  · cases h
def gP_boundVariable : Dx := fun n d C as M => match as with
  | [v0, v1] => aR v0 fun a0 => aI v1 fun x1 => fP_boundVariable_0 n d C a0 x1 M
  | _ => none
theorem ggP_boundVariable : GoodD yP_boundVariable gP_boundVariable := by
  intro l G n d C as M M' r hl9 hC h
  unfold gP_boundVariable at h
  split at h
  · replace h := a_r h
    obtain ⟨a0, rfl, h⟩ := h
    replace h := a_i h
    obtain ⟨x1, rfl, h⟩ := h
    exact sP_boundVariable (n := n) hC a0 x1 h
  · cases h
def gP_comparisonOfSums : Dx := fun n d C as M => match as with
  | [v0, v1] => aR v0 fun a0 => aI v1 fun x1 => fP_comparisonOfSums_0 n d C a0 x1 M
  | _ => none
theorem ggP_comparisonOfSums : GoodD yP_comparisonOfSums gP_comparisonOfSums := by
  intro l G n d C as M M' r hl9 hC h
  unfold gP_comparisonOfSums at h
  split at h
  · replace h := a_r h
    obtain ⟨a0, rfl, h⟩ := h
    replace h := a_i h
    obtain ⟨x1, rfl, h⟩ := h
    exact sP_comparisonOfSums (n := n) hC a0 x1 h
  · cases h
def gH_holds : Dx := fun n d C as M => match as with
  | [v0, v1] => aR v0 fun a0 => aI v1 fun x1 => fH_holds_0 n d C a0 x1 M
  | _ => none
theorem ggH_holds : GoodD yH_holds gH_holds := by
  intro l G n d C as M M' r hl9 hC h
  unfold gH_holds at h
  split at h
  · replace h := a_r h
    obtain ⟨a0, rfl, h⟩ := h
    replace h := a_i h
    obtain ⟨x1, rfl, h⟩ := h
    exact sH_holds (n := n) hC a0 x1 h
  · cases h
def gH_needSentence : Dx := fun n d C as M => match as with
  | [v0] => aR v0 fun a0 => fH_needSentence_0 n d C a0 M
  | _ => none
theorem ggH_needSentence : GoodD yH_needSentence gH_needSentence := by
  intro l G n d C as M M' r hl9 hC h
  unfold gH_needSentence at h
  split at h
  · replace h := a_r h
    obtain ⟨a0, rfl, h⟩ := h
    exact sH_needSentence hl9 (n := n) hC a0 h
  · cases h
def gH_needWorld : Dx := fun n d C as M => match as with
  | [v0] => aI v0 fun x0 => fH_needWorld_0 n d C x0 M
  | _ => none
theorem ggH_needWorld : GoodD yH_needWorld gH_needWorld := by
  intro l G n d C as M M' r hl9 hC h
  unfold gH_needWorld at h
  split at h
  · replace h := a_i h
    obtain ⟨x0, rfl, h⟩ := h
    exact sH_needWorld hl9 (n := n) hC x0 h
  · cases h
def gH_isTrueIn : Dx := fun n d C as M => match as with
  | [v0, v1] => aR v0 fun a0 => aI v1 fun x1 => fH_isTrueIn_0 n d C a0 x1 M
  | _ => none
theorem ggH_isTrueIn : GoodD yH_isTrueIn gH_isTrueIn := by
  intro l G n d C as M M' r hl9 hC h
  unfold gH_isTrueIn at h
  split at h
  · replace h := a_r h
    obtain ⟨a0, rfl, h⟩ := h
    replace h := a_i h
    obtain ⟨x1, rfl, h⟩ := h
    exact sH_isTrueIn (n := n) hC a0 x1 h
  · cases h
def gH_waysIn : Dx := fun n d C as M => match as with
  | [v0, v1] => aR v0 fun a0 => aI v1 fun x1 => fH_waysIn_0 n d C a0 x1 M
  | _ => none
theorem ggH_waysIn : GoodD yH_waysIn gH_waysIn := by
  intro l G n d C as M M' r hl9 hC h
  unfold gH_waysIn at h
  split at h
  · replace h := a_r h
    obtain ⟨a0, rfl, h⟩ := h
    replace h := a_i h
    obtain ⟨x1, rfl, h⟩ := h
    exact sH_waysIn (n := n) hC a0 x1 h
  · cases h
def gO_count : Dx := fun n d C as M => match as with
  | [v0, v1, v2] => aR v0 fun a0 => aP v1 fun r1 => aI v2 fun x2 => fO_count_0 n d C a0 r1 x2 M
  | _ => none
theorem ggO_count : GoodD yO_count gO_count := by
  intro l G n d C as M M' r hl9 hC h
  unfold gO_count at h
  split at h
  · replace h := a_r h
    obtain ⟨a0, rfl, h⟩ := h
    replace h := a_p h
    obtain ⟨r1, rfl, h⟩ := h
    replace h := a_i h
    obtain ⟨x2, rfl, h⟩ := h
    exact sO_count (n := n) hC a0 r1 x2 h
  · cases h
def gO_isTrue : Dx := fun n d C as M => match as with
  | [v0, v1] => aR v0 fun a0 => aP v1 fun r1 => fO_isTrue_0 n d C a0 r1 M
  | _ => none
theorem ggO_isTrue : GoodD yO_isTrue gO_isTrue := by
  intro l G n d C as M M' r hl9 hC h
  unfold gO_isTrue at h
  split at h
  · replace h := a_r h
    obtain ⟨a0, rfl, h⟩ := h
    replace h := a_p h
    obtain ⟨r1, rfl, h⟩ := h
    exact sO_isTrue (n := n) hC a0 r1 h
  · cases h
def gO_anyIs : Dx := fun n d C as M => match as with
  | [v0, v1, v2] => aR v0 fun a0 => aI v1 fun x1 => aP v2 fun r2 => fO_anyIs_0 n d C a0 x1 r2 M
  | _ => none
theorem ggO_anyIs : GoodD yO_anyIs gO_anyIs := by
  intro l G n d C as M M' r hl9 hC h
  unfold gO_anyIs at h
  split at h
  · replace h := a_r h
    obtain ⟨a0, rfl, h⟩ := h
    replace h := a_i h
    obtain ⟨x1, rfl, h⟩ := h
    replace h := a_p h
    obtain ⟨r2, rfl, h⟩ := h
    exact sO_anyIs (n := n) hC a0 x1 r2 h
  · cases h
def gO_anyChoiceMakes : Dx := fun n d C as M => match as with
  | [v0, v1, v2] => aR v0 fun a0 => aI v1 fun x1 => aP v2 fun r2 => fO_anyChoiceMakes_0 n d C a0 x1 r2 M
  | _ => none
theorem ggO_anyChoiceMakes : GoodD yO_anyChoiceMakes gO_anyChoiceMakes := by
  intro l G n d C as M M' r hl9 hC h
  unfold gO_anyChoiceMakes at h
  split at h
  · replace h := a_r h
    obtain ⟨a0, rfl, h⟩ := h
    replace h := a_i h
    obtain ⟨x1, rfl, h⟩ := h
    replace h := a_p h
    obtain ⟨r2, rfl, h⟩ := h
    exact sO_anyChoiceMakes (n := n) hC a0 x1 r2 h
  · cases h
def gO_value : Dx := fun n d C as M => match as with
  | [v0, v1] => aR v0 fun a0 => aI v1 fun x1 => fO_value_0 n d C a0 x1 M
  | _ => none
theorem ggO_value : GoodD yO_value gO_value := by
  intro l G n d C as M M' r hl9 hC h
  unfold gO_value at h
  split at h
  · replace h := a_r h
    obtain ⟨a0, rfl, h⟩ := h
    replace h := a_i h
    obtain ⟨x1, rfl, h⟩ := h
    exact sO_value (n := n) hC a0 x1 h
  · cases h
def gO_firstChoice : Dx := fun n d C as M => match as with
  | [v0] => aI v0 fun x0 => fO_firstChoice_0 n d C x0 M
  | _ => none
theorem ggO_firstChoice : GoodD yO_firstChoice gO_firstChoice := by
  intro l G n d C as M M' r hl9 hC h
  unfold gO_firstChoice at h
  split at h
  · replace h := a_i h
    obtain ⟨x0, rfl, h⟩ := h
    exact sO_firstChoice (n := n) hC x0 h
  · cases h
def gO_choices : Dx := fun n d C as M => match as with
  | [v0, v1] => aI v0 fun x0 => aI v1 fun x1 => fO_choices_0 n d C x0 x1 M
  | _ => none
theorem ggO_choices : GoodD yO_choices gO_choices := by
  intro l G n d C as M M' r hl9 hC h
  unfold gO_choices at h
  split at h
  · replace h := a_i h
    obtain ⟨x0, rfl, h⟩ := h
    replace h := a_i h
    obtain ⟨x1, rfl, h⟩ := h
    exact sO_choices (n := n) hC x0 x1 h
  · cases h
def gO_bind : Dx := fun n d C as M => match as with
  | [v0, v1, v2] => aR v0 fun a0 => aI v1 fun x1 => aI v2 fun x2 => fO_bind_0 n d C a0 x1 x2 M
  | _ => none
theorem ggO_bind : GoodD yO_bind gO_bind := by
  intro l G n d C as M M' r hl9 hC h
  unfold gO_bind at h
  split at h
  · replace h := a_r h
    obtain ⟨a0, rfl, h⟩ := h
    replace h := a_i h
    obtain ⟨x1, rfl, h⟩ := h
    replace h := a_i h
    obtain ⟨x2, rfl, h⟩ := h
    exact sO_bind (n := n) hC a0 x1 x2 h
  · cases h
def gO_isTrueOfSets : Dx := fun n d C as M => match as with
  | [v0, v1] => aR v0 fun a0 => aP v1 fun r1 => fO_isTrueOfSets_0 n d C a0 r1 M
  | _ => none
theorem ggO_isTrueOfSets : GoodD yO_isTrueOfSets gO_isTrueOfSets := by
  intro l G n d C as M M' r hl9 hC h
  unfold gO_isTrueOfSets at h
  split at h
  · replace h := a_r h
    obtain ⟨a0, rfl, h⟩ := h
    replace h := a_p h
    obtain ⟨r1, rfl, h⟩ := h
    exact sO_isTrueOfSets (n := n) hC a0 r1 h
  · cases h
def gO_elements : Dx := fun n d C as M => match as with
  | [v0, v1] => aR v0 fun a0 => aP v1 fun r1 => fO_elements_0 n d C a0 r1 M
  | _ => none
theorem ggO_elements : GoodD yO_elements gO_elements := by
  intro l G n d C as M M' r hl9 hC h
  unfold gO_elements at h
  split at h
  · replace h := a_r h
    obtain ⟨a0, rfl, h⟩ := h
    replace h := a_p h
    obtain ⟨r1, rfl, h⟩ := h
    exact sO_elements (n := n) hC a0 r1 h
  · cases h
def gO_union : Dx := fun n d C as M => match as with
  | [v0, v1] => aR v0 fun a0 => aP v1 fun r1 => fO_union_0 n d C a0 r1 M
  | _ => none
theorem ggO_union : GoodD yO_union gO_union := by
  intro l G n d C as M M' r hl9 hC h
  unfold gO_union at h
  split at h
  · replace h := a_r h
    obtain ⟨a0, rfl, h⟩ := h
    replace h := a_p h
    obtain ⟨r1, rfl, h⟩ := h
    exact sO_union (n := n) hC a0 r1 h
  · cases h
def gO_meet : Dx := fun n d C as M => match as with
  | [v0, v1] => aR v0 fun a0 => aP v1 fun r1 => fO_meet_0 n d C a0 r1 M
  | _ => none
theorem ggO_meet : GoodD yO_meet gO_meet := by
  intro l G n d C as M M' r hl9 hC h
  unfold gO_meet at h
  split at h
  · replace h := a_r h
    obtain ⟨a0, rfl, h⟩ := h
    replace h := a_p h
    obtain ⟨r1, rfl, h⟩ := h
    exact sO_meet (n := n) hC a0 r1 h
  · cases h
def gO_isTrueOfSum : Dx := fun n d C as M => match as with
  | [v0, v1] => aR v0 fun a0 => aP v1 fun r1 => fO_isTrueOfSum_0 n d C a0 r1 M
  | _ => none
theorem ggO_isTrueOfSum : GoodD yO_isTrueOfSum gO_isTrueOfSum := by
  intro l G n d C as M M' r hl9 hC h
  unfold gO_isTrueOfSum at h
  split at h
  · replace h := a_r h
    obtain ⟨a0, rfl, h⟩ := h
    replace h := a_p h
    obtain ⟨r1, rfl, h⟩ := h
    exact sO_isTrueOfSum (n := n) hC a0 r1 h
  · cases h
def gO_amount : Dx := fun n d C as M => match as with
  | [v0, v1] => aR v0 fun a0 => aP v1 fun r1 => fO_amount_0 n d C a0 r1 M
  | _ => none
theorem ggO_amount : GoodD yO_amount gO_amount := by
  intro l G n d C as M M' r hl9 hC h
  unfold gO_amount at h
  split at h
  · replace h := a_r h
    obtain ⟨a0, rfl, h⟩ := h
    replace h := a_p h
    obtain ⟨r1, rfl, h⟩ := h
    exact sO_amount (n := n) hC a0 r1 h
  · cases h
def gI_bitCount : Dx := fun n d C as M => match as with
  | [v0] => aI v0 fun x0 => fI_bitCount_0 n d C x0 M
  | _ => none
theorem ggI_bitCount : GoodD yI_bitCount gI_bitCount := by
  intro l G n d C as M M' r hl9 hC h
  unfold gI_bitCount at h
  split at h
  · replace h := a_i h
    obtain ⟨x0, rfl, h⟩ := h
    exact sI_bitCount (n := n) hC x0 h
  · cases h
def gH_fails : Dx := fun n d C as M => match as with
  | [v0] => aR v0 fun a0 => fH_fails_0 n d C a0 M
  | _ => none
theorem ggH_fails : GoodD yH_fails gH_fails := by
  intro l G n d C as M M' r hl9 hC h
  unfold gH_fails at h
  split at h
  · replace h := a_r h
    obtain ⟨a0, rfl, h⟩ := h
    exact sH_fails (n := n) hC a0 h
  · cases h
def gH_ways : Dx := fun n d C as M => match as with
  | [v0, v1] => aR v0 fun a0 => aI v1 fun x1 => fH_ways_0 n d C a0 x1 M
  | _ => none
theorem ggH_ways : GoodD yH_ways gH_ways := by
  intro l G n d C as M M' r hl9 hC h
  unfold gH_ways at h
  split at h
  · replace h := a_r h
    obtain ⟨a0, rfl, h⟩ := h
    replace h := a_i h
    obtain ⟨x1, rfl, h⟩ := h
    exact sH_ways (n := n) hC a0 x1 h
  · cases h
def gM_init : Dx := fun n d C as M => match as with
  | [v0] => aR v0 fun a0 => fM_init_0 n d C a0 M
  | _ => none
theorem ggM_init : GoodD yM_init gM_init := by
  intro l G n d C as M M' r hl9 hC h
  unfold gM_init at h
  split at h
  · replace h := a_r h
    obtain ⟨a0, rfl, h⟩ := h
    exact sM_init (n := n) hC a0 h
  · cases h
def gM_thrown : Dx := fun n d C as M => match as with
  | [v0] => aR v0 fun a0 => fM_thrown_0 n d C a0 M
  | _ => none
theorem ggM_thrown : GoodD yM_thrown gM_thrown := by
  intro l G n d C as M M' r hl9 hC h
  unfold gM_thrown at h
  split at h
  · replace h := a_r h
    obtain ⟨a0, rfl, h⟩ := h
    exact sM_thrown (n := n) hC a0 h
  · cases h
def gM_write : Dx := fun n d C as M => match as with
  | [v0, v1] => aR v0 fun a0 => aJ v1 fun l1 => fM_write_0 n d C a0 l1 M
  | _ => none
theorem ggM_write : GoodD yM_write gM_write := by
  intro l G n d C as M M' r hl9 hC h
  unfold gM_write at h
  split at h
  · replace h := a_r h
    obtain ⟨a0, rfl, h⟩ := h
    replace h := a_j h
    obtain ⟨l1, rfl, h⟩ := h
    exact sM_write (n := n) hC a0 l1 h
  · cases h
def gM_wipe : Dx := fun n d C as M => match as with
  | [v0] => aR v0 fun a0 => fM_wipe_0 n d C a0 M
  | _ => none
theorem ggM_wipe : GoodD yM_wipe gM_wipe := by
  intro l G n d C as M M' r hl9 hC h
  unfold gM_wipe at h
  split at h
  · replace h := a_r h
    obtain ⟨a0, rfl, h⟩ := h
    exact sM_wipe (n := n) hC a0 h
  · cases h
def gM_length : Dx := fun n d C as M => match as with
  | [v0] => aR v0 fun a0 => fM_length_0 n d C a0 M
  | _ => none
theorem ggM_length : GoodD yM_length gM_length := by
  intro l G n d C as M M' r hl9 hC h
  unfold gM_length at h
  split at h
  · replace h := a_r h
    obtain ⟨a0, rfl, h⟩ := h
    exact sM_length (n := n) hC a0 h
  · cases h
def gM_read : Dx := fun n d C as M => match as with
  | [v0] => aR v0 fun a0 => fM_read_0 n d C a0 M
  | _ => none
theorem ggM_read : GoodD yM_read gM_read := by
  intro l G n d C as M M' r hl9 hC h
  unfold gM_read at h
  split at h
  · replace h := a_r h
    obtain ⟨a0, rfl, h⟩ := h
    exact sM_read (n := n) hC a0 h
  · cases h
def gM_isSentence : Dx := fun n d C as M => match as with
  | [v0] => aR v0 fun a0 => fM_isSentence_0 n d C a0 M
  | _ => none
theorem ggM_isSentence : GoodD yM_isSentence gM_isSentence := by
  intro l G n d C as M M' r hl9 hC h
  unfold gM_isSentence at h
  split at h
  · replace h := a_r h
    obtain ⟨a0, rfl, h⟩ := h
    exact sM_isSentence (n := n) hC a0 h
  · cases h
def gM_next : Dx := fun n d C as M => match as with
  | [v0, v1] => aR v0 fun a0 => aI v1 fun x1 => fM_next_0 n d C a0 x1 M
  | _ => none
theorem ggM_next : GoodD yM_next gM_next := by
  intro l G n d C as M M' r hl9 hC h
  unfold gM_next at h
  split at h
  · replace h := a_r h
    obtain ⟨a0, rfl, h⟩ := h
    replace h := a_i h
    obtain ⟨x1, rfl, h⟩ := h
    exact sM_next (n := n) hC a0 x1 h
  · cases h
def gM_one : Dx := fun n d C as M => match as with
  | [v0, v1] => aR v0 fun a0 => aI v1 fun x1 => fM_one_0 n d C a0 x1 M
  | _ => none
theorem ggM_one : GoodD yM_one gM_one := by
  intro l G n d C as M M' r hl9 hC h
  unfold gM_one at h
  split at h
  · replace h := a_r h
    obtain ⟨a0, rfl, h⟩ := h
    replace h := a_i h
    obtain ⟨x1, rfl, h⟩ := h
    exact sM_one (n := n) hC a0 x1 h
  · cases h
def gM_deeper : Dx := fun n d C as M => match as with
  | [v0, v1] => aR v0 fun a0 => aI v1 fun x1 => fM_deeper_0 n d C a0 x1 M
  | _ => none
theorem ggM_deeper : GoodD yM_deeper gM_deeper := by
  intro l G n d C as M M' r hl9 hC h
  unfold gM_deeper at h
  split at h
  · replace h := a_r h
    obtain ⟨a0, rfl, h⟩ := h
    replace h := a_i h
    obtain ⟨x1, rfl, h⟩ := h
    exact sM_deeper (n := n) hC a0 x1 h
  · cases h
def gM_push : Dx := fun n d C as M => match as with
  | [v0, v1] => aR v0 fun a0 => aI v1 fun x1 => fM_push_0 n d C a0 x1 M
  | _ => none
theorem ggM_push : GoodD yM_push gM_push := by
  intro l G n d C as M M' r hl9 hC h
  unfold gM_push at h
  split at h
  · replace h := a_r h
    obtain ⟨a0, rfl, h⟩ := h
    replace h := a_i h
    obtain ⟨x1, rfl, h⟩ := h
    exact sM_push (n := n) hC a0 x1 h
  · cases h
def gM_sum : Dx := fun n d C as M => match as with
  | [v0, v1] => aR v0 fun a0 => aI v1 fun x1 => fM_sum_0 n d C a0 x1 M
  | _ => none
theorem ggM_sum : GoodD yM_sum gM_sum := by
  intro l G n d C as M M' r hl9 hC h
  unfold gM_sum at h
  split at h
  · replace h := a_r h
    obtain ⟨a0, rfl, h⟩ := h
    replace h := a_i h
    obtain ⟨x1, rfl, h⟩ := h
    exact sM_sum (n := n) hC a0 x1 h
  · cases h
def gM_part : Dx := fun n d C as M => match as with
  | [v0, v1] => aR v0 fun a0 => aI v1 fun x1 => fM_part_0 n d C a0 x1 M
  | _ => none
theorem ggM_part : GoodD yM_part gM_part := by
  intro l G n d C as M M' r hl9 hC h
  unfold gM_part at h
  split at h
  · replace h := a_r h
    obtain ⟨a0, rfl, h⟩ := h
    replace h := a_i h
    obtain ⟨x1, rfl, h⟩ := h
    exact sM_part (n := n) hC a0 x1 h
  · cases h
def gM_isDigit : Dx := fun n d C as M => match as with
  | [v0] => aI v0 fun x0 => fM_isDigit_0 n d C x0 M
  | _ => none
theorem ggM_isDigit : GoodD yM_isDigit gM_isDigit := by
  intro l G n d C as M M' r hl9 hC h
  unfold gM_isDigit at h
  split at h
  · replace h := a_i h
    obtain ⟨x0, rfl, h⟩ := h
    exact sM_isDigit (n := n) hC x0 h
  · cases h
def gM_thing : Dx := fun n d C as M => match as with
  | [v0, v1] => aR v0 fun a0 => aI v1 fun x1 => fM_thing_0 n d C a0 x1 M
  | _ => none
theorem ggM_thing : GoodD yM_thing gM_thing := by
  intro l G n d C as M M' r hl9 hC h
  unfold gM_thing at h
  split at h
  · replace h := a_r h
    obtain ⟨a0, rfl, h⟩ := h
    replace h := a_i h
    obtain ⟨x1, rfl, h⟩ := h
    exact sM_thing (n := n) hC a0 x1 h
  · cases h
def gM_variableOf : Dx := fun n d C as M => match as with
  | [v0] => aI v0 fun x0 => fM_variableOf_0 n d C x0 M
  | _ => none
theorem ggM_variableOf : GoodD yM_variableOf gM_variableOf := by
  intro l G n d C as M M' r hl9 hC h
  unfold gM_variableOf at h
  split at h
  · replace h := a_i h
    obtain ⟨x0, rfl, h⟩ := h
    exact sM_variableOf (n := n) hC x0 h
  · cases h
def gM_emit : Dx := fun n d C as M => match as with
  | [v0, v1, v2] => aR v0 fun a0 => aI v1 fun x1 => aI v2 fun x2 => fM_emit_0 n d C a0 x1 x2 M
  | _ => none
theorem ggM_emit : GoodD yM_emit gM_emit := by
  intro l G n d C as M M' r hl9 hC h
  unfold gM_emit at h
  split at h
  · replace h := a_r h
    obtain ⟨a0, rfl, h⟩ := h
    replace h := a_i h
    obtain ⟨x1, rfl, h⟩ := h
    replace h := a_i h
    obtain ⟨x2, rfl, h⟩ := h
    exact sM_emit (n := n) hC a0 x1 x2 h
  · cases h
def gM_wholePart : Dx := fun n d C as M => match as with
  | [v0] => aR v0 fun a0 => fM_wholePart_0 n d C a0 M
  | _ => none
theorem ggM_wholePart : GoodD yM_wholePart gM_wholePart := by
  intro l G n d C as M M' r hl9 hC h
  unfold gM_wholePart at h
  split at h
  · replace h := a_r h
    obtain ⟨a0, rfl, h⟩ := h
    exact sM_wholePart (n := n) hC a0 h
  · cases h
def gM_afterOne : Dx := fun n d C as M => match as with
  | [v0, v1] => aR v0 fun a0 => aI v1 fun x1 => fM_afterOne_0 n d C a0 x1 M
  | _ => none
theorem ggM_afterOne : GoodD yM_afterOne gM_afterOne := by
  intro l G n d C as M M' r hl9 hC h
  unfold gM_afterOne at h
  split at h
  · replace h := a_r h
    obtain ⟨a0, rfl, h⟩ := h
    replace h := a_i h
    obtain ⟨x1, rfl, h⟩ := h
    exact sM_afterOne (n := n) hC a0 x1 h
  · cases h
def gM_settle : Dx := fun n d C as M => match as with
  | [v0, v1, v2] => aR v0 fun a0 => aI v1 fun x1 => aI v2 fun x2 => fM_settle_0 n d C n a0 x1 x2 M
  | _ => none
theorem ggM_settle : GoodD yM_settle gM_settle := by
  intro l G n d C as M M' r hl9 hC h
  unfold gM_settle at h
  split at h
  · replace h := a_r h
    obtain ⟨a0, rfl, h⟩ := h
    replace h := a_i h
    obtain ⟨x1, rfl, h⟩ := h
    replace h := a_i h
    obtain ⟨x2, rfl, h⟩ := h
    exact sM_settle (n := n) hC a0 x1 x2 h
  · cases h
def gM_upper : Dx := fun n d C as M => match as with
  | [v0] => aR v0 fun a0 => fM_upper_0 n d C a0 M
  | _ => none
theorem ggM_upper : GoodD yM_upper gM_upper := by
  intro l G n d C as M M' r hl9 hC h
  unfold gM_upper at h
  split at h
  · replace h := a_r h
    obtain ⟨a0, rfl, h⟩ := h
    exact sM_upper (n := n) hC a0 h
  · cases h
def gM_close : Dx := fun n d C as M => match as with
  | [v0] => aR v0 fun a0 => fM_close_0 n d C a0 M
  | _ => none
theorem ggM_close : GoodD yM_close gM_close := by
  intro l G n d C as M M' r hl9 hC h
  unfold gM_close at h
  split at h
  · replace h := a_r h
    obtain ⟨a0, rfl, h⟩ := h
    exact sM_close (n := n) hC a0 h
  · cases h
def gM_wholeOne : Dx := fun n d C as M => match as with
  | [v0] => aR v0 fun a0 => fM_wholeOne_0 n d C n a0 M
  | _ => none
theorem ggM_wholeOne : GoodD yM_wholeOne gM_wholeOne := by
  intro l G n d C as M M' r hl9 hC h
  unfold gM_wholeOne at h
  split at h
  · replace h := a_r h
    obtain ⟨a0, rfl, h⟩ := h
    exact sM_wholeOne (n := n) hC a0 h
  · cases h
def gM_bound : Dx := fun n d C as M => match as with
  | [v0, v1] => aR v0 fun a0 => aI v1 fun x1 => fM_bound_0 n d C a0 x1 M
  | _ => none
theorem ggM_bound : GoodD yM_bound gM_bound := by
  intro l G n d C as M M' r hl9 hC h
  unfold gM_bound at h
  split at h
  · replace h := a_r h
    obtain ⟨a0, rfl, h⟩ := h
    replace h := a_i h
    obtain ⟨x1, rfl, h⟩ := h
    exact sM_bound (n := n) hC a0 x1 h
  · cases h
def gM_afterNumber : Dx := fun n d C as M => match as with
  | [v0, v1] => aR v0 fun a0 => aI v1 fun x1 => fM_afterNumber_0 n d C a0 x1 M
  | _ => none
theorem ggM_afterNumber : GoodD yM_afterNumber gM_afterNumber := by
  intro l G n d C as M M' r hl9 hC h
  unfold gM_afterNumber at h
  split at h
  · replace h := a_r h
    obtain ⟨a0, rfl, h⟩ := h
    replace h := a_i h
    obtain ⟨x1, rfl, h⟩ := h
    exact sM_afterNumber (n := n) hC a0 x1 h
  · cases h
def gM_afterPart : Dx := fun n d C as M => match as with
  | [v0, v1] => aR v0 fun a0 => aI v1 fun x1 => fM_afterPart_0 n d C a0 x1 M
  | _ => none
theorem ggM_afterPart : GoodD yM_afterPart gM_afterPart := by
  intro l G n d C as M M' r hl9 hC h
  unfold gM_afterPart at h
  split at h
  · replace h := a_r h
    obtain ⟨a0, rfl, h⟩ := h
    replace h := a_i h
    obtain ⟨x1, rfl, h⟩ := h
    exact sM_afterPart (n := n) hC a0 x1 h
  · cases h
def gM_single : Dx := fun n d C as M => match as with
  | [v0, v1] => aR v0 fun a0 => aI v1 fun x1 => fM_single_0 n d C a0 x1 M
  | _ => none
theorem ggM_single : GoodD yM_single gM_single := by
  intro l G n d C as M M' r hl9 hC h
  unfold gM_single at h
  split at h
  · replace h := a_r h
    obtain ⟨a0, rfl, h⟩ := h
    replace h := a_i h
    obtain ⟨x1, rfl, h⟩ := h
    exact sM_single (n := n) hC a0 x1 h
  · cases h
def gM_wholeSingle : Dx := fun n d C as M => match as with
  | [v0] => aR v0 fun a0 => fM_wholeSingle_0 n d C n a0 M
  | _ => none
theorem ggM_wholeSingle : GoodD yM_wholeSingle gM_wholeSingle := by
  intro l G n d C as M M' r hl9 hC h
  unfold gM_wholeSingle at h
  split at h
  · replace h := a_r h
    obtain ⟨a0, rfl, h⟩ := h
    exact sM_wholeSingle (n := n) hC a0 h
  · cases h
def gM_afterSingle : Dx := fun n d C as M => match as with
  | [v0, v1] => aR v0 fun a0 => aI v1 fun x1 => fM_afterSingle_0 n d C a0 x1 M
  | _ => none
theorem ggM_afterSingle : GoodD yM_afterSingle gM_afterSingle := by
  intro l G n d C as M M' r hl9 hC h
  unfold gM_afterSingle at h
  split at h
  · replace h := a_r h
    obtain ⟨a0, rfl, h⟩ := h
    replace h := a_i h
    obtain ⟨x1, rfl, h⟩ := h
    exact sM_afterSingle (n := n) hC a0 x1 h
  · cases h
def gM_holds : Dx := fun n d C as M => match as with
  | [v0, v1] => aR v0 fun a0 => aI v1 fun x1 => fM_holds_0 n d C a0 x1 M
  | _ => none
theorem ggM_holds : GoodD yM_holds gM_holds := by
  intro l G n d C as M M' r hl9 hC h
  unfold gM_holds at h
  split at h
  · replace h := a_r h
    obtain ⟨a0, rfl, h⟩ := h
    replace h := a_i h
    obtain ⟨x1, rfl, h⟩ := h
    exact sM_holds (n := n) hC a0 x1 h
  · cases h
def gM_isSize : Dx := fun n d C as M => match as with
  | [v0] => aI v0 fun x0 => fM_isSize_0 n d C x0 M
  | _ => none
theorem ggM_isSize : GoodD yM_isSize gM_isSize := by
  intro l G n d C as M M' r hl9 hC h
  unfold gM_isSize at h
  split at h
  · replace h := a_i h
    obtain ⟨x0, rfl, h⟩ := h
    exact sM_isSize (n := n) hC x0 h
  · cases h
def gM_run : Dx := fun n d C as M => match as with
  | [v0, v1, v2] => aR v0 fun a0 => aI v1 fun x1 => aI v2 fun x2 => fM_run_0 n d C a0 x1 x2 M
  | _ => none
theorem ggM_run : GoodD yM_run gM_run := by
  intro l G n d C as M M' r hl9 hC h
  unfold gM_run at h
  split at h
  · replace h := a_r h
    obtain ⟨a0, rfl, h⟩ := h
    replace h := a_i h
    obtain ⟨x1, rfl, h⟩ := h
    replace h := a_i h
    obtain ⟨x2, rfl, h⟩ := h
    exact sM_run (n := n) hC a0 x1 x2 h
  · cases h
def gM_pop : Dx := fun n d C as M => match as with
  | [v0] => aR v0 fun a0 => fM_pop_0 n d C a0 M
  | _ => none
theorem ggM_pop : GoodD yM_pop gM_pop := by
  intro l G n d C as M M' r hl9 hC h
  unfold gM_pop at h
  split at h
  · replace h := a_r h
    obtain ⟨a0, rfl, h⟩ := h
    exact sM_pop (n := n) hC a0 h
  · cases h
def gM_ends : Dx := fun n d C as M => match as with
  | [v0, v1, v2, v3] => aR v0 fun a0 => aI v1 fun x1 => aI v2 fun x2 => aI v3 fun x3 => fM_ends_0 n d C a0 x1 x2 x3 M
  | _ => none
theorem ggM_ends : GoodD yM_ends gM_ends := by
  intro l G n d C as M M' r hl9 hC h
  unfold gM_ends at h
  split at h
  · replace h := a_r h
    obtain ⟨a0, rfl, h⟩ := h
    replace h := a_i h
    obtain ⟨x1, rfl, h⟩ := h
    replace h := a_i h
    obtain ⟨x2, rfl, h⟩ := h
    replace h := a_i h
    obtain ⟨x3, rfl, h⟩ := h
    exact sM_ends (n := n) hC a0 x1 x2 x3 h
  · cases h
def gM_lastOf : Dx := fun n d C as M => match as with
  | [v0, v1] => aR v0 fun a0 => aI v1 fun x1 => fM_lastOf_0 n d C a0 x1 M
  | _ => none
theorem ggM_lastOf : GoodD yM_lastOf gM_lastOf := by
  intro l G n d C as M M' r hl9 hC h
  unfold gM_lastOf at h
  split at h
  · replace h := a_r h
    obtain ⟨a0, rfl, h⟩ := h
    replace h := a_i h
    obtain ⟨x1, rfl, h⟩ := h
    exact sM_lastOf (n := n) hC a0 x1 h
  · cases h
def gM_put : Dx := fun n d C as M => match as with
  | [v0, v1] => aR v0 fun a0 => aI v1 fun x1 => fM_put_0 n d C a0 x1 M
  | _ => none
theorem ggM_put : GoodD yM_put gM_put := by
  intro l G n d C as M M' r hl9 hC h
  unfold gM_put at h
  split at h
  · replace h := a_r h
    obtain ⟨a0, rfl, h⟩ := h
    replace h := a_i h
    obtain ⟨x1, rfl, h⟩ := h
    exact sM_put (n := n) hC a0 x1 h
  · cases h
def gM_doSum : Dx := fun n d C as M => match as with
  | [v0, v1, v2] => aR v0 fun a0 => aI v1 fun x1 => aI v2 fun x2 => fM_doSum_0 n d C a0 x1 x2 M
  | _ => none
theorem ggM_doSum : GoodD yM_doSum gM_doSum := by
  intro l G n d C as M M' r hl9 hC h
  unfold gM_doSum at h
  split at h
  · replace h := a_r h
    obtain ⟨a0, rfl, h⟩ := h
    replace h := a_i h
    obtain ⟨x1, rfl, h⟩ := h
    replace h := a_i h
    obtain ⟨x2, rfl, h⟩ := h
    exact sM_doSum (n := n) hC a0 x1 x2 h
  · cases h
def gM_count : Dx := fun n d C as M => match as with
  | [v0] => aI v0 fun x0 => fM_count_0 n d C x0 M
  | _ => none
theorem ggM_count : GoodD yM_count gM_count := by
  intro l G n d C as M M' r hl9 hC h
  unfold gM_count at h
  split at h
  · replace h := a_i h
    obtain ⟨x0, rfl, h⟩ := h
    exact sM_count (n := n) hC x0 h
  · cases h
def gM_doOther : Dx := fun n d C as M => match as with
  | [v0, v1] => aR v0 fun a0 => aI v1 fun x1 => fM_doOther_0 n d C a0 x1 M
  | _ => none
theorem ggM_doOther : GoodD yM_doOther gM_doOther := by
  intro l G n d C as M M' r hl9 hC h
  unfold gM_doOther at h
  split at h
  · replace h := a_r h
    obtain ⟨a0, rfl, h⟩ := h
    replace h := a_i h
    obtain ⟨x1, rfl, h⟩ := h
    exact sM_doOther (n := n) hC a0 x1 h
  · cases h
def gM_fails : Dx := fun n d C as M => match as with
  | [v0] => aR v0 fun a0 => fM_fails_0 n d C a0 M
  | _ => none
theorem ggM_fails : GoodD yM_fails gM_fails := by
  intro l G n d C as M M' r hl9 hC h
  unfold gM_fails at h
  split at h
  · replace h := a_r h
    obtain ⟨a0, rfl, h⟩ := h
    exact sM_fails (n := n) hC a0 h
  · cases h
def gM_ways : Dx := fun n d C as M => match as with
  | [v0, v1] => aR v0 fun a0 => aI v1 fun x1 => fM_ways_0 n d C a0 x1 M
  | _ => none
theorem ggM_ways : GoodD yM_ways gM_ways := by
  intro l G n d C as M M' r hl9 hC h
  unfold gM_ways at h
  split at h
  · replace h := a_r h
    obtain ⟨a0, rfl, h⟩ := h
    replace h := a_i h
    obtain ⟨x1, rfl, h⟩ := h
    exact sM_ways (n := n) hC a0 x1 h
  · cases h
def gM_isLoop : Dx := fun n d C as M => match as with
  | [v0] => aR v0 fun a0 => fM_isLoop_0 n d C a0 M
  | _ => none
theorem ggM_isLoop : GoodD yM_isLoop gM_isLoop := by
  intro l G n d C as M M' r hl9 hC h
  unfold gM_isLoop at h
  split at h
  · replace h := a_r h
    obtain ⟨a0, rfl, h⟩ := h
    exact sM_isLoop (n := n) hC a0 h
  · cases h
def dL : List Dx := [gH_init, gP_init, gS_length, gS_coder, gO_init, gH_write, gH_byteAt, gH_append, gH_wipe, gH_length, gH_read, gP_parse, gP_start, gP_row, gP_item, gP_one, gP_insist, gP_peek, gP_not, gP_next, gP_make, gN_init, gN_reset, gP_quantified, gS_indexOf, gS_indexOf2, gS_isLatin1, gT_indexOf, gT_canEncode, gT_indexOfChar, gP_bracketed, gP_take, gP_comparisonOfSets, gP_startsWithDivisor, gP_isDecimal, gP_number, gP_divided, gP_addSum, gP_addPart, gP_thing, gP_single, gP_boundVariable, gP_comparisonOfSums, gH_holds, gH_needSentence, gH_needWorld, gH_isTrueIn, gH_waysIn, gO_count, gO_isTrue, gO_anyIs, gO_anyChoiceMakes, gO_value, gO_firstChoice, gO_choices, gO_bind, gO_isTrueOfSets, gO_elements, gO_union, gO_meet, gO_isTrueOfSum, gO_amount, gI_bitCount, gH_fails, gH_ways, gM_init, gM_thrown, gM_write, gM_wipe, gM_length, gM_read, gM_isSentence, gM_next, gM_one, gM_deeper, gM_push, gM_sum, gM_part, gM_isDigit, gM_thing, gM_variableOf, gM_emit, gM_wholePart, gM_afterOne, gM_settle, gM_upper, gM_close, gM_wholeOne, gM_bound, gM_afterNumber, gM_afterPart, gM_single, gM_wholeSingle, gM_afterSingle, gM_holds, gM_isSize, gM_run, gM_pop, gM_ends, gM_lastOf, gM_put, gM_doSum, gM_count, gM_doOther, gM_fails, gM_ways, gM_isLoop]
theorem dL_good : AllG yL dL := ⟨ggH_init, ggP_init, ggS_length, ggS_coder, ggO_init, ggH_write, ggH_byteAt, ggH_append, ggH_wipe, ggH_length, ggH_read, ggP_parse, ggP_start, ggP_row, ggP_item, ggP_one, ggP_insist, ggP_peek, ggP_not, ggP_next, ggP_make, ggN_init, ggN_reset, ggP_quantified, ggS_indexOf, ggS_indexOf2, ggS_isLatin1, ggT_indexOf, ggT_canEncode, ggT_indexOfChar, ggP_bracketed, ggP_take, ggP_comparisonOfSets, ggP_startsWithDivisor, ggP_isDecimal, ggP_number, ggP_divided, ggP_addSum, ggP_addPart, ggP_thing, ggP_single, ggP_boundVariable, ggP_comparisonOfSums, ggH_holds, ggH_needSentence, ggH_needWorld, ggH_isTrueIn, ggH_waysIn, ggO_count, ggO_isTrue, ggO_anyIs, ggO_anyChoiceMakes, ggO_value, ggO_firstChoice, ggO_choices, ggO_bind, ggO_isTrueOfSets, ggO_elements, ggO_union, ggO_meet, ggO_isTrueOfSum, ggO_amount, ggI_bitCount, ggH_fails, ggH_ways, ggM_init, ggM_thrown, ggM_write, ggM_wipe, ggM_length, ggM_read, ggM_isSentence, ggM_next, ggM_one, ggM_deeper, ggM_push, ggM_sum, ggM_part, ggM_isDigit, ggM_thing, ggM_variableOf, ggM_emit, ggM_wholePart, ggM_afterOne, ggM_settle, ggM_upper, ggM_close, ggM_wholeOne, ggM_bound, ggM_afterNumber, ggM_afterPart, ggM_single, ggM_wholeSingle, ggM_afterSingle, ggM_holds, ggM_isSize, ggM_run, ggM_pop, ggM_ends, ggM_lastOf, ggM_put, ggM_doSum, ggM_count, ggM_doOther, ggM_fails, ggM_ways, ggM_isLoop, trivial⟩
/-- all methods, with d frames left; n: how long a loop may run -/
def mR (n : Nat) : Nat → Cx
  | 0 => fun _ _ _ => none
  | d + 1 => fun j as M => dL.getD j noD n d (mR n d) as M
theorem mR_good (l : Launch) (hl9 : l.stackTraces = false) (G : Gx) (n : Nat) : ∀ d, CBs l G d (mR n d)
  | 0 => fun _ _ _ _ _ h => by cases h
  | d + 1 => fun j as M r M' h => allG_at yL dL yH_init dL_good j l G n d (mR n d) as M M' r hl9 (mR_good l hl9 G n d) h
theorem eH_init (n d : Nat) (a0 : Nat) (M : Mem) : mR n (d + 1) 0 [.ref a0] M = fH_init_0 n d (mR n d) a0 M := rfl
theorem eP_init (n d : Nat) (a0 : Nat) (M : Mem) : mR n (d + 1) 1 [.ref a0] M = fP_init_0 n d (mR n d) a0 M := rfl
theorem eS_length (n d : Nat) (a0 : Nat) (M : Mem) : mR n (d + 1) 2 [.ref a0] M = fS_length_0 n d (mR n d) a0 M := rfl
theorem eS_coder (n d : Nat) (a0 : Nat) (M : Mem) : mR n (d + 1) 3 [.ref a0] M = fS_coder_0 n d (mR n d) a0 M := rfl
theorem eO_init (n d : Nat) (a0 : Nat) (M : Mem) : mR n (d + 1) 4 [.ref a0] M = fO_init_0 n d (mR n d) a0 M := rfl
theorem eH_write (n d : Nat) (a0 : Nat) (l1 : Int64) (M : Mem) : mR n (d + 1) 5 [.ref a0, .long l1] M = fH_write_0 n d (mR n d) a0 l1 M := rfl
theorem eH_byteAt (n d : Nat) (l0 : Int64) (x2 : Int32) (M : Mem) : mR n (d + 1) 6 [.long l0, .int x2] M = fH_byteAt_0 n d (mR n d) l0 x2 M := rfl
theorem eH_append (n d : Nat) (a0 : Nat) (x1 : Int32) (M : Mem) : mR n (d + 1) 7 [.ref a0, .int x1] M = fH_append_0 n d (mR n d) a0 x1 M := rfl
theorem eH_wipe (n d : Nat) (a0 : Nat) (M : Mem) : mR n (d + 1) 8 [.ref a0] M = fH_wipe_0 n d (mR n d) a0 M := rfl
theorem eH_length (n d : Nat) (a0 : Nat) (M : Mem) : mR n (d + 1) 9 [.ref a0] M = fH_length_0 n d (mR n d) a0 M := rfl
theorem eH_read (n d : Nat) (a0 : Nat) (M : Mem) : mR n (d + 1) 10 [.ref a0] M = fH_read_0 n d (mR n d) a0 M := rfl
theorem eP_parse (n d : Nat) (a0 : Nat) (r1 : Option Nat) (x2 : Int32) (M : Mem) : mR n (d + 1) 11 [.ref a0, va_rf r1, .int x2] M = fP_parse_0 n d (mR n d) a0 r1 x2 M := by
  cases r1 <;> rfl
theorem eP_start (n d : Nat) (a0 : Nat) (r1 : Option Nat) (x2 : Int32) (M : Mem) : mR n (d + 1) 12 [.ref a0, va_rf r1, .int x2] M = fP_start_0 n d (mR n d) a0 r1 x2 M := by
  cases r1 <;> rfl
theorem eP_row (n d : Nat) (a0 : Nat) (x1 : Int32) (x2 : Int32) (M : Mem) : mR n (d + 1) 13 [.ref a0, .int x1, .int x2] M = fP_row_0 n d (mR n d) a0 x1 x2 M := rfl
theorem eP_item (n d : Nat) (a0 : Nat) (x1 : Int32) (x2 : Int32) (M : Mem) : mR n (d + 1) 14 [.ref a0, .int x1, .int x2] M = fP_item_0 n d (mR n d) a0 x1 x2 M := rfl
theorem eP_one (n d : Nat) (a0 : Nat) (x1 : Int32) (M : Mem) : mR n (d + 1) 15 [.ref a0, .int x1] M = fP_one_0 n d (mR n d) a0 x1 M := rfl
theorem eP_insist (n d : Nat) (x0 : Int32) (M : Mem) : mR n (d + 1) 16 [.int x0] M = fP_insist_0 n d (mR n d) x0 M := rfl
theorem eP_peek (n d : Nat) (a0 : Nat) (M : Mem) : mR n (d + 1) 17 [.ref a0] M = fP_peek_0 n d (mR n d) a0 M := rfl
theorem eP_not (n d : Nat) (a0 : Nat) (x1 : Int32) (M : Mem) : mR n (d + 1) 18 [.ref a0, .int x1] M = fP_not_0 n d (mR n d) a0 x1 M := rfl
theorem eP_next (n d : Nat) (a0 : Nat) (M : Mem) : mR n (d + 1) 19 [.ref a0] M = fP_next_0 n d (mR n d) a0 M := rfl
theorem eP_make (n d : Nat) (a0 : Nat) (x1 : Int32) (M : Mem) : mR n (d + 1) 20 [.ref a0, .int x1] M = fP_make_0 n d (mR n d) a0 x1 M := rfl
theorem eN_init (n d : Nat) (a0 : Nat) (M : Mem) : mR n (d + 1) 21 [.ref a0] M = fN_init_0 n d (mR n d) a0 M := rfl
theorem eN_reset (n d : Nat) (a0 : Nat) (x1 : Int32) (M : Mem) : mR n (d + 1) 22 [.ref a0, .int x1] M = fN_reset_0 n d (mR n d) a0 x1 M := rfl
theorem eP_quantified (n d : Nat) (a0 : Nat) (x1 : Int32) (M : Mem) : mR n (d + 1) 23 [.ref a0, .int x1] M = fP_quantified_0 n d (mR n d) a0 x1 M := rfl
theorem eS_indexOf (n d : Nat) (a0 : Nat) (x1 : Int32) (M : Mem) : mR n (d + 1) 24 [.ref a0, .int x1] M = fS_indexOf_0 n d (mR n d) a0 x1 M := rfl
theorem eS_indexOf2 (n d : Nat) (a0 : Nat) (x1 : Int32) (x2 : Int32) (M : Mem) : mR n (d + 1) 25 [.ref a0, .int x1, .int x2] M = fS_indexOf2_0 n d (mR n d) a0 x1 x2 M := rfl
theorem eS_isLatin1 (n d : Nat) (a0 : Nat) (M : Mem) : mR n (d + 1) 26 [.ref a0] M = fS_isLatin1_0 n d (mR n d) a0 M := rfl
theorem eT_indexOf (n d : Nat) (r0 : Option Nat) (x1 : Int32) (x2 : Int32) (x3 : Int32) (M : Mem) : mR n (d + 1) 27 [va_rf r0, .int x1, .int x2, .int x3] M = fT_indexOf_0 n d (mR n d) r0 x1 x2 x3 M := by
  cases r0 <;> rfl
theorem eT_canEncode (n d : Nat) (x0 : Int32) (M : Mem) : mR n (d + 1) 28 [.int x0] M = fT_canEncode_0 n d (mR n d) x0 M := rfl
theorem eT_indexOfChar (n d : Nat) (r0 : Option Nat) (x1 : Int32) (x2 : Int32) (x3 : Int32) (M : Mem) : mR n (d + 1) 29 [va_rf r0, .int x1, .int x2, .int x3] M = fT_indexOfChar_0 n d (mR n d) r0 x1 x2 x3 M := by
  cases r0 <;> rfl
theorem eP_bracketed (n d : Nat) (a0 : Nat) (x1 : Int32) (M : Mem) : mR n (d + 1) 30 [.ref a0, .int x1] M = fP_bracketed_0 n d (mR n d) a0 x1 M := rfl
theorem eP_take (n d : Nat) (a0 : Nat) (x1 : Int32) (M : Mem) : mR n (d + 1) 31 [.ref a0, .int x1] M = fP_take_0 n d (mR n d) a0 x1 M := rfl
theorem eP_comparisonOfSets (n d : Nat) (a0 : Nat) (x1 : Int32) (M : Mem) : mR n (d + 1) 32 [.ref a0, .int x1] M = fP_comparisonOfSets_0 n d (mR n d) a0 x1 M := rfl
theorem eP_startsWithDivisor (n d : Nat) (a0 : Nat) (M : Mem) : mR n (d + 1) 33 [.ref a0] M = fP_startsWithDivisor_0 n d (mR n d) a0 M := rfl
theorem eP_isDecimal (n d : Nat) (x0 : Int32) (M : Mem) : mR n (d + 1) 34 [.int x0] M = fP_isDecimal_0 n d (mR n d) x0 M := rfl
theorem eP_number (n d : Nat) (a0 : Nat) (M : Mem) : mR n (d + 1) 35 [.ref a0] M = fP_number_0 n d (mR n d) a0 M := rfl
theorem eP_divided (n d : Nat) (a0 : Nat) (x1 : Int32) (M : Mem) : mR n (d + 1) 36 [.ref a0, .int x1] M = fP_divided_0 n d (mR n d) a0 x1 M := rfl
theorem eP_addSum (n d : Nat) (a0 : Nat) (r1 : Option Nat) (x2 : Int32) (x3 : Int32) (M : Mem) : mR n (d + 1) 37 [.ref a0, va_rf r1, .int x2, .int x3] M = fP_addSum_0 n d (mR n d) a0 r1 x2 x3 M := by
  cases r1 <;> rfl
theorem eP_addPart (n d : Nat) (a0 : Nat) (r1 : Option Nat) (x2 : Int32) (x3 : Int32) (M : Mem) : mR n (d + 1) 38 [.ref a0, va_rf r1, .int x2, .int x3] M = fP_addPart_0 n d (mR n d) a0 r1 x2 x3 M := by
  cases r1 <;> rfl
theorem eP_thing (n d : Nat) (a0 : Nat) (x1 : Int32) (M : Mem) : mR n (d + 1) 39 [.ref a0, .int x1] M = fP_thing_0 n d (mR n d) a0 x1 M := rfl
theorem eP_single (n d : Nat) (a0 : Nat) (x1 : Int32) (M : Mem) : mR n (d + 1) 40 [.ref a0, .int x1] M = fP_single_0 n d (mR n d) a0 x1 M := rfl
theorem eP_boundVariable (n d : Nat) (a0 : Nat) (x1 : Int32) (M : Mem) : mR n (d + 1) 41 [.ref a0, .int x1] M = fP_boundVariable_0 n d (mR n d) a0 x1 M := rfl
theorem eP_comparisonOfSums (n d : Nat) (a0 : Nat) (x1 : Int32) (M : Mem) : mR n (d + 1) 42 [.ref a0, .int x1] M = fP_comparisonOfSums_0 n d (mR n d) a0 x1 M := rfl
theorem eH_holds (n d : Nat) (a0 : Nat) (x1 : Int32) (M : Mem) : mR n (d + 1) 43 [.ref a0, .int x1] M = fH_holds_0 n d (mR n d) a0 x1 M := rfl
theorem eH_needSentence (n d : Nat) (a0 : Nat) (M : Mem) : mR n (d + 1) 44 [.ref a0] M = fH_needSentence_0 n d (mR n d) a0 M := rfl
theorem eH_needWorld (n d : Nat) (x0 : Int32) (M : Mem) : mR n (d + 1) 45 [.int x0] M = fH_needWorld_0 n d (mR n d) x0 M := rfl
theorem eH_isTrueIn (n d : Nat) (a0 : Nat) (x1 : Int32) (M : Mem) : mR n (d + 1) 46 [.ref a0, .int x1] M = fH_isTrueIn_0 n d (mR n d) a0 x1 M := rfl
theorem eH_waysIn (n d : Nat) (a0 : Nat) (x1 : Int32) (M : Mem) : mR n (d + 1) 47 [.ref a0, .int x1] M = fH_waysIn_0 n d (mR n d) a0 x1 M := rfl
theorem eO_count (n d : Nat) (a0 : Nat) (r1 : Option Nat) (x2 : Int32) (M : Mem) : mR n (d + 1) 48 [.ref a0, va_rf r1, .int x2] M = fO_count_0 n d (mR n d) a0 r1 x2 M := by
  cases r1 <;> rfl
theorem eO_isTrue (n d : Nat) (a0 : Nat) (r1 : Option Nat) (M : Mem) : mR n (d + 1) 49 [.ref a0, va_rf r1] M = fO_isTrue_0 n d (mR n d) a0 r1 M := by
  cases r1 <;> rfl
theorem eO_anyIs (n d : Nat) (a0 : Nat) (x1 : Int32) (r2 : Option Nat) (M : Mem) : mR n (d + 1) 50 [.ref a0, .int x1, va_rf r2] M = fO_anyIs_0 n d (mR n d) a0 x1 r2 M := by
  cases r2 <;> rfl
theorem eO_anyChoiceMakes (n d : Nat) (a0 : Nat) (x1 : Int32) (r2 : Option Nat) (M : Mem) : mR n (d + 1) 51 [.ref a0, .int x1, va_rf r2] M = fO_anyChoiceMakes_0 n d (mR n d) a0 x1 r2 M := by
  cases r2 <;> rfl
theorem eO_value (n d : Nat) (a0 : Nat) (x1 : Int32) (M : Mem) : mR n (d + 1) 52 [.ref a0, .int x1] M = fO_value_0 n d (mR n d) a0 x1 M := rfl
theorem eO_firstChoice (n d : Nat) (x0 : Int32) (M : Mem) : mR n (d + 1) 53 [.int x0] M = fO_firstChoice_0 n d (mR n d) x0 M := rfl
theorem eO_choices (n d : Nat) (x0 : Int32) (x1 : Int32) (M : Mem) : mR n (d + 1) 54 [.int x0, .int x1] M = fO_choices_0 n d (mR n d) x0 x1 M := rfl
theorem eO_bind (n d : Nat) (a0 : Nat) (x1 : Int32) (x2 : Int32) (M : Mem) : mR n (d + 1) 55 [.ref a0, .int x1, .int x2] M = fO_bind_0 n d (mR n d) a0 x1 x2 M := rfl
theorem eO_isTrueOfSets (n d : Nat) (a0 : Nat) (r1 : Option Nat) (M : Mem) : mR n (d + 1) 56 [.ref a0, va_rf r1] M = fO_isTrueOfSets_0 n d (mR n d) a0 r1 M := by
  cases r1 <;> rfl
theorem eO_elements (n d : Nat) (a0 : Nat) (r1 : Option Nat) (M : Mem) : mR n (d + 1) 57 [.ref a0, va_rf r1] M = fO_elements_0 n d (mR n d) a0 r1 M := by
  cases r1 <;> rfl
theorem eO_union (n d : Nat) (a0 : Nat) (r1 : Option Nat) (M : Mem) : mR n (d + 1) 58 [.ref a0, va_rf r1] M = fO_union_0 n d (mR n d) a0 r1 M := by
  cases r1 <;> rfl
theorem eO_meet (n d : Nat) (a0 : Nat) (r1 : Option Nat) (M : Mem) : mR n (d + 1) 59 [.ref a0, va_rf r1] M = fO_meet_0 n d (mR n d) a0 r1 M := by
  cases r1 <;> rfl
theorem eO_isTrueOfSum (n d : Nat) (a0 : Nat) (r1 : Option Nat) (M : Mem) : mR n (d + 1) 60 [.ref a0, va_rf r1] M = fO_isTrueOfSum_0 n d (mR n d) a0 r1 M := by
  cases r1 <;> rfl
theorem eO_amount (n d : Nat) (a0 : Nat) (r1 : Option Nat) (M : Mem) : mR n (d + 1) 61 [.ref a0, va_rf r1] M = fO_amount_0 n d (mR n d) a0 r1 M := by
  cases r1 <;> rfl
theorem eI_bitCount (n d : Nat) (x0 : Int32) (M : Mem) : mR n (d + 1) 62 [.int x0] M = fI_bitCount_0 n d (mR n d) x0 M := rfl
theorem eH_fails (n d : Nat) (a0 : Nat) (M : Mem) : mR n (d + 1) 63 [.ref a0] M = fH_fails_0 n d (mR n d) a0 M := rfl
theorem eH_ways (n d : Nat) (a0 : Nat) (x1 : Int32) (M : Mem) : mR n (d + 1) 64 [.ref a0, .int x1] M = fH_ways_0 n d (mR n d) a0 x1 M := rfl
theorem eM_init (n d : Nat) (a0 : Nat) (M : Mem) : mR n (d + 1) 65 [.ref a0] M = fM_init_0 n d (mR n d) a0 M := rfl
theorem eM_thrown (n d : Nat) (a0 : Nat) (M : Mem) : mR n (d + 1) 66 [.ref a0] M = fM_thrown_0 n d (mR n d) a0 M := rfl
theorem eM_write (n d : Nat) (a0 : Nat) (l1 : Int64) (M : Mem) : mR n (d + 1) 67 [.ref a0, .long l1] M = fM_write_0 n d (mR n d) a0 l1 M := rfl
theorem eM_wipe (n d : Nat) (a0 : Nat) (M : Mem) : mR n (d + 1) 68 [.ref a0] M = fM_wipe_0 n d (mR n d) a0 M := rfl
theorem eM_length (n d : Nat) (a0 : Nat) (M : Mem) : mR n (d + 1) 69 [.ref a0] M = fM_length_0 n d (mR n d) a0 M := rfl
theorem eM_read (n d : Nat) (a0 : Nat) (M : Mem) : mR n (d + 1) 70 [.ref a0] M = fM_read_0 n d (mR n d) a0 M := rfl
theorem eM_isSentence (n d : Nat) (a0 : Nat) (M : Mem) : mR n (d + 1) 71 [.ref a0] M = fM_isSentence_0 n d (mR n d) a0 M := rfl
theorem eM_next (n d : Nat) (a0 : Nat) (x1 : Int32) (M : Mem) : mR n (d + 1) 72 [.ref a0, .int x1] M = fM_next_0 n d (mR n d) a0 x1 M := rfl
theorem eM_one (n d : Nat) (a0 : Nat) (x1 : Int32) (M : Mem) : mR n (d + 1) 73 [.ref a0, .int x1] M = fM_one_0 n d (mR n d) a0 x1 M := rfl
theorem eM_deeper (n d : Nat) (a0 : Nat) (x1 : Int32) (M : Mem) : mR n (d + 1) 74 [.ref a0, .int x1] M = fM_deeper_0 n d (mR n d) a0 x1 M := rfl
theorem eM_push (n d : Nat) (a0 : Nat) (x1 : Int32) (M : Mem) : mR n (d + 1) 75 [.ref a0, .int x1] M = fM_push_0 n d (mR n d) a0 x1 M := rfl
theorem eM_sum (n d : Nat) (a0 : Nat) (x1 : Int32) (M : Mem) : mR n (d + 1) 76 [.ref a0, .int x1] M = fM_sum_0 n d (mR n d) a0 x1 M := rfl
theorem eM_part (n d : Nat) (a0 : Nat) (x1 : Int32) (M : Mem) : mR n (d + 1) 77 [.ref a0, .int x1] M = fM_part_0 n d (mR n d) a0 x1 M := rfl
theorem eM_isDigit (n d : Nat) (x0 : Int32) (M : Mem) : mR n (d + 1) 78 [.int x0] M = fM_isDigit_0 n d (mR n d) x0 M := rfl
theorem eM_thing (n d : Nat) (a0 : Nat) (x1 : Int32) (M : Mem) : mR n (d + 1) 79 [.ref a0, .int x1] M = fM_thing_0 n d (mR n d) a0 x1 M := rfl
theorem eM_variableOf (n d : Nat) (x0 : Int32) (M : Mem) : mR n (d + 1) 80 [.int x0] M = fM_variableOf_0 n d (mR n d) x0 M := rfl
theorem eM_emit (n d : Nat) (a0 : Nat) (x1 : Int32) (x2 : Int32) (M : Mem) : mR n (d + 1) 81 [.ref a0, .int x1, .int x2] M = fM_emit_0 n d (mR n d) a0 x1 x2 M := rfl
theorem eM_wholePart (n d : Nat) (a0 : Nat) (M : Mem) : mR n (d + 1) 82 [.ref a0] M = fM_wholePart_0 n d (mR n d) a0 M := rfl
theorem eM_afterOne (n d : Nat) (a0 : Nat) (x1 : Int32) (M : Mem) : mR n (d + 1) 83 [.ref a0, .int x1] M = fM_afterOne_0 n d (mR n d) a0 x1 M := rfl
theorem eM_settle (n d : Nat) (a0 : Nat) (x1 : Int32) (x2 : Int32) (M : Mem) : mR n (d + 1) 84 [.ref a0, .int x1, .int x2] M = fM_settle_0 n d (mR n d) n a0 x1 x2 M := rfl
theorem eM_upper (n d : Nat) (a0 : Nat) (M : Mem) : mR n (d + 1) 85 [.ref a0] M = fM_upper_0 n d (mR n d) a0 M := rfl
theorem eM_close (n d : Nat) (a0 : Nat) (M : Mem) : mR n (d + 1) 86 [.ref a0] M = fM_close_0 n d (mR n d) a0 M := rfl
theorem eM_wholeOne (n d : Nat) (a0 : Nat) (M : Mem) : mR n (d + 1) 87 [.ref a0] M = fM_wholeOne_0 n d (mR n d) n a0 M := rfl
theorem eM_bound (n d : Nat) (a0 : Nat) (x1 : Int32) (M : Mem) : mR n (d + 1) 88 [.ref a0, .int x1] M = fM_bound_0 n d (mR n d) a0 x1 M := rfl
theorem eM_afterNumber (n d : Nat) (a0 : Nat) (x1 : Int32) (M : Mem) : mR n (d + 1) 89 [.ref a0, .int x1] M = fM_afterNumber_0 n d (mR n d) a0 x1 M := rfl
theorem eM_afterPart (n d : Nat) (a0 : Nat) (x1 : Int32) (M : Mem) : mR n (d + 1) 90 [.ref a0, .int x1] M = fM_afterPart_0 n d (mR n d) a0 x1 M := rfl
theorem eM_single (n d : Nat) (a0 : Nat) (x1 : Int32) (M : Mem) : mR n (d + 1) 91 [.ref a0, .int x1] M = fM_single_0 n d (mR n d) a0 x1 M := rfl
theorem eM_wholeSingle (n d : Nat) (a0 : Nat) (M : Mem) : mR n (d + 1) 92 [.ref a0] M = fM_wholeSingle_0 n d (mR n d) n a0 M := rfl
theorem eM_afterSingle (n d : Nat) (a0 : Nat) (x1 : Int32) (M : Mem) : mR n (d + 1) 93 [.ref a0, .int x1] M = fM_afterSingle_0 n d (mR n d) a0 x1 M := rfl
theorem eM_holds (n d : Nat) (a0 : Nat) (x1 : Int32) (M : Mem) : mR n (d + 1) 94 [.ref a0, .int x1] M = fM_holds_0 n d (mR n d) a0 x1 M := rfl
theorem eM_isSize (n d : Nat) (x0 : Int32) (M : Mem) : mR n (d + 1) 95 [.int x0] M = fM_isSize_0 n d (mR n d) x0 M := rfl
theorem eM_run (n d : Nat) (a0 : Nat) (x1 : Int32) (x2 : Int32) (M : Mem) : mR n (d + 1) 96 [.ref a0, .int x1, .int x2] M = fM_run_0 n d (mR n d) a0 x1 x2 M := rfl
theorem eM_pop (n d : Nat) (a0 : Nat) (M : Mem) : mR n (d + 1) 97 [.ref a0] M = fM_pop_0 n d (mR n d) a0 M := rfl
theorem eM_ends (n d : Nat) (a0 : Nat) (x1 : Int32) (x2 : Int32) (x3 : Int32) (M : Mem) : mR n (d + 1) 98 [.ref a0, .int x1, .int x2, .int x3] M = fM_ends_0 n d (mR n d) a0 x1 x2 x3 M := rfl
theorem eM_lastOf (n d : Nat) (a0 : Nat) (x1 : Int32) (M : Mem) : mR n (d + 1) 99 [.ref a0, .int x1] M = fM_lastOf_0 n d (mR n d) a0 x1 M := rfl
theorem eM_put (n d : Nat) (a0 : Nat) (x1 : Int32) (M : Mem) : mR n (d + 1) 100 [.ref a0, .int x1] M = fM_put_0 n d (mR n d) a0 x1 M := rfl
theorem eM_doSum (n d : Nat) (a0 : Nat) (x1 : Int32) (x2 : Int32) (M : Mem) : mR n (d + 1) 101 [.ref a0, .int x1, .int x2] M = fM_doSum_0 n d (mR n d) a0 x1 x2 M := rfl
theorem eM_count (n d : Nat) (x0 : Int32) (M : Mem) : mR n (d + 1) 102 [.int x0] M = fM_count_0 n d (mR n d) x0 M := rfl
theorem eM_doOther (n d : Nat) (a0 : Nat) (x1 : Int32) (M : Mem) : mR n (d + 1) 103 [.ref a0, .int x1] M = fM_doOther_0 n d (mR n d) a0 x1 M := rfl
theorem eM_fails (n d : Nat) (a0 : Nat) (M : Mem) : mR n (d + 1) 104 [.ref a0] M = fM_fails_0 n d (mR n d) a0 M := rfl
theorem eM_ways (n d : Nat) (a0 : Nat) (x1 : Int32) (M : Mem) : mR n (d + 1) 105 [.ref a0, .int x1] M = fM_ways_0 n d (mR n d) a0 x1 M := rfl
theorem eM_isLoop (n d : Nat) (a0 : Nat) (M : Mem) : mR n (d + 1) 106 [.ref a0] M = fM_isLoop_0 n d (mR n d) a0 M := rfl
