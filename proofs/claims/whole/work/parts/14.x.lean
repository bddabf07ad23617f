theorem dS_length_0 : decode bS_length 0 = .ok (.aload_n 0, 1) := by decide +kernel
theorem dS_length_1 : decode bS_length 1 = .ok (.getfield 9, 3) := by decide +kernel
theorem dS_length_4 : decode bS_length 4 = .ok (.arraylength, 1) := by decide +kernel
theorem dS_length_5 : decode bS_length 5 = .ok (.aload_n 0, 1) := by decide +kernel
theorem dS_length_6 : decode bS_length 6 = .ok (.invokevirtual 335, 3) := by decide +kernel
theorem dS_length_9 : decode bS_length 9 = .ok (.ishr, 1) := by decide +kernel
theorem dS_length_10 : decode bS_length 10 = .ok (.ireturn, 1) := by decide +kernel
theorem dS_coder_0 : decode bS_coder 0 = .ok (.getstatic 38, 3) := by decide +kernel
theorem dS_coder_3 : decode bS_coder 3 = .ok (.ifCond .eq 10, 3) := by decide +kernel
theorem dS_coder_6 : decode bS_coder 6 = .ok (.aload_n 0, 1) := by decide +kernel
theorem dS_coder_7 : decode bS_coder 7 = .ok (.getfield 15, 3) := by decide +kernel
theorem dS_coder_10 : decode bS_coder 10 = .ok (.goto 4, 3) := by decide +kernel
theorem dS_coder_13 : decode bS_coder 13 = .ok (.iconst 1, 1) := by decide +kernel
theorem dS_coder_14 : decode bS_coder 14 = .ok (.ireturn, 1) := by decide +kernel
theorem dP_insist_0 : decode bP_insist 0 = .ok (.iload_n 0, 1) := by decide +kernel
theorem dP_insist_1 : decode bP_insist 1 = .ok (.ifCond .ne 13, 3) := by decide +kernel
theorem dP_insist_4 : decode bP_insist 4 = .ok (.new 152, 3) := by decide +kernel
theorem dP_insist_7 : decode bP_insist 7 = .ok (.dup, 1) := by decide +kernel
theorem dP_insist_8 : decode bP_insist 8 = .ok (.ldc 154, 2) := by decide +kernel
theorem dP_insist_10 : decode bP_insist 10 = .ok (.invokespecial 156, 3) := by decide +kernel
theorem dP_insist_13 : decode bP_insist 13 = .ok (.athrow, 1) := by decide +kernel
theorem dP_insist_14 : decode bP_insist 14 = .ok (.return_, 1) := by decide +kernel
theorem dS_indexOf_0 : decode bS_indexOf 0 = .ok (.aload_n 0, 1) := by decide +kernel
theorem dS_indexOf_1 : decode bS_indexOf 1 = .ok (.iload_n 1, 1) := by decide +kernel
theorem dS_indexOf_2 : decode bS_indexOf 2 = .ok (.iconst 0, 1) := by decide +kernel
theorem dS_indexOf_3 : decode bS_indexOf 3 = .ok (.invokevirtual 633, 3) := by decide +kernel
theorem dS_indexOf_6 : decode bS_indexOf 6 = .ok (.ireturn, 1) := by decide +kernel
theorem dS_indexOf2_0 : decode bS_indexOf2 0 = .ok (.aload_n 0, 1) := by decide +kernel
theorem dS_indexOf2_1 : decode bS_indexOf2 1 = .ok (.invokevirtual 492, 3) := by decide +kernel
theorem dS_indexOf2_4 : decode bS_indexOf2 4 = .ok (.ifCond .eq 19, 3) := by decide +kernel
theorem dS_indexOf2_7 : decode bS_indexOf2 7 = .ok (.aload_n 0, 1) := by decide +kernel
theorem dS_indexOf2_8 : decode bS_indexOf2 8 = .ok (.getfield 9, 3) := by decide +kernel
theorem dS_indexOf2_11 : decode bS_indexOf2 11 = .ok (.iload_n 1, 1) := by decide +kernel
theorem dS_indexOf2_12 : decode bS_indexOf2 12 = .ok (.iload_n 2, 1) := by decide +kernel
theorem dS_indexOf2_13 : decode bS_indexOf2 13 = .ok (.aload_n 0, 1) := by decide +kernel
theorem dS_indexOf2_14 : decode bS_indexOf2 14 = .ok (.invokevirtual 505, 3) := by decide +kernel
theorem dS_indexOf2_17 : decode bS_indexOf2 17 = .ok (.invokestatic 637, 3) := by decide +kernel
theorem dS_indexOf2_20 : decode bS_indexOf2 20 = .ok (.goto 16, 3) := by decide +kernel
theorem dS_indexOf2_23 : decode bS_indexOf2 23 = .ok (.aload_n 0, 1) := by decide +kernel
theorem dS_indexOf2_24 : decode bS_indexOf2 24 = .ok (.getfield 9, 3) := by decide +kernel
theorem dS_indexOf2_27 : decode bS_indexOf2 27 = .ok (.iload_n 1, 1) := by decide +kernel
theorem dS_indexOf2_28 : decode bS_indexOf2 28 = .ok (.iload_n 2, 1) := by decide +kernel
theorem dS_indexOf2_29 : decode bS_indexOf2 29 = .ok (.aload_n 0, 1) := by decide +kernel
theorem dS_indexOf2_30 : decode bS_indexOf2 30 = .ok (.invokevirtual 505, 3) := by decide +kernel
theorem dS_indexOf2_33 : decode bS_indexOf2 33 = .ok (.invokestatic 640, 3) := by decide +kernel
theorem dS_indexOf2_36 : decode bS_indexOf2 36 = .ok (.ireturn, 1) := by decide +kernel
theorem dS_isLatin1_0 : decode bS_isLatin1 0 = .ok (.getstatic 38, 3) := by decide +kernel
theorem dS_isLatin1_3 : decode bS_isLatin1 3 = .ok (.ifCond .eq 14, 3) := by decide +kernel
theorem dS_isLatin1_6 : decode bS_isLatin1 6 = .ok (.aload_n 0, 1) := by decide +kernel
theorem dS_isLatin1_7 : decode bS_isLatin1 7 = .ok (.getfield 15, 3) := by decide +kernel
theorem dS_isLatin1_10 : decode bS_isLatin1 10 = .ok (.ifCond .ne 7, 3) := by decide +kernel
theorem dS_isLatin1_13 : decode bS_isLatin1 13 = .ok (.iconst 1, 1) := by decide +kernel
theorem dS_isLatin1_14 : decode bS_isLatin1 14 = .ok (.goto 4, 3) := by decide +kernel
theorem dS_isLatin1_17 : decode bS_isLatin1 17 = .ok (.iconst 0, 1) := by decide +kernel
theorem dS_isLatin1_18 : decode bS_isLatin1 18 = .ok (.ireturn, 1) := by decide +kernel
theorem dT_indexOf_0 : decode bT_indexOf 0 = .ok (.iload_n 1, 1) := by decide +kernel
theorem dT_indexOf_1 : decode bT_indexOf 1 = .ok (.invokestatic 88, 3) := by decide +kernel
theorem dT_indexOf_4 : decode bT_indexOf 4 = .ok (.ifCond .ne 5, 3) := by decide +kernel
theorem dT_indexOf_7 : decode bT_indexOf 7 = .ok (.iconst (-1), 1) := by decide +kernel
theorem dT_indexOf_8 : decode bT_indexOf 8 = .ok (.ireturn, 1) := by decide +kernel
theorem dT_indexOf_9 : decode bT_indexOf 9 = .ok (.iload_n 2, 1) := by decide +kernel
theorem dT_indexOf_10 : decode bT_indexOf 10 = .ok (.iconst 0, 1) := by decide +kernel
theorem dT_indexOf_11 : decode bT_indexOf 11 = .ok (.invokestatic 92, 3) := by decide +kernel
theorem dT_indexOf_14 : decode bT_indexOf 14 = .ok (.istore_n 2, 1) := by decide +kernel
theorem dT_indexOf_15 : decode bT_indexOf 15 = .ok (.iload_n 3, 1) := by decide +kernel
theorem dT_indexOf_16 : decode bT_indexOf 16 = .ok (.aload_n 0, 1) := by decide +kernel
theorem dT_indexOf_17 : decode bT_indexOf 17 = .ok (.arraylength, 1) := by decide +kernel
theorem dT_indexOf_18 : decode bT_indexOf 18 = .ok (.invokestatic 38, 3) := by decide +kernel
theorem dT_indexOf_21 : decode bT_indexOf 21 = .ok (.istore_n 3, 1) := by decide +kernel
theorem dT_indexOf_22 : decode bT_indexOf 22 = .ok (.iload_n 2, 1) := by decide +kernel
theorem dT_indexOf_23 : decode bT_indexOf 23 = .ok (.iload_n 3, 1) := by decide +kernel
theorem dT_indexOf_24 : decode bT_indexOf 24 = .ok (.if_icmp .lt 5, 3) := by decide +kernel
theorem dT_indexOf_27 : decode bT_indexOf 27 = .ok (.iconst (-1), 1) := by decide +kernel
theorem dT_indexOf_28 : decode bT_indexOf 28 = .ok (.ireturn, 1) := by decide +kernel
theorem dT_indexOf_29 : decode bT_indexOf 29 = .ok (.aload_n 0, 1) := by decide +kernel
theorem dT_indexOf_30 : decode bT_indexOf 30 = .ok (.iload_n 1, 1) := by decide +kernel
theorem dT_indexOf_31 : decode bT_indexOf 31 = .ok (.iload_n 2, 1) := by decide +kernel
theorem dT_indexOf_32 : decode bT_indexOf 32 = .ok (.iload_n 3, 1) := by decide +kernel
theorem dT_indexOf_33 : decode bT_indexOf 33 = .ok (.invokestatic 95, 3) := by decide +kernel
theorem dT_indexOf_36 : decode bT_indexOf 36 = .ok (.ireturn, 1) := by decide +kernel
theorem dT_canEncode_0 : decode bT_canEncode 0 = .ok (.iload_n 0, 1) := by decide +kernel
theorem dT_canEncode_1 : decode bT_canEncode 1 = .ok (.ifCond .lt 14, 3) := by decide +kernel
theorem dT_canEncode_4 : decode bT_canEncode 4 = .ok (.iload_n 0, 1) := by decide +kernel
theorem dT_canEncode_5 : decode bT_canEncode 5 = .ok (.sipush 255, 3) := by decide +kernel
theorem dT_canEncode_8 : decode bT_canEncode 8 = .ok (.if_icmp .gt 7, 3) := by decide +kernel
theorem dT_canEncode_11 : decode bT_canEncode 11 = .ok (.iconst 1, 1) := by decide +kernel
theorem dT_canEncode_12 : decode bT_canEncode 12 = .ok (.goto 4, 3) := by decide +kernel
theorem dT_canEncode_15 : decode bT_canEncode 15 = .ok (.iconst 0, 1) := by decide +kernel
theorem dT_canEncode_16 : decode bT_canEncode 16 = .ok (.ireturn, 1) := by decide +kernel
theorem dT_indexOfChar_0 : decode bT_indexOfChar 0 = .ok (.iload_n 1, 1) := by decide +kernel
theorem dT_indexOfChar_1 : decode bT_indexOfChar 1 = .ok (.i2b, 1) := by decide +kernel
theorem dT_indexOfChar_2 : decode bT_indexOfChar 2 = .ok (.istore 4, 2) := by decide +kernel
theorem dT_indexOfChar_4 : decode bT_indexOfChar 4 = .ok (.iload_n 2, 1) := by decide +kernel
theorem dT_indexOfChar_5 : decode bT_indexOfChar 5 = .ok (.istore 5, 2) := by decide +kernel
theorem dT_indexOfChar_7 : decode bT_indexOfChar 7 = .ok (.iload 5, 2) := by decide +kernel
theorem dT_indexOfChar_9 : decode bT_indexOfChar 9 = .ok (.iload_n 3, 1) := by decide +kernel
theorem dT_indexOfChar_10 : decode bT_indexOfChar 10 = .ok (.if_icmp .ge 21, 3) := by decide +kernel
theorem dT_indexOfChar_13 : decode bT_indexOfChar 13 = .ok (.aload_n 0, 1) := by decide +kernel
theorem dT_indexOfChar_14 : decode bT_indexOfChar 14 = .ok (.iload 5, 2) := by decide +kernel
theorem dT_indexOfChar_16 : decode bT_indexOfChar 16 = .ok (.baload, 1) := by decide +kernel
theorem dT_indexOfChar_17 : decode bT_indexOfChar 17 = .ok (.iload 4, 2) := by decide +kernel
theorem dT_indexOfChar_19 : decode bT_indexOfChar 19 = .ok (.if_icmp .ne 6, 3) := by decide +kernel
theorem dT_indexOfChar_22 : decode bT_indexOfChar 22 = .ok (.iload 5, 2) := by decide +kernel
theorem dT_indexOfChar_24 : decode bT_indexOfChar 24 = .ok (.ireturn, 1) := by decide +kernel
theorem dT_indexOfChar_25 : decode bT_indexOfChar 25 = .ok (.iinc 5 1, 3) := by decide +kernel
theorem dT_indexOfChar_28 : decode bT_indexOfChar 28 = .ok (.goto (-21), 3) := by decide +kernel
theorem dT_indexOfChar_31 : decode bT_indexOfChar 31 = .ok (.iconst (-1), 1) := by decide +kernel
theorem dT_indexOfChar_32 : decode bT_indexOfChar 32 = .ok (.ireturn, 1) := by decide +kernel
theorem dH_needSentence_0 : decode bH_needSentence 0 = .ok (.aload_n 0, 1) := by decide +kernel
theorem dH_needSentence_1 : decode bH_needSentence 1 = .ok (.getfield 31, 3) := by decide +kernel
theorem dH_needSentence_4 : decode bH_needSentence 4 = .ok (.ifnonnull 13, 3) := by decide +kernel
theorem dH_needSentence_7 : decode bH_needSentence 7 = .ok (.new 68, 3) := by decide +kernel
theorem dH_needSentence_10 : decode bH_needSentence 10 = .ok (.dup, 1) := by decide +kernel
theorem dH_needSentence_11 : decode bH_needSentence 11 = .ok (.ldc 70, 2) := by decide +kernel
theorem dH_needSentence_13 : decode bH_needSentence 13 = .ok (.invokespecial 72, 3) := by decide +kernel
theorem dH_needSentence_16 : decode bH_needSentence 16 = .ok (.athrow, 1) := by decide +kernel
theorem dH_needSentence_17 : decode bH_needSentence 17 = .ok (.return_, 1) := by decide +kernel
theorem dH_needWorld_0 : decode bH_needWorld 0 = .ok (.iload_n 0, 1) := by decide +kernel
theorem dH_needWorld_1 : decode bH_needWorld 1 = .ok (.ifCond .lt 8, 3) := by decide +kernel
theorem dH_needWorld_4 : decode bH_needWorld 4 = .ok (.iload_n 0, 1) := by decide +kernel
theorem dH_needWorld_5 : decode bH_needWorld 5 = .ok (.iconst 4, 1) := by decide +kernel
theorem dH_needWorld_6 : decode bH_needWorld 6 = .ok (.if_icmp .le 13, 3) := by decide +kernel
theorem dH_needWorld_9 : decode bH_needWorld 9 = .ok (.new 75, 3) := by decide +kernel
theorem dH_needWorld_12 : decode bH_needWorld 12 = .ok (.dup, 1) := by decide +kernel
theorem dH_needWorld_13 : decode bH_needWorld 13 = .ok (.ldc 77, 2) := by decide +kernel
theorem dH_needWorld_15 : decode bH_needWorld 15 = .ok (.invokespecial 79, 3) := by decide +kernel
theorem dH_needWorld_18 : decode bH_needWorld 18 = .ok (.athrow, 1) := by decide +kernel
theorem dH_needWorld_19 : decode bH_needWorld 19 = .ok (.return_, 1) := by decide +kernel
section
variable {p : Program} {l : Launch} {e : Env} {R : Room} {s : State} {m : MethodId} {args : Array Value} {below : List Frame} {meth : Method} {c : Code} {G : Gx} {M0 M' : Mem} {r : Option Value ⊕ Nat} {d : Nat} {C : Cx}

def fS_length_0 (n d : Nat) (C : Cx) (a0 : Nat) (M : Mem) : Rz := if a0 = mC M 1 then (if (mC M 5) = mC M 5 then (if a0 = mC M 1 then (rzC (C 3 [.ref a0] M) fun v_3 M_4 => (rzI v_3 fun x_8 => (some (.inl (some (.int (6 >>> (x_8 &&& 31)))), M_4)))) else none) else none) else none
set_option maxRecDepth 100000 in
set_option maxHeartbeats 4000000 in
theorem tS_length_0 {n : Nat} (F : FX p s m meth c G R M0 d "java/lang/String" bS_length 1 (some .int)) (hC : CBs l G d C) : ∀ (a0 : Nat) (M : Mem) (H : Heap) (locs : List Loc) (cells slots : Nat) (ls : Array Slot), fS_length_0 n d C a0 M = some (r, M') → RL G M0 M H locs cells slots → lv_has ls 1 [(0, .ref a0)] → W p l e R s m args below meth c H locs cells slots (CQ G below s M0 r M') (F0 m 0 ls []) := by
  obtain ⟨hx, hb, hml, hown, hrt, hlk, hex, hK, hRm⟩ := id F
  intro a0 M H locs cells slots ls h hR hl
  unfold fS_length_0 at h
  refine lv_aload_n hx hb dS_length_0 rfl (lv_at hl 0 rfl) ?_
  obtain ⟨c_1, h⟩ := rz_chk h
  refine rs_value hx hb hown hK hR c_1 kf_S_9 dS_length_1 ?_
  obtain ⟨c_2, h⟩ := rz_chk h
  refine rs_blen hx hb hK hR c_2 dS_length_4 ?_
  refine lv_aload_n hx hb dS_length_5 rfl (lv_at hl 0 rfl) ?_
  obtain ⟨c_7, h⟩ := rz_chk h
  obtain ⟨q_6, M_4, h_5, h⟩ := rz_c h
  refine rc_VS (rest := [.int 6]) (As := []) hx hb (hl.1.trans hml.symm) hown hK hR hRm mfS_coder kl_S_335 rfl rfl c_7 (by simp [cat_rf, cat_i, cat_a, cat_l, cat_n]) (hC 3 _ _ _ _ h_5) dS_length_6 (fun v1 H locs cells slots ev hR => ?_) (fun x1 q1 ce1 H locs cells slots ex hR g1 g2 g3 => ?_)
  · rcases h with ⟨v_3, ev2, h⟩ | ⟨e2, ee2, -⟩
    · cases ev.symm.trans ev2
      replace h := rz_i h
      obtain ⟨x_8, rfl, h⟩ := h
      dsimp only [Option.toList, List.cons_append, List.nil_append]
      refine lv_ishr hx hb dS_length_9 ?_
      cases h
      exact rt_i hx hb hlk hrt (Or.inl rfl) rfl hR dS_length_10
    · cases ev.symm.trans ee2
  · rcases h with ⟨v2, ev2, -⟩ | ⟨e2, ee2, h⟩
    · cases ex.symm.trans ev2
    · cases ex.symm.trans ee2
      cases h
      exact rt_x hlk hex hR g1 g2 g3
set_option maxRecDepth 100000 in
set_option maxHeartbeats 4000000 in
theorem sS_length {l : Launch} {G : Gx} {n d : Nat} {C : Cx} (hC : CBs l G d C) (a0 : Nat) {M M' : Mem} {r : Option Value ⊕ Nat} (h : fS_length_0 n d C a0 M = some (r, M')) : CB l G (d + 1) yS_length [.ref a0] M r M' := by
  intro p e R s m below meth c hx hn hm hc hlk hK hR hcap hS hU hfr hlo hrc hrs
  obtain ⟨hb, hml, hrt, hex, hown⟩ := fx_of hn hm hc (hK.w mfS_length.2.2.1 rfl #[])
  have F : FX p s m meth c G R M d "java/lang/String" bS_length 1 (some .int) := ⟨hx, hb, hml, hown, hrt, hlk, hex, hK, hfr, hlo, by rw [← hcap]; exact hrc, hrs⟩
  rw [hml]
  have hl := lv_entry ([.ref a0]) (n := 1) (by simp [lg_sl, cat_rf, cat_i, cat_a, cat_l, cat_n])
  rw [lg_entry_eq]
  generalize (lg_sl ([.ref a0]) ++ List.replicate (1 - (lg_sl ([.ref a0])).length) Slot.unset).toArray = ls at hl ⊢
  have hl : lv_has ls 1 [(0, .ref a0)] := by simpa [lv_args, cat_rf, cat_i, cat_a, cat_l, cat_n] using hl
  exact tS_length_0 F hC a0 _ _ _ _ _ _ h (RL.start hR hcap hS hU) (lv_sub hl [0] rfl)
def fS_coder_14 (n d : Nat) (C : Cx) (xs0 : Int32) (M : Mem) : Rz := if xs0.toInt8.toInt32 = xs0 then (some (.inl (some (.int xs0)), M)) else none
set_option maxRecDepth 100000 in
set_option maxHeartbeats 4000000 in
theorem tS_coder_14 {n : Nat} (F : FX p s m meth c G R M0 d "java/lang/String" bS_coder 1 (some .byte)) (hC : CBs l G d C) : ∀ (xs0 : Int32) (M : Mem) (H : Heap) (locs : List Loc) (cells slots : Nat) (ls : Array Slot), fS_coder_14 n d C xs0 M = some (r, M') → RL G M0 M H locs cells slots → lv_has ls 1 [] → W p l e R s m args below meth c H locs cells slots (CQ G below s M0 r M') (F0 m 14 ls [.int xs0]) := by
  obtain ⟨hx, hb, hml, hown, hrt, hlk, hex, hK, hRm⟩ := id F
  intro xs0 M H locs cells slots ls h hR hl
  unfold fS_coder_14 at h
  obtain ⟨c_1, h⟩ := rz_chk h
  cases h
  exact rt_b hx hb hlk hrt c_1 hR dS_coder_14
def fS_coder_0 (n d : Nat) (C : Cx) (a0 : Nat) (M : Mem) : Rz := if (1 : Int32) = 0 then (fS_coder_14 n d C 1 M) else (if a0 = mC M 1 then (fS_coder_14 n d C 0 M) else none)
set_option maxRecDepth 100000 in
set_option maxHeartbeats 4000000 in
theorem tS_coder_0 {n : Nat} (F : FX p s m meth c G R M0 d "java/lang/String" bS_coder 1 (some .byte)) (hC : CBs l G d C) : ∀ (a0 : Nat) (M : Mem) (H : Heap) (locs : List Loc) (cells slots : Nat) (ls : Array Slot), fS_coder_0 n d C a0 M = some (r, M') → RL G M0 M H locs cells slots → lv_has ls 1 [(0, .ref a0)] → W p l e R s m args below meth c H locs cells slots (CQ G below s M0 r M') (F0 m 0 ls []) := by
  obtain ⟨hx, hb, hml, hown, hrt, hlk, hex, hK, hRm⟩ := id F
  intro a0 M H locs cells slots ls h hR hl
  unfold fS_coder_0 at h
  refine rs_compact hx hb hown hK hR kf_S_38 dS_coder_0 ?_
  refine lv_if_eq (tgt := 13) hx hb dS_coder_3 (by decide) (fun c_1 => ?_) (fun c_1 => ?_)
  · replace h := rz_t c_1 h
    refine lv_iconst (v := 1) hx hb dS_coder_13 (by decide) ?_
    exact tS_coder_14 F hC 1 _ _ _ _ _ _ h hR (lv_sub hl [] rfl)
  · replace h := rz_f c_1 h
    refine lv_aload_n hx hb dS_coder_6 rfl (lv_at hl 0 rfl) ?_
    obtain ⟨c_2, h⟩ := rz_chk h
    refine rs_coder hx hb hown hK hR c_2 kf_S_15 dS_coder_7 ?_
    refine lv_goto (tgt := 14) hx hb dS_coder_10 (by decide) ?_
    exact tS_coder_14 F hC 0 _ _ _ _ _ _ h hR (lv_sub hl [] rfl)
set_option maxRecDepth 100000 in
set_option maxHeartbeats 4000000 in
theorem sS_coder {l : Launch} {G : Gx} {n d : Nat} {C : Cx} (hC : CBs l G d C) (a0 : Nat) {M M' : Mem} {r : Option Value ⊕ Nat} (h : fS_coder_0 n d C a0 M = some (r, M')) : CB l G (d + 1) yS_coder [.ref a0] M r M' := by
  intro p e R s m below meth c hx hn hm hc hlk hK hR hcap hS hU hfr hlo hrc hrs
  obtain ⟨hb, hml, hrt, hex, hown⟩ := fx_of hn hm hc (hK.w mfS_coder.2.2.1 rfl #[])
  have F : FX p s m meth c G R M d "java/lang/String" bS_coder 1 (some .byte) := ⟨hx, hb, hml, hown, hrt, hlk, hex, hK, hfr, hlo, by rw [← hcap]; exact hrc, hrs⟩
  rw [hml]
  have hl := lv_entry ([.ref a0]) (n := 1) (by simp [lg_sl, cat_rf, cat_i, cat_a, cat_l, cat_n])
  rw [lg_entry_eq]
  generalize (lg_sl ([.ref a0]) ++ List.replicate (1 - (lg_sl ([.ref a0])).length) Slot.unset).toArray = ls at hl ⊢
  have hl : lv_has ls 1 [(0, .ref a0)] := by simpa [lv_args, cat_rf, cat_i, cat_a, cat_l, cat_n] using hl
  exact tS_coder_0 F hC a0 _ _ _ _ _ _ h (RL.start hR hcap hS hU) (lv_sub hl [0] rfl)
def fP_insist_0 (n d : Nat) (C : Cx) (x0 : Int32) (M : Mem) : Rz := if x0 = 0 then (if 8 ≤ d then (if mS M + 1 ≤ mC M 0 then (if mU M + 6 ≤ SLm then (some (.inr 1, newC M 0 0 6)) else none) else none) else none) else (some (.inl none, M))
set_option maxRecDepth 100000 in
set_option maxHeartbeats 4000000 in
theorem sP_insist {l : Launch} (hl9 : l.stackTraces = false) {G : Gx} {n d : Nat} {C : Cx} (hC : CBs l G d C) (x0 : Int32) {M M' : Mem} {r : Option Value ⊕ Nat} (h : fP_insist_0 n d C x0 M = some (r, M')) : CB l G (d + 1) yP_insist [.int x0] M r M' := by
  intro p e R s m below meth c hx hn hm hc hlk hK hR hcap hS hU hfr hlo hrc hrs
  obtain ⟨hb, hml, hrt, hex, hown⟩ := fx_of hn hm hc (hK.w mfP_insist.2.2.1 rfl #[])
  have hRm : RM G R M d := ⟨hfr, hlo, by rw [← hcap]; exact hrc, hrs⟩
  rw [hml]
  have hl := lv_entry ([.int x0]) (n := 1) (by simp [lg_sl, cat_rf, cat_i, cat_a, cat_l, cat_n])
  rw [lg_entry_eq]
  generalize (lg_sl ([.int x0]) ++ List.replicate (1 - (lg_sl ([.int x0])).length) Slot.unset).toArray = ls at hl ⊢
  have hl : lv_has ls 1 [(0, .int x0)] := by simpa [lv_args, cat_rf, cat_i, cat_a, cat_l, cat_n] using hl
  have hR := RL.start hR hcap hS hU
  unfold fP_insist_0 at h
  refine lv_iload_n hx hb dP_insist_0 rfl (lv_at hl 0 rfl) ?_
  refine lv_if_ne (tgt := 14) hx hb dP_insist_1 (by decide) (fun c_1 => ?_) (fun c_1 => ?_)
  · replace h := rz_f c_1 h
    cases h
    exact rt_v hx hb hlk hrt hR dP_insist_14
  · replace h := rz_t c_1 h
    obtain ⟨c_2, h⟩ := rz_chk h
    obtain ⟨c_3, h⟩ := rz_chk h
    obtain ⟨c_4, h⟩ := rz_chk h
    cases h
    exact rg_throw hl9 hx hb hown hlk hex hK hRm c_2 hR 1 kc_P_152 xi_1 xz_1 xw_P_156 hK.2.2.2.1.2.2.1 (hl.1.trans hml.symm) c_3 c_4 dP_insist_4 dP_insist_7 dP_insist_8 dP_insist_10 dP_insist_13
def fS_indexOf_0 (n d : Nat) (C : Cx) (a0 : Nat) (x1 : Int32) (M : Mem) : Rz := if a0 = mC M 1 then (rzC (C 25 [.ref a0, .int x1, .int 0] M) fun v_1 M_2 => (rzI v_1 fun x_6 => (some (.inl (some (.int x_6)), M_2)))) else none
set_option maxRecDepth 100000 in
set_option maxHeartbeats 4000000 in
theorem tS_indexOf_0 {n : Nat} (F : FX p s m meth c G R M0 d "java/lang/String" bS_indexOf 2 (some .int)) (hC : CBs l G d C) : ∀ (a0 : Nat) (x1 : Int32) (M : Mem) (H : Heap) (locs : List Loc) (cells slots : Nat) (ls : Array Slot), fS_indexOf_0 n d C a0 x1 M = some (r, M') → RL G M0 M H locs cells slots → lv_has ls 2 [(0, .ref a0), (1, .int x1)] → W p l e R s m args below meth c H locs cells slots (CQ G below s M0 r M') (F0 m 0 ls []) := by
  obtain ⟨hx, hb, hml, hown, hrt, hlk, hex, hK, hRm⟩ := id F
  intro a0 x1 M H locs cells slots ls h hR hl
  unfold fS_indexOf_0 at h
  refine lv_aload_n hx hb dS_indexOf_0 rfl (lv_at hl 0 rfl) ?_
  refine lv_iload_n hx hb dS_indexOf_1 rfl (lv_at hl 1 rfl) ?_
  refine lv_iconst (v := 0) hx hb dS_indexOf_2 (by decide) ?_
  obtain ⟨c_5, h⟩ := rz_chk h
  obtain ⟨q_4, M_2, h_3, h⟩ := rz_c h
  refine rc_VS (rest := []) (As := [.int x1, .int 0]) hx hb (hl.1.trans hml.symm) hown hK hR hRm mfS_indexOf2 kl_S_633 rfl rfl c_5 (by simp [cat_rf, cat_i, cat_a, cat_l, cat_n]) (hC 25 _ _ _ _ h_3) dS_indexOf_3 (fun v1 H locs cells slots ev hR => ?_) (fun x1 q1 ce1 H locs cells slots ex hR g1 g2 g3 => ?_)
  · rcases h with ⟨v_1, ev2, h⟩ | ⟨e2, ee2, -⟩
    · cases ev.symm.trans ev2
      replace h := rz_i h
      obtain ⟨x_6, rfl, h⟩ := h
      dsimp only [Option.toList, List.cons_append, List.nil_append]
      cases h
      exact rt_i hx hb hlk hrt (Or.inl rfl) rfl hR dS_indexOf_6
    · cases ev.symm.trans ee2
  · rcases h with ⟨v2, ev2, -⟩ | ⟨e2, ee2, h⟩
    · cases ex.symm.trans ev2
    · cases ex.symm.trans ee2
      cases h
      exact rt_x hlk hex hR g1 g2 g3
set_option maxRecDepth 100000 in
set_option maxHeartbeats 4000000 in
theorem sS_indexOf {l : Launch} {G : Gx} {n d : Nat} {C : Cx} (hC : CBs l G d C) (a0 : Nat) (x1 : Int32) {M M' : Mem} {r : Option Value ⊕ Nat} (h : fS_indexOf_0 n d C a0 x1 M = some (r, M')) : CB l G (d + 1) yS_indexOf [.ref a0, .int x1] M r M' := by
  intro p e R s m below meth c hx hn hm hc hlk hK hR hcap hS hU hfr hlo hrc hrs
  obtain ⟨hb, hml, hrt, hex, hown⟩ := fx_of hn hm hc (hK.w mfS_indexOf.2.2.1 rfl #[])
  have F : FX p s m meth c G R M d "java/lang/String" bS_indexOf 2 (some .int) := ⟨hx, hb, hml, hown, hrt, hlk, hex, hK, hfr, hlo, by rw [← hcap]; exact hrc, hrs⟩
  rw [hml]
  have hl := lv_entry ([.ref a0, .int x1]) (n := 2) (by simp [lg_sl, cat_rf, cat_i, cat_a, cat_l, cat_n])
  rw [lg_entry_eq]
  generalize (lg_sl ([.ref a0, .int x1]) ++ List.replicate (2 - (lg_sl ([.ref a0, .int x1])).length) Slot.unset).toArray = ls at hl ⊢
  have hl : lv_has ls 2 [(0, .ref a0), (1, .int x1)] := by simpa [lv_args, cat_rf, cat_i, cat_a, cat_l, cat_n] using hl
  exact tS_indexOf_0 F hC a0 x1 _ _ _ _ _ _ h (RL.start hR hcap hS hU) (lv_sub hl [0, 1] rfl)
def fS_indexOf2_36 (n d : Nat) (C : Cx) (xs0 : Int32) (M : Mem) : Rz := some (.inl (some (.int xs0)), M)
set_option maxRecDepth 100000 in
set_option maxHeartbeats 4000000 in
theorem tS_indexOf2_36 {n : Nat} (F : FX p s m meth c G R M0 d "java/lang/String" bS_indexOf2 3 (some .int)) (hC : CBs l G d C) : ∀ (xs0 : Int32) (M : Mem) (H : Heap) (locs : List Loc) (cells slots : Nat) (ls : Array Slot), fS_indexOf2_36 n d C xs0 M = some (r, M') → RL G M0 M H locs cells slots → lv_has ls 3 [] → W p l e R s m args below meth c H locs cells slots (CQ G below s M0 r M') (F0 m 36 ls [.int xs0]) := by
  obtain ⟨hx, hb, hml, hown, hrt, hlk, hex, hK, hRm⟩ := id F
  intro xs0 M H locs cells slots ls h hR hl
  unfold fS_indexOf2_36 at h
  cases h
  exact rt_i hx hb hlk hrt (Or.inl rfl) rfl hR dS_indexOf2_36
def fS_indexOf2_0 (n d : Nat) (C : Cx) (a0 : Nat) (x1 : Int32) (x2 : Int32) (M : Mem) : Rz := if a0 = mC M 1 then (rzC (C 26 [.ref a0] M) fun v_1 M_2 => (rzI v_1 fun x_6 => (if x_6 = 0 then (if a0 = mC M_2 1 then (if a0 = mC M_2 1 then (rzC (C 2 [.ref a0] M_2) fun v_9 M_10 => (rzI v_9 fun x_14 => (none))) else none) else none) else (if a0 = mC M_2 1 then (if a0 = mC M_2 1 then (rzC (C 2 [.ref a0] M_2) fun v_16 M_17 => (rzI v_16 fun x_21 => (rzC (C 27 [.ref (mC M_2 5), .int x1, .int x2, .int x_21] M_17) fun v_22 M_23 => (rzI v_22 fun x_26 => (fS_indexOf2_36 n d C x_26 M_23))))) else none) else none)))) else none
set_option maxRecDepth 100000 in
set_option maxHeartbeats 4000000 in
theorem tS_indexOf2_0 {n : Nat} (F : FX p s m meth c G R M0 d "java/lang/String" bS_indexOf2 3 (some .int)) (hC : CBs l G d C) : ∀ (a0 : Nat) (x1 : Int32) (x2 : Int32) (M : Mem) (H : Heap) (locs : List Loc) (cells slots : Nat) (ls : Array Slot), fS_indexOf2_0 n d C a0 x1 x2 M = some (r, M') → RL G M0 M H locs cells slots → lv_has ls 3 [(0, .ref a0), (1, .int x1), (2, .int x2)] → W p l e R s m args below meth c H locs cells slots (CQ G below s M0 r M') (F0 m 0 ls []) := by
  obtain ⟨hx, hb, hml, hown, hrt, hlk, hex, hK, hRm⟩ := id F
  intro a0 x1 x2 M H locs cells slots ls h hR hl
  unfold fS_indexOf2_0 at h
  refine lv_aload_n hx hb dS_indexOf2_0 rfl (lv_at hl 0 rfl) ?_
  obtain ⟨c_5, h⟩ := rz_chk h
  obtain ⟨q_4, M_2, h_3, h⟩ := rz_c h
  refine rc_VS (rest := []) (As := []) hx hb (hl.1.trans hml.symm) hown hK hR hRm mfS_isLatin1 kl_S_492 rfl rfl c_5 (by simp [cat_rf, cat_i, cat_a, cat_l, cat_n]) (hC 26 _ _ _ _ h_3) dS_indexOf2_1 (fun v1 H locs cells slots ev hR => ?_) (fun x1 q1 ce1 H locs cells slots ex hR g1 g2 g3 => ?_)
  · rcases h with ⟨v_1, ev2, h⟩ | ⟨e2, ee2, -⟩
    · cases ev.symm.trans ev2
      replace h := rz_i h
      obtain ⟨x_6, rfl, h⟩ := h
      dsimp only [Option.toList, List.cons_append, List.nil_append]
      refine lv_if_eq (tgt := 23) hx hb dS_indexOf2_4 (by decide) (fun c_7 => ?_) (fun c_7 => ?_)
      · replace h := rz_t c_7 h
        refine lv_aload_n hx hb dS_indexOf2_23 rfl (lv_at hl 0 rfl) ?_
        obtain ⟨c_8, h⟩ := rz_chk h
        refine rs_value hx hb hown hK hR c_8 kf_S_9 dS_indexOf2_24 ?_
        refine lv_iload_n hx hb dS_indexOf2_27 rfl (lv_at hl 1 rfl) ?_
        refine lv_iload_n hx hb dS_indexOf2_28 rfl (lv_at hl 2 rfl) ?_
        refine lv_aload_n hx hb dS_indexOf2_29 rfl (lv_at hl 0 rfl) ?_
        obtain ⟨c_13, h⟩ := rz_chk h
        obtain ⟨q_12, M_10, h_11, h⟩ := rz_c h
        refine rc_VS (rest := [.int x2, .int x1, .ref (mC M_2 5)]) (As := []) hx hb (hl.1.trans hml.symm) hown hK hR hRm mfS_length kl_S_505 rfl rfl c_13 (by simp [cat_rf, cat_i, cat_a, cat_l, cat_n]) (hC 2 _ _ _ _ h_11) dS_indexOf2_30 (fun v1 H locs cells slots ev hR => ?_) (fun x1 q1 ce1 H locs cells slots ex hR g1 g2 g3 => ?_)
        · rcases h with ⟨v_9, ev2, h⟩ | ⟨e2, ee2, -⟩
          · cases ev.symm.trans ev2
            replace h := rz_i h
            obtain ⟨x_14, rfl, h⟩ := h
            dsimp only [Option.toList, List.cons_append, List.nil_append]
            cases h
          · cases ev.symm.trans ee2
        · rcases h with ⟨v2, ev2, -⟩ | ⟨e2, ee2, h⟩
          · cases ex.symm.trans ev2
          · cases ex.symm.trans ee2
            cases h
            exact rt_x hlk hex hR g1 g2 g3
      · replace h := rz_f c_7 h
        refine lv_aload_n hx hb dS_indexOf2_7 rfl (lv_at hl 0 rfl) ?_
        obtain ⟨c_15, h⟩ := rz_chk h
        refine rs_value hx hb hown hK hR c_15 kf_S_9 dS_indexOf2_8 ?_
        refine lv_iload_n hx hb dS_indexOf2_11 rfl (lv_at hl 1 rfl) ?_
        refine lv_iload_n hx hb dS_indexOf2_12 rfl (lv_at hl 2 rfl) ?_
        refine lv_aload_n hx hb dS_indexOf2_13 rfl (lv_at hl 0 rfl) ?_
        obtain ⟨c_20, h⟩ := rz_chk h
        obtain ⟨q_19, M_17, h_18, h⟩ := rz_c h
        refine rc_VS (rest := [.int x2, .int x1, .ref (mC M_2 5)]) (As := []) hx hb (hl.1.trans hml.symm) hown hK hR hRm mfS_length kl_S_505 rfl rfl c_20 (by simp [cat_rf, cat_i, cat_a, cat_l, cat_n]) (hC 2 _ _ _ _ h_18) dS_indexOf2_14 (fun v1 H locs cells slots ev hR => ?_) (fun x1 q1 ce1 H locs cells slots ex hR g1 g2 g3 => ?_)
        · rcases h with ⟨v_16, ev2, h⟩ | ⟨e2, ee2, -⟩
          · cases ev.symm.trans ev2
            replace h := rz_i h
            obtain ⟨x_21, rfl, h⟩ := h
            dsimp only [Option.toList, List.cons_append, List.nil_append]
            obtain ⟨q_25, M_23, h_24, h⟩ := rz_c h
            refine rc_S (rest := []) (As := [.ref (mC M_2 5), .int x1, .int x2, .int x_21]) hx hb (hl.1.trans hml.symm) hown hK hR hRm mfT_indexOf kl_S_637 rfl (by simp [cat_rf, cat_i, cat_a, cat_l, cat_n]) (hC 27 _ _ _ _ h_24) dS_indexOf2_17 (fun v1 H locs cells slots ev hR => ?_) (fun x1 q1 ce1 H locs cells slots ex hR g1 g2 g3 => ?_)
            · rcases h with ⟨v_22, ev2, h⟩ | ⟨e2, ee2, -⟩
              · cases ev.symm.trans ev2
                replace h := rz_i h
                obtain ⟨x_26, rfl, h⟩ := h
                dsimp only [Option.toList, List.cons_append, List.nil_append]
                refine lv_goto (tgt := 36) hx hb dS_indexOf2_20 (by decide) ?_
                exact tS_indexOf2_36 F hC x_26 _ _ _ _ _ _ h hR (lv_sub hl [] rfl)
              · cases ev.symm.trans ee2
            · rcases h with ⟨v2, ev2, -⟩ | ⟨e2, ee2, h⟩
              · cases ex.symm.trans ev2
              · cases ex.symm.trans ee2
                cases h
                exact rt_x hlk hex hR g1 g2 g3
          · cases ev.symm.trans ee2
        · rcases h with ⟨v2, ev2, -⟩ | ⟨e2, ee2, h⟩
          · cases ex.symm.trans ev2
          · cases ex.symm.trans ee2
            cases h
            exact rt_x hlk hex hR g1 g2 g3
    · cases ev.symm.trans ee2
  · rcases h with ⟨v2, ev2, -⟩ | ⟨e2, ee2, h⟩
    · cases ex.symm.trans ev2
    · cases ex.symm.trans ee2
      cases h
      exact rt_x hlk hex hR g1 g2 g3
set_option maxRecDepth 100000 in
set_option maxHeartbeats 4000000 in
theorem sS_indexOf2 {l : Launch} {G : Gx} {n d : Nat} {C : Cx} (hC : CBs l G d C) (a0 : Nat) (x1 : Int32) (x2 : Int32) {M M' : Mem} {r : Option Value ⊕ Nat} (h : fS_indexOf2_0 n d C a0 x1 x2 M = some (r, M')) : CB l G (d + 1) yS_indexOf2 [.ref a0, .int x1, .int x2] M r M' := by
  intro p e R s m below meth c hx hn hm hc hlk hK hR hcap hS hU hfr hlo hrc hrs
  obtain ⟨hb, hml, hrt, hex, hown⟩ := fx_of hn hm hc (hK.w mfS_indexOf2.2.2.1 rfl #[])
  have F : FX p s m meth c G R M d "java/lang/String" bS_indexOf2 3 (some .int) := ⟨hx, hb, hml, hown, hrt, hlk, hex, hK, hfr, hlo, by rw [← hcap]; exact hrc, hrs⟩
  rw [hml]
  have hl := lv_entry ([.ref a0, .int x1, .int x2]) (n := 3) (by simp [lg_sl, cat_rf, cat_i, cat_a, cat_l, cat_n])
  rw [lg_entry_eq]
  generalize (lg_sl ([.ref a0, .int x1, .int x2]) ++ List.replicate (3 - (lg_sl ([.ref a0, .int x1, .int x2])).length) Slot.unset).toArray = ls at hl ⊢
  have hl : lv_has ls 3 [(0, .ref a0), (1, .int x1), (2, .int x2)] := by simpa [lv_args, cat_rf, cat_i, cat_a, cat_l, cat_n] using hl
  exact tS_indexOf2_0 F hC a0 x1 x2 _ _ _ _ _ _ h (RL.start hR hcap hS hU) (lv_sub hl [0, 1, 2] rfl)
def fS_isLatin1_18 (n d : Nat) (C : Cx) (xs0 : Int32) (M : Mem) : Rz := if fits .boolean (.int xs0) = true then (some (.inl (some (.int xs0)), M)) else none
set_option maxRecDepth 100000 in
set_option maxHeartbeats 4000000 in
theorem tS_isLatin1_18 {n : Nat} (F : FX p s m meth c G R M0 d "java/lang/String" bS_isLatin1 1 (some .boolean)) (hC : CBs l G d C) : ∀ (xs0 : Int32) (M : Mem) (H : Heap) (locs : List Loc) (cells slots : Nat) (ls : Array Slot), fS_isLatin1_18 n d C xs0 M = some (r, M') → RL G M0 M H locs cells slots → lv_has ls 1 [] → W p l e R s m args below meth c H locs cells slots (CQ G below s M0 r M') (F0 m 18 ls [.int xs0]) := by
  obtain ⟨hx, hb, hml, hown, hrt, hlk, hex, hK, hRm⟩ := id F
  intro xs0 M H locs cells slots ls h hR hl
  unfold fS_isLatin1_18 at h
  obtain ⟨c_1, h⟩ := rz_chk h
  cases h
  exact rt_i hx hb hlk hrt (Or.inr (Or.inr rfl)) c_1 hR dS_isLatin1_18
def fS_isLatin1_17 (n d : Nat) (C : Cx) (M : Mem) : Rz := fS_isLatin1_18 n d C 0 M
set_option maxRecDepth 100000 in
set_option maxHeartbeats 4000000 in
theorem tS_isLatin1_17 {n : Nat} (F : FX p s m meth c G R M0 d "java/lang/String" bS_isLatin1 1 (some .boolean)) (hC : CBs l G d C) : ∀ (M : Mem) (H : Heap) (locs : List Loc) (cells slots : Nat) (ls : Array Slot), fS_isLatin1_17 n d C M = some (r, M') → RL G M0 M H locs cells slots → lv_has ls 1 [] → W p l e R s m args below meth c H locs cells slots (CQ G below s M0 r M') (F0 m 17 ls []) := by
  obtain ⟨hx, hb, hml, hown, hrt, hlk, hex, hK, hRm⟩ := id F
  intro M H locs cells slots ls h hR hl
  unfold fS_isLatin1_17 at h
  refine lv_iconst (v := 0) hx hb dS_isLatin1_17 (by decide) ?_
  exact tS_isLatin1_18 F hC 0 _ _ _ _ _ _ h hR (lv_sub hl [] rfl)
def fS_isLatin1_0 (n d : Nat) (C : Cx) (a0 : Nat) (M : Mem) : Rz := if (1 : Int32) = 0 then (fS_isLatin1_17 n d C M) else (if a0 = mC M 1 then (if (0 : Int32) = 0 then (fS_isLatin1_18 n d C 1 M) else (fS_isLatin1_17 n d C M)) else none)
set_option maxRecDepth 100000 in
set_option maxHeartbeats 4000000 in
theorem tS_isLatin1_0 {n : Nat} (F : FX p s m meth c G R M0 d "java/lang/String" bS_isLatin1 1 (some .boolean)) (hC : CBs l G d C) : ∀ (a0 : Nat) (M : Mem) (H : Heap) (locs : List Loc) (cells slots : Nat) (ls : Array Slot), fS_isLatin1_0 n d C a0 M = some (r, M') → RL G M0 M H locs cells slots → lv_has ls 1 [(0, .ref a0)] → W p l e R s m args below meth c H locs cells slots (CQ G below s M0 r M') (F0 m 0 ls []) := by
  obtain ⟨hx, hb, hml, hown, hrt, hlk, hex, hK, hRm⟩ := id F
  intro a0 M H locs cells slots ls h hR hl
  unfold fS_isLatin1_0 at h
  refine rs_compact hx hb hown hK hR kf_S_38 dS_isLatin1_0 ?_
  refine lv_if_eq (tgt := 17) hx hb dS_isLatin1_3 (by decide) (fun c_1 => ?_) (fun c_1 => ?_)
  · replace h := rz_t c_1 h
    exact tS_isLatin1_17 F hC _ _ _ _ _ _ h hR (lv_sub hl [] rfl)
  · replace h := rz_f c_1 h
    refine lv_aload_n hx hb dS_isLatin1_6 rfl (lv_at hl 0 rfl) ?_
    obtain ⟨c_2, h⟩ := rz_chk h
    refine rs_coder hx hb hown hK hR c_2 kf_S_15 dS_isLatin1_7 ?_
    refine lv_if_ne (tgt := 17) hx hb dS_isLatin1_10 (by decide) (fun c_3 => ?_) (fun c_3 => ?_)
    · replace h := rz_f c_3 h
      exact tS_isLatin1_17 F hC _ _ _ _ _ _ h hR (lv_sub hl [] rfl)
    · replace h := rz_t c_3 h
      refine lv_iconst (v := 1) hx hb dS_isLatin1_13 (by decide) ?_
      refine lv_goto (tgt := 18) hx hb dS_isLatin1_14 (by decide) ?_
      exact tS_isLatin1_18 F hC 1 _ _ _ _ _ _ h hR (lv_sub hl [] rfl)
set_option maxRecDepth 100000 in
set_option maxHeartbeats 4000000 in
theorem sS_isLatin1 {l : Launch} {G : Gx} {n d : Nat} {C : Cx} (hC : CBs l G d C) (a0 : Nat) {M M' : Mem} {r : Option Value ⊕ Nat} (h : fS_isLatin1_0 n d C a0 M = some (r, M')) : CB l G (d + 1) yS_isLatin1 [.ref a0] M r M' := by
  intro p e R s m below meth c hx hn hm hc hlk hK hR hcap hS hU hfr hlo hrc hrs
  obtain ⟨hb, hml, hrt, hex, hown⟩ := fx_of hn hm hc (hK.w mfS_isLatin1.2.2.1 rfl #[])
  have F : FX p s m meth c G R M d "java/lang/String" bS_isLatin1 1 (some .boolean) := ⟨hx, hb, hml, hown, hrt, hlk, hex, hK, hfr, hlo, by rw [← hcap]; exact hrc, hrs⟩
  rw [hml]
  have hl := lv_entry ([.ref a0]) (n := 1) (by simp [lg_sl, cat_rf, cat_i, cat_a, cat_l, cat_n])
  rw [lg_entry_eq]
  generalize (lg_sl ([.ref a0]) ++ List.replicate (1 - (lg_sl ([.ref a0])).length) Slot.unset).toArray = ls at hl ⊢
  have hl : lv_has ls 1 [(0, .ref a0)] := by simpa [lv_args, cat_rf, cat_i, cat_a, cat_l, cat_n] using hl
  exact tS_isLatin1_0 F hC a0 _ _ _ _ _ _ h (RL.start hR hcap hS hU) (lv_sub hl [0] rfl)
def fT_indexOf_0 (n d : Nat) (C : Cx) (r0 : Option Nat) (x1 : Int32) (x2 : Int32) (x3 : Int32) (M : Mem) : Rz := rzC (C 28 [.int x1] M) fun v_1 M_2 => (rzI v_1 fun x_5 => (if x_5 = 0 then (some (.inl (some (.int ((-1)))), M_2)) else (rzD r0 fun a_7 => (if a_7 = mC M_2 5 then (if (if x2 < (0 : Int32) then (0 : Int32) else x2) < (if (6 : Int32) < x3 then (6 : Int32) else x3) then (rzC (C 29 [va_rf r0, .int x1, .int (if x2 < (0 : Int32) then (0 : Int32) else x2), .int (if (6 : Int32) < x3 then (6 : Int32) else x3)] M_2) fun v_11 M_12 => (rzI v_11 fun x_15 => (some (.inl (some (.int x_15)), M_12)))) else (some (.inl (some (.int ((-1)))), M_2))) else none))))
set_option maxRecDepth 100000 in
set_option maxHeartbeats 4000000 in
theorem tT_indexOf_0 {n : Nat} (F : FX p s m meth c G R M0 d "java/lang/StringLatin1" bT_indexOf 4 (some .int)) (hC : CBs l G d C) : ∀ (r0 : Option Nat) (x1 : Int32) (x2 : Int32) (x3 : Int32) (M : Mem) (H : Heap) (locs : List Loc) (cells slots : Nat) (ls : Array Slot), fT_indexOf_0 n d C r0 x1 x2 x3 M = some (r, M') → RL G M0 M H locs cells slots → lv_has ls 4 [(0, va_rf r0), (1, .int x1), (2, .int x2), (3, .int x3)] → W p l e R s m args below meth c H locs cells slots (CQ G below s M0 r M') (F0 m 0 ls []) := by
  obtain ⟨hx, hb, hml, hown, hrt, hlk, hex, hK, hRm⟩ := id F
  intro r0 x1 x2 x3 M H locs cells slots ls h hR hl
  unfold fT_indexOf_0 at h
  refine lv_iload_n hx hb dT_indexOf_0 rfl (lv_at hl 1 rfl) ?_
  obtain ⟨q_4, M_2, h_3, h⟩ := rz_c h
  refine rc_S (rest := []) (As := [.int x1]) hx hb (hl.1.trans hml.symm) hown hK hR hRm mfT_canEncode kl_T_88 rfl (by simp [cat_rf, cat_i, cat_a, cat_l, cat_n]) (hC 28 _ _ _ _ h_3) dT_indexOf_1 (fun v1 H locs cells slots ev hR => ?_) (fun x1 q1 ce1 H locs cells slots ex hR g1 g2 g3 => ?_)
  · rcases h with ⟨v_1, ev2, h⟩ | ⟨e2, ee2, -⟩
    · cases ev.symm.trans ev2
      replace h := rz_i h
      obtain ⟨x_5, rfl, h⟩ := h
      dsimp only [Option.toList, List.cons_append, List.nil_append]
      refine lv_if_ne (tgt := 9) hx hb dT_indexOf_4 (by decide) (fun c_6 => ?_) (fun c_6 => ?_)
      · replace h := rz_f c_6 h
        refine lv_iload_n hx hb dT_indexOf_9 rfl (lv_at hl 2 rfl) ?_
        refine lv_iconst (v := 0) hx hb dT_indexOf_10 (by decide) ?_
        refine rs_max hx hb (hml.trans hl.1.symm) hown hK hR hRm kl_T_92 (by simp [cat_rf, cat_i, cat_a, cat_l, cat_n]) dT_indexOf_11 ?_
        refine lv_istore_n (lv' := [(2, .int (if x2 < (0 : Int32) then (0 : Int32) else x2)), (0, va_rf r0), (1, .int x1), (3, .int x3)]) hx hb dT_indexOf_14 rfl hl (by decide) rfl (fun ls hl => ?_)
        refine lv_iload_n hx hb dT_indexOf_15 rfl (lv_at hl 3 rfl) ?_
        refine lr_aload_n hx hb dT_indexOf_16 rfl (lv_at hl 1 rfl) ?_
        obtain ⟨a_7, e_8, h⟩ := rz_d h
        rw [e_8]
        obtain ⟨c_9, h⟩ := rz_chk h
        refine rs_blen hx hb hK hR c_9 dT_indexOf_17 ?_
        refine rs_min hx hb (hml.trans hl.1.symm) hown hK hR hRm kl_T_38 (by simp [cat_rf, cat_i, cat_a, cat_l, cat_n]) dT_indexOf_18 ?_
        refine lv_istore_n (lv' := [(3, .int (if (6 : Int32) < x3 then (6 : Int32) else x3)), (2, .int (if x2 < (0 : Int32) then (0 : Int32) else x2)), (0, va_rf r0), (1, .int x1)]) hx hb dT_indexOf_21 rfl hl (by decide) rfl (fun ls hl => ?_)
        refine lv_iload_n hx hb dT_indexOf_22 rfl (lv_at hl 1 rfl) ?_
        refine lv_iload_n hx hb dT_indexOf_23 rfl (lv_at hl 0 rfl) ?_
        refine lv_icmp_lt (tgt := 29) hx hb dT_indexOf_24 (by decide) (fun c_10 => ?_) (fun c_10 => ?_)
        · replace h := rz_t c_10 h
          refine lr_aload_n hx hb dT_indexOf_29 rfl (lv_at hl 2 rfl) ?_
          refine lv_iload_n hx hb dT_indexOf_30 rfl (lv_at hl 3 rfl) ?_
          refine lv_iload_n hx hb dT_indexOf_31 rfl (lv_at hl 1 rfl) ?_
          refine lv_iload_n hx hb dT_indexOf_32 rfl (lv_at hl 0 rfl) ?_
          obtain ⟨q_14, M_12, h_13, h⟩ := rz_c h
          refine rc_S (rest := []) (As := [va_rf r0, .int x1, .int (if x2 < (0 : Int32) then (0 : Int32) else x2), .int (if (6 : Int32) < x3 then (6 : Int32) else x3)]) hx hb (hl.1.trans hml.symm) hown hK hR hRm mfT_indexOfChar kl_T_95 rfl (by simp [cat_rf, cat_i, cat_a, cat_l, cat_n]) (hC 29 _ _ _ _ h_13) dT_indexOf_33 (fun v1 H locs cells slots ev hR => ?_) (fun x1 q1 ce1 H locs cells slots ex hR g1 g2 g3 => ?_)
          · rcases h with ⟨v_11, ev2, h⟩ | ⟨e2, ee2, -⟩
            · cases ev.symm.trans ev2
              replace h := rz_i h
              obtain ⟨x_15, rfl, h⟩ := h
              dsimp only [Option.toList, List.cons_append, List.nil_append]
              cases h
              exact rt_i hx hb hlk hrt (Or.inl rfl) rfl hR dT_indexOf_36
            · cases ev.symm.trans ee2
          · rcases h with ⟨v2, ev2, -⟩ | ⟨e2, ee2, h⟩
            · cases ex.symm.trans ev2
            · cases ex.symm.trans ee2
              cases h
              exact rt_x hlk hex hR g1 g2 g3
        · replace h := rz_f c_10 h
          refine lv_iconst (v := (-1)) hx hb dT_indexOf_27 (by decide) ?_
          cases h
          exact rt_i hx hb hlk hrt (Or.inl rfl) rfl hR dT_indexOf_28
      · replace h := rz_t c_6 h
        refine lv_iconst (v := (-1)) hx hb dT_indexOf_7 (by decide) ?_
        cases h
        exact rt_i hx hb hlk hrt (Or.inl rfl) rfl hR dT_indexOf_8
    · cases ev.symm.trans ee2
  · rcases h with ⟨v2, ev2, -⟩ | ⟨e2, ee2, h⟩
    · cases ex.symm.trans ev2
    · cases ex.symm.trans ee2
      cases h
      exact rt_x hlk hex hR g1 g2 g3
set_option maxRecDepth 100000 in
set_option maxHeartbeats 4000000 in
theorem sT_indexOf {l : Launch} {G : Gx} {n d : Nat} {C : Cx} (hC : CBs l G d C) (r0 : Option Nat) (x1 : Int32) (x2 : Int32) (x3 : Int32) {M M' : Mem} {r : Option Value ⊕ Nat} (h : fT_indexOf_0 n d C r0 x1 x2 x3 M = some (r, M')) : CB l G (d + 1) yT_indexOf [va_rf r0, .int x1, .int x2, .int x3] M r M' := by
  intro p e R s m below meth c hx hn hm hc hlk hK hR hcap hS hU hfr hlo hrc hrs
  obtain ⟨hb, hml, hrt, hex, hown⟩ := fx_of hn hm hc (hK.w mfT_indexOf.2.2.1 rfl #[])
  have F : FX p s m meth c G R M d "java/lang/StringLatin1" bT_indexOf 4 (some .int) := ⟨hx, hb, hml, hown, hrt, hlk, hex, hK, hfr, hlo, by rw [← hcap]; exact hrc, hrs⟩
  rw [hml]
  have hl := lv_entry ([va_rf r0, .int x1, .int x2, .int x3]) (n := 4) (by simp [lg_sl, cat_rf, cat_i, cat_a, cat_l, cat_n])
  rw [lg_entry_eq]
  generalize (lg_sl ([va_rf r0, .int x1, .int x2, .int x3]) ++ List.replicate (4 - (lg_sl ([va_rf r0, .int x1, .int x2, .int x3])).length) Slot.unset).toArray = ls at hl ⊢
  have hl : lv_has ls 4 [(0, va_rf r0), (1, .int x1), (2, .int x2), (3, .int x3)] := by simpa [lv_args, cat_rf, cat_i, cat_a, cat_l, cat_n] using hl
  exact tT_indexOf_0 F hC r0 x1 x2 x3 _ _ _ _ _ _ h (RL.start hR hcap hS hU) (lv_sub hl [0, 1, 2, 3] rfl)
def fT_canEncode_16 (n d : Nat) (C : Cx) (xs0 : Int32) (M : Mem) : Rz := if fits .boolean (.int xs0) = true then (some (.inl (some (.int xs0)), M)) else none
set_option maxRecDepth 100000 in
set_option maxHeartbeats 4000000 in
theorem tT_canEncode_16 {n : Nat} (F : FX p s m meth c G R M0 d "java/lang/StringLatin1" bT_canEncode 1 (some .boolean)) (hC : CBs l G d C) : ∀ (xs0 : Int32) (M : Mem) (H : Heap) (locs : List Loc) (cells slots : Nat) (ls : Array Slot), fT_canEncode_16 n d C xs0 M = some (r, M') → RL G M0 M H locs cells slots → lv_has ls 1 [] → W p l e R s m args below meth c H locs cells slots (CQ G below s M0 r M') (F0 m 16 ls [.int xs0]) := by
  obtain ⟨hx, hb, hml, hown, hrt, hlk, hex, hK, hRm⟩ := id F
  intro xs0 M H locs cells slots ls h hR hl
  unfold fT_canEncode_16 at h
  obtain ⟨c_1, h⟩ := rz_chk h
  cases h
  exact rt_i hx hb hlk hrt (Or.inr (Or.inr rfl)) c_1 hR dT_canEncode_16
def fT_canEncode_15 (n d : Nat) (C : Cx) (M : Mem) : Rz := fT_canEncode_16 n d C 0 M
set_option maxRecDepth 100000 in
set_option maxHeartbeats 4000000 in
theorem tT_canEncode_15 {n : Nat} (F : FX p s m meth c G R M0 d "java/lang/StringLatin1" bT_canEncode 1 (some .boolean)) (hC : CBs l G d C) : ∀ (M : Mem) (H : Heap) (locs : List Loc) (cells slots : Nat) (ls : Array Slot), fT_canEncode_15 n d C M = some (r, M') → RL G M0 M H locs cells slots → lv_has ls 1 [] → W p l e R s m args below meth c H locs cells slots (CQ G below s M0 r M') (F0 m 15 ls []) := by
  obtain ⟨hx, hb, hml, hown, hrt, hlk, hex, hK, hRm⟩ := id F
  intro M H locs cells slots ls h hR hl
  unfold fT_canEncode_15 at h
  refine lv_iconst (v := 0) hx hb dT_canEncode_15 (by decide) ?_
  exact tT_canEncode_16 F hC 0 _ _ _ _ _ _ h hR (lv_sub hl [] rfl)
def fT_canEncode_0 (n d : Nat) (C : Cx) (x0 : Int32) (M : Mem) : Rz := if x0 < 0 then (fT_canEncode_15 n d C M) else (if 255 < x0 then (fT_canEncode_15 n d C M) else (fT_canEncode_16 n d C 1 M))
set_option maxRecDepth 100000 in
set_option maxHeartbeats 4000000 in
theorem tT_canEncode_0 {n : Nat} (F : FX p s m meth c G R M0 d "java/lang/StringLatin1" bT_canEncode 1 (some .boolean)) (hC : CBs l G d C) : ∀ (x0 : Int32) (M : Mem) (H : Heap) (locs : List Loc) (cells slots : Nat) (ls : Array Slot), fT_canEncode_0 n d C x0 M = some (r, M') → RL G M0 M H locs cells slots → lv_has ls 1 [(0, .int x0)] → W p l e R s m args below meth c H locs cells slots (CQ G below s M0 r M') (F0 m 0 ls []) := by
  obtain ⟨hx, hb, hml, hown, hrt, hlk, hex, hK, hRm⟩ := id F
  intro x0 M H locs cells slots ls h hR hl
  unfold fT_canEncode_0 at h
  refine lv_iload_n hx hb dT_canEncode_0 rfl (lv_at hl 0 rfl) ?_
  refine lv_if_lt (tgt := 15) hx hb dT_canEncode_1 (by decide) (fun c_1 => ?_) (fun c_1 => ?_)
  · replace h := rz_t c_1 h
    exact tT_canEncode_15 F hC _ _ _ _ _ _ h hR (lv_sub hl [] rfl)
  · replace h := rz_f c_1 h
    refine lv_iload_n hx hb dT_canEncode_4 rfl (lv_at hl 0 rfl) ?_
    refine lv_sipush (v := 255) hx hb dT_canEncode_5 (by decide) ?_
    refine lv_icmp_gt (tgt := 15) hx hb dT_canEncode_8 (by decide) (fun c_2 => ?_) (fun c_2 => ?_)
    · replace h := rz_t c_2 h
      exact tT_canEncode_15 F hC _ _ _ _ _ _ h hR (lv_sub hl [] rfl)
    · replace h := rz_f c_2 h
      refine lv_iconst (v := 1) hx hb dT_canEncode_11 (by decide) ?_
      refine lv_goto (tgt := 16) hx hb dT_canEncode_12 (by decide) ?_
      exact tT_canEncode_16 F hC 1 _ _ _ _ _ _ h hR (lv_sub hl [] rfl)
set_option maxRecDepth 100000 in
set_option maxHeartbeats 4000000 in
theorem sT_canEncode {l : Launch} {G : Gx} {n d : Nat} {C : Cx} (hC : CBs l G d C) (x0 : Int32) {M M' : Mem} {r : Option Value ⊕ Nat} (h : fT_canEncode_0 n d C x0 M = some (r, M')) : CB l G (d + 1) yT_canEncode [.int x0] M r M' := by
  intro p e R s m below meth c hx hn hm hc hlk hK hR hcap hS hU hfr hlo hrc hrs
  obtain ⟨hb, hml, hrt, hex, hown⟩ := fx_of hn hm hc (hK.w mfT_canEncode.2.2.1 rfl #[])
  have F : FX p s m meth c G R M d "java/lang/StringLatin1" bT_canEncode 1 (some .boolean) := ⟨hx, hb, hml, hown, hrt, hlk, hex, hK, hfr, hlo, by rw [← hcap]; exact hrc, hrs⟩
  rw [hml]
  have hl := lv_entry ([.int x0]) (n := 1) (by simp [lg_sl, cat_rf, cat_i, cat_a, cat_l, cat_n])
  rw [lg_entry_eq]
  generalize (lg_sl ([.int x0]) ++ List.replicate (1 - (lg_sl ([.int x0])).length) Slot.unset).toArray = ls at hl ⊢
  have hl : lv_has ls 1 [(0, .int x0)] := by simpa [lv_args, cat_rf, cat_i, cat_a, cat_l, cat_n] using hl
  exact tT_canEncode_0 F hC x0 _ _ _ _ _ _ h (RL.start hR hcap hS hU) (lv_sub hl [0] rfl)
def fT_indexOfChar_7 (n d : Nat) (C : Cx) : Nat → Option Nat → Int32 → Int32 → Int32 → Mem → Rz
  | 0, _, _, _, _, _ => none
  | w + 1, r0, x3, x4, x5, M => if x3 ≤ x5 then (some (.inl (some (.int ((-1)))), M)) else (rzD r0 fun a_2 => (if a_2 = mC M 5 then (if inA x5 6 then (if (sVar.getD x5.toNatClampNeg 0) = x4 then (some (.inl (some (.int x5)), M)) else (fT_indexOfChar_7 n d C w r0 x3 x4 (x5 + 1) M)) else none) else none))
set_option maxRecDepth 100000 in
set_option maxHeartbeats 4000000 in
theorem tT_indexOfChar_7 {n : Nat} (F : FX p s m meth c G R M0 d "java/lang/StringLatin1" bT_indexOfChar 6 (some .int)) (hC : CBs l G d C) : ∀ (w : Nat) (r0 : Option Nat) (x3 : Int32) (x4 : Int32) (x5 : Int32) (M : Mem) (H : Heap) (locs : List Loc) (cells slots : Nat) (ls : Array Slot), fT_indexOfChar_7 n d C w r0 x3 x4 x5 M = some (r, M') → RL G M0 M H locs cells slots → lv_has ls 6 [(0, va_rf r0), (3, .int x3), (4, .int x4), (5, .int x5)] → W p l e R s m args below meth c H locs cells slots (CQ G below s M0 r M') (F0 m 7 ls []) := by
  obtain ⟨hx, hb, hml, hown, hrt, hlk, hex, hK, hRm⟩ := id F
  intro w
  induction w with
  | zero => intro r0 x3 x4 x5 M H locs cells slots ls h; cases h
  | succ w ih =>
    intro r0 x3 x4 x5 M H locs cells slots ls h hR hl
    rw [fT_indexOfChar_7] at h
    refine lv_iload hx hb dT_indexOfChar_7 (lv_at hl 3 rfl) ?_
    refine lv_iload_n hx hb dT_indexOfChar_9 rfl (lv_at hl 1 rfl) ?_
    refine lv_icmp_ge (tgt := 31) hx hb dT_indexOfChar_10 (by decide) (fun c_1 => ?_) (fun c_1 => ?_)
    · replace h := rz_t c_1 h
      refine lv_iconst (v := (-1)) hx hb dT_indexOfChar_31 (by decide) ?_
      cases h
      exact rt_i hx hb hlk hrt (Or.inl rfl) rfl hR dT_indexOfChar_32
    · replace h := rz_f c_1 h
      refine lr_aload_n hx hb dT_indexOfChar_13 rfl (lv_at hl 0 rfl) ?_
      refine lv_iload hx hb dT_indexOfChar_14 (lv_at hl 3 rfl) ?_
      obtain ⟨a_2, e_3, h⟩ := rz_d h
      rw [e_3]
      obtain ⟨c_4, h⟩ := rz_chk h
      obtain ⟨c_5, h⟩ := rz_chk h
      refine rs_bald hx hb hK hR c_4 c_5 dT_indexOfChar_16 ?_
      refine lv_iload hx hb dT_indexOfChar_17 (lv_at hl 2 rfl) ?_
      refine lv_icmp_ne (tgt := 25) hx hb dT_indexOfChar_19 (by decide) (fun c_6 => ?_) (fun c_6 => ?_)
      · replace h := rz_f c_6 h
        refine lv_iinc (k := 3) (v := x5 + 1) (lv' := [(5, .int (x5 + 1)), (0, va_rf r0), (3, .int x3), (4, .int x4)]) hx hb dT_indexOfChar_25 hl rfl (by rw [show Int32.ofInt 1 = 1 from by decide]) (by decide) rfl (fun ls hl => ?_)
        refine lv_goto (tgt := 7) hx hb dT_indexOfChar_28 (by decide) ?_
        exact ih r0 x3 x4 (x5 + 1) _ _ _ _ _ _ h hR (lv_sub hl [1, 2, 3, 0] rfl)
      · replace h := rz_t c_6 h
        refine lv_iload hx hb dT_indexOfChar_22 (lv_at hl 3 rfl) ?_
        cases h
        exact rt_i hx hb hlk hrt (Or.inl rfl) rfl hR dT_indexOfChar_24
def fT_indexOfChar_0 (n d : Nat) (C : Cx) (r0 : Option Nat) (x1 : Int32) (x2 : Int32) (x3 : Int32) (M : Mem) : Rz := fT_indexOfChar_7 n d C n r0 x3 (x1.toInt8.toInt32) x2 M
set_option maxRecDepth 100000 in
set_option maxHeartbeats 4000000 in
theorem tT_indexOfChar_0 {n : Nat} (F : FX p s m meth c G R M0 d "java/lang/StringLatin1" bT_indexOfChar 6 (some .int)) (hC : CBs l G d C) : ∀ (r0 : Option Nat) (x1 : Int32) (x2 : Int32) (x3 : Int32) (M : Mem) (H : Heap) (locs : List Loc) (cells slots : Nat) (ls : Array Slot), fT_indexOfChar_0 n d C r0 x1 x2 x3 M = some (r, M') → RL G M0 M H locs cells slots → lv_has ls 6 [(0, va_rf r0), (1, .int x1), (2, .int x2), (3, .int x3)] → W p l e R s m args below meth c H locs cells slots (CQ G below s M0 r M') (F0 m 0 ls []) := by
  obtain ⟨hx, hb, hml, hown, hrt, hlk, hex, hK, hRm⟩ := id F
  intro r0 x1 x2 x3 M H locs cells slots ls h hR hl
  unfold fT_indexOfChar_0 at h
  refine lv_iload_n hx hb dT_indexOfChar_0 rfl (lv_at hl 1 rfl) ?_
  refine lv_i2b hx hb dT_indexOfChar_1 rfl ?_
  refine lv_istore (lv' := [(4, .int (x1.toInt8.toInt32)), (0, va_rf r0), (1, .int x1), (2, .int x2), (3, .int x3)]) hx hb dT_indexOfChar_2 hl (by decide) rfl (fun ls hl => ?_)
  refine lv_iload_n hx hb dT_indexOfChar_4 rfl (lv_at hl 3 rfl) ?_
  refine lv_istore (lv' := [(5, .int x2), (4, .int (x1.toInt8.toInt32)), (0, va_rf r0), (1, .int x1), (2, .int x2), (3, .int x3)]) hx hb dT_indexOfChar_5 hl (by decide) rfl (fun ls hl => ?_)
  exact tT_indexOfChar_7 F hC n r0 x3 (x1.toInt8.toInt32) x2 _ _ _ _ _ _ h hR (lv_sub hl [2, 5, 1, 0] rfl)
set_option maxRecDepth 100000 in
set_option maxHeartbeats 4000000 in
theorem sT_indexOfChar {l : Launch} {G : Gx} {n d : Nat} {C : Cx} (hC : CBs l G d C) (r0 : Option Nat) (x1 : Int32) (x2 : Int32) (x3 : Int32) {M M' : Mem} {r : Option Value ⊕ Nat} (h : fT_indexOfChar_0 n d C r0 x1 x2 x3 M = some (r, M')) : CB l G (d + 1) yT_indexOfChar [va_rf r0, .int x1, .int x2, .int x3] M r M' := by
  intro p e R s m below meth c hx hn hm hc hlk hK hR hcap hS hU hfr hlo hrc hrs
  obtain ⟨hb, hml, hrt, hex, hown⟩ := fx_of hn hm hc (hK.w mfT_indexOfChar.2.2.1 rfl #[])
  have F : FX p s m meth c G R M d "java/lang/StringLatin1" bT_indexOfChar 6 (some .int) := ⟨hx, hb, hml, hown, hrt, hlk, hex, hK, hfr, hlo, by rw [← hcap]; exact hrc, hrs⟩
  rw [hml]
  have hl := lv_entry ([va_rf r0, .int x1, .int x2, .int x3]) (n := 6) (by simp [lg_sl, cat_rf, cat_i, cat_a, cat_l, cat_n])
  rw [lg_entry_eq]
  generalize (lg_sl ([va_rf r0, .int x1, .int x2, .int x3]) ++ List.replicate (6 - (lg_sl ([va_rf r0, .int x1, .int x2, .int x3])).length) Slot.unset).toArray = ls at hl ⊢
  have hl : lv_has ls 6 [(0, va_rf r0), (1, .int x1), (2, .int x2), (3, .int x3)] := by simpa [lv_args, cat_rf, cat_i, cat_a, cat_l, cat_n] using hl
  exact tT_indexOfChar_0 F hC r0 x1 x2 x3 _ _ _ _ _ _ h (RL.start hR hcap hS hU) (lv_sub hl [0, 1, 2, 3] rfl)
def fH_needSentence_0 (n d : Nat) (C : Cx) (a0 : Nat) (M : Mem) : Rz := if mK M a0 = 1 then (rzN (mP M a0 4) (if 8 ≤ d then (if mS M + 1 ≤ mC M 0 then (if mU M + 6 ≤ SLm then (some (.inr 2, newC M 0 0 6)) else none) else none) else none) fun a_2 => (some (.inl none, M))) else none
set_option maxRecDepth 100000 in
set_option maxHeartbeats 4000000 in
theorem sH_needSentence {l : Launch} (hl9 : l.stackTraces = false) {G : Gx} {n d : Nat} {C : Cx} (hC : CBs l G d C) (a0 : Nat) {M M' : Mem} {r : Option Value ⊕ Nat} (h : fH_needSentence_0 n d C a0 M = some (r, M')) : CB l G (d + 1) yH_needSentence [.ref a0] M r M' := by
  intro p e R s m below meth c hx hn hm hc hlk hK hR hcap hS hU hfr hlo hrc hrs
  obtain ⟨hb, hml, hrt, hex, hown⟩ := fx_of hn hm hc (hK.w mfH_needSentence.2.2.1 rfl #[])
  have hRm : RM G R M d := ⟨hfr, hlo, by rw [← hcap]; exact hrc, hrs⟩
  rw [hml]
  have hl := lv_entry ([.ref a0]) (n := 1) (by simp [lg_sl, cat_rf, cat_i, cat_a, cat_l, cat_n])
  rw [lg_entry_eq]
  generalize (lg_sl ([.ref a0]) ++ List.replicate (1 - (lg_sl ([.ref a0])).length) Slot.unset).toArray = ls at hl ⊢
  have hl : lv_has ls 1 [(0, .ref a0)] := by simpa [lv_args, cat_rf, cat_i, cat_a, cat_l, cat_n] using hl
  have hR := RL.start hR hcap hS hU
  unfold fH_needSentence_0 at h
  refine lv_aload_n hx hb dH_needSentence_0 rfl (lv_at hl 0 rfl) ?_
  obtain ⟨c_1, h⟩ := rz_chk h
  refine rg_getP hx hb hown hK hR hk_H 4 (by decide) kf_H_31 rfl c_1 dH_needSentence_1 ?_
  refine lr_ifnonnull (tgt := 17) hx hb dH_needSentence_4 (by decide) (fun a_2 e_3 => ?_) (fun e_3 => ?_)
  · replace h := rz_n2 e_3 h
    cases h
    exact rt_v hx hb hlk hrt hR dH_needSentence_17
  · replace h := rz_n1 e_3 h
    obtain ⟨c_4, h⟩ := rz_chk h
    obtain ⟨c_5, h⟩ := rz_chk h
    obtain ⟨c_6, h⟩ := rz_chk h
    cases h
    exact rg_throw hl9 hx hb hown hlk hex hK hRm c_4 hR 2 kc_H_68 xi_2 xz_2 xw_H_72 hK.2.2.2.1.2.2.2.1 (hl.1.trans hml.symm) c_5 c_6 dH_needSentence_7 dH_needSentence_10 dH_needSentence_11 dH_needSentence_13 dH_needSentence_16
def fH_needWorld_0 (n d : Nat) (C : Cx) (x0 : Int32) (M : Mem) : Rz := if x0 < 0 then (if 8 ≤ d then (if mS M + 1 ≤ mC M 0 then (if mU M + 6 ≤ SLm then (some (.inr 1, newC M 0 0 6)) else none) else none) else none) else (if x0 ≤ 4 then (some (.inl none, M)) else (if 8 ≤ d then (if mS M + 1 ≤ mC M 0 then (if mU M + 6 ≤ SLm then (some (.inr 1, newC M 0 0 6)) else none) else none) else none))
set_option maxRecDepth 100000 in
set_option maxHeartbeats 4000000 in
theorem sH_needWorld {l : Launch} (hl9 : l.stackTraces = false) {G : Gx} {n d : Nat} {C : Cx} (hC : CBs l G d C) (x0 : Int32) {M M' : Mem} {r : Option Value ⊕ Nat} (h : fH_needWorld_0 n d C x0 M = some (r, M')) : CB l G (d + 1) yH_needWorld [.int x0] M r M' := by
  intro p e R s m below meth c hx hn hm hc hlk hK hR hcap hS hU hfr hlo hrc hrs
  obtain ⟨hb, hml, hrt, hex, hown⟩ := fx_of hn hm hc (hK.w mfH_needWorld.2.2.1 rfl #[])
  have hRm : RM G R M d := ⟨hfr, hlo, by rw [← hcap]; exact hrc, hrs⟩
  rw [hml]
  have hl := lv_entry ([.int x0]) (n := 1) (by simp [lg_sl, cat_rf, cat_i, cat_a, cat_l, cat_n])
  rw [lg_entry_eq]
  generalize (lg_sl ([.int x0]) ++ List.replicate (1 - (lg_sl ([.int x0])).length) Slot.unset).toArray = ls at hl ⊢
  have hl : lv_has ls 1 [(0, .int x0)] := by simpa [lv_args, cat_rf, cat_i, cat_a, cat_l, cat_n] using hl
  have hR := RL.start hR hcap hS hU
  unfold fH_needWorld_0 at h
  refine lv_iload_n hx hb dH_needWorld_0 rfl (lv_at hl 0 rfl) ?_
  refine lv_if_lt (tgt := 9) hx hb dH_needWorld_1 (by decide) (fun c_1 => ?_) (fun c_1 => ?_)
  · replace h := rz_t c_1 h
    obtain ⟨c_2, h⟩ := rz_chk h
    obtain ⟨c_3, h⟩ := rz_chk h
    obtain ⟨c_4, h⟩ := rz_chk h
    cases h
    exact rg_throw hl9 hx hb hown hlk hex hK hRm c_2 hR 1 kc_H_75 xi_1 xz_1 xw_H_79 hK.2.2.2.1.2.2.2.2 (hl.1.trans hml.symm) c_3 c_4 dH_needWorld_9 dH_needWorld_12 dH_needWorld_13 dH_needWorld_15 dH_needWorld_18
  · replace h := rz_f c_1 h
    refine lv_iload_n hx hb dH_needWorld_4 rfl (lv_at hl 0 rfl) ?_
    refine lv_iconst (v := 4) hx hb dH_needWorld_5 (by decide) ?_
    refine lv_icmp_le (tgt := 19) hx hb dH_needWorld_6 (by decide) (fun c_5 => ?_) (fun c_5 => ?_)
    · replace h := rz_t c_5 h
      cases h
      exact rt_v hx hb hlk hrt hR dH_needWorld_19
    · replace h := rz_f c_5 h
      obtain ⟨c_6, h⟩ := rz_chk h
      obtain ⟨c_7, h⟩ := rz_chk h
      obtain ⟨c_8, h⟩ := rz_chk h
      cases h
      exact rg_throw hl9 hx hb hown hlk hex hK hRm c_6 hR 1 kc_H_75 xi_1 xz_1 xw_H_79 hK.2.2.2.1.2.2.2.2 (hl.1.trans hml.symm) c_7 c_8 dH_needWorld_9 dH_needWorld_12 dH_needWorld_13 dH_needWorld_15 dH_needWorld_18
end
