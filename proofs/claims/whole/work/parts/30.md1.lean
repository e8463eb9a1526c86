def zl_X5_type_34 (x0 : Int64) : Nat → (Int32) → (Int32) → (Nat → Int32) → Option (Int32 × Int32 × (Nat → Int32))
  | 0, _, _, _ => none
  | n + 1, w3, w4, w5 =>
    if w3 < 0 then
    some (w3, w4, w5)
    else
    zk_gd (zk_in w4 300)
    (zk_lt (w4 + (1 : Int32)) (fun y7 =>
    zk_lt (w3 + (-1)) (fun y8 =>
    zl_X5_type_34 x0 n y8 y7 (upd w5 w4.toNatClampNeg (vp_nar .byte (((x0 >>> (((8 : Int32) * w3).toInt64 &&& 63)).toInt32).toInt8.toInt32))))))
def zf_X5_type (x0 : Int64) (x1 : Int32) (v_md_length : Int32) (f_md_text : Nat → Int32) : Option (Int32 × Int32 × (Nat → Int32)) :=
  (zf_X5_in x1.toInt64 (1 : Int64) (8 : Int64)).bind (fun v1 =>
  if v1 = 0 then
  some ((-1 : Int32), v_md_length, f_md_text)
  else
  if (v_md_length + x1) ≤ (300 : Int32) then
  zk_lt (x1 - (1 : Int32)) (fun y2 =>
  (zl_X5_type_34 x0 zk_F y2 v_md_length f_md_text).bind (fun v10 =>
  some (v10.2.1, v10.2.1, v10.2.2)))
  else
  some ((-3 : Int32), v_md_length, f_md_text))
theorem hd_X5_type : yX5_type.cls = RX5 ∧ yX5_type.cls ≠ "java/lang/invoke/MethodHandle" ∧ yX5_type.cls ≠ "java/lang/invoke/VarHandle" ∧ (parseMethodDescriptor yX5_type.desc).map (fun d => d.parameters.length) = some 2 := by decide +kernel
set_option maxHeartbeats 4000000 in
set_option maxRecDepth 100000 in
theorem zc_X5_type (l : Launch) (D : va_G) (tL tO : Nat) (cI cJ cB cQ : ClassId) (a_md a_md_text a_md_weight a_md_says a_md_cost a_md_readWeight a_md_readSays a_md_opened a_md_any a_md_all a_md_burdens a_md_best a_md_own a_md_truth : Nat) (x0 : Int64) (x1 : Int32) (v_md_length : Int32) (v_md_laws : Int32) (v_md_sayers : Int32) (v_md_there : Int64) (v_md_question : Int64) (v_md_measure : Int32) (v_md_trace : Int64) (v_md_readLaws : Int32) (v_md_readSayers : Int32) (v_md_readThere : Int64) (v_md_begin : Int32) (v_md_end : Int32) (v_md_sort : Int32) (v_md_open : Int32) (v_md_level : Int32) (v_md_said : Int64) (f_md_text : Nat → Int32) (z : Int32 × Int32 × (Nat → Int32)) (hf : zf_X5_type x0 x1 v_md_length f_md_text = some z) : zk_CT l D tL tO (zk_ty cI cJ cB cQ) yX5_type wsX5_type 1 25 [.ref a_md, .long x0, .int x1] (some (.int z.1)) [(a_md, .inr (5, [.int v_md_length, .ref a_md_text, .int v_md_laws, .int v_md_sayers, .long v_md_there, .long v_md_question, .ref a_md_weight, .ref a_md_says, .ref a_md_cost, .int v_md_measure, .long v_md_trace, .int v_md_readLaws, .int v_md_readSayers, .long v_md_readThere, .ref a_md_readWeight, .ref a_md_readSays, .int v_md_begin, .int v_md_end, .int v_md_sort, .int v_md_open, .ref a_md_opened, .int v_md_level, .ref a_md_any, .ref a_md_all, .long v_md_said, .ref a_md_burdens, .ref a_md_best, .ref a_md_own, .ref a_md_truth])), (a_md_text, .inl (cB, 300, .inl f_md_text))] [(a_md, .inr (5, [.int z.2.1, .ref a_md_text, .int v_md_laws, .int v_md_sayers, .long v_md_there, .long v_md_question, .ref a_md_weight, .ref a_md_says, .ref a_md_cost, .int v_md_measure, .long v_md_trace, .int v_md_readLaws, .int v_md_readSayers, .long v_md_readThere, .ref a_md_readWeight, .ref a_md_readSays, .int v_md_begin, .int v_md_end, .int v_md_sort, .int v_md_open, .ref a_md_opened, .int v_md_level, .ref a_md_any, .ref a_md_all, .long v_md_said, .ref a_md_burdens, .ref a_md_best, .ref a_md_own, .ref a_md_truth])), (a_md_text, .inl (cB, 300, .inl z.2.2))] := by
  refine zk_of_i (cc := cX5_type) (maxL := 5) (by decide) rfl (Nat.le_of_ble_eq_true rfl) ?_
  intro p e R s m args below meth c A Q ls hx hb hml hRf hRl hts hown hP hK hD hA hS hG hl hret
  have hl : lv_has ls 5 [(0, .ref a_md), (1, .long x0), (3, .int x1)] := hl
  have hown : s.vm.findClass RX5 = some m.cls := hown
  have hcs : 0 ≤ R.cells ∧ 0 ≤ R.slots := ⟨Nat.zero_le _, Nat.zero_le _⟩
  have lk0 := hts (.constantLong RX5 64 (8)) (by decide +kernel)
  have lk1 := hts (.fieldLink RX5 70 "SayingsMergedModel" "length" "I") (by decide +kernel)
  have inX5 : ∀ w ∈ wsX50, w ∈ wsX5_type := by decide +kernel
  have lk3 := hts (.fieldLink RX5 7 "SayingsMergedModel" "text" "[B") (by decide +kernel)
  unfold zf_X5_type at hf
  refine lv_iload_n hx hb dX5_type_0 rfl (lv_at hl 2 rfl) ?_
  refine lv_i2l hx hb dX5_type_1 rfl ?_
  refine lv_lconst (v := (1 : Int64)) hx hb dX5_type_2 (by decide) ?_
  refine lv_ldc2 hx hb hown lk0 dX5_type_3 ?_
  obtain ⟨v1, hv1, hf⟩ := zk_ob hf
  refine zk_goR (zk_S (As := [.long x1.toInt64, .long (1 : Int64), .long (8 : Int64)]) (rest := []) hx hb hml hown hts hK hG hP hD hS hA gX5_type_X5_in rfl hd_X5_in (Nat.le_trans (Nat.le_of_ble_eq_true rfl) hRf) (Nat.le_trans (Nat.le_of_ble_eq_true rfl) hRl) hcs (zc_X5_in l D tL tO cI cJ cB cQ x1.toInt64 (1 : Int64) (8 : Int64) v1 hv1) hl.1 rfl rfl (Nat.le_of_ble_eq_true rfl) dX5_type_6 [] rfl rfl) hP hD hS hA [] rfl (fun H locs hP hS => ?_)
  refine lv_if_ne (tgt := 14) hx hb dX5_type_9 (by decide) (fun c12 => ?_) (fun c12 => ?_)
  · have hf := zk_f c12 hf
    refine lv_aload_n hx hb dX5_type_14 rfl (lv_at hl 0 rfl) ?_
    refine va_get (ci := 5) (v := .int v_md_length) (C := RX5) (T := TX5) (N := 29) hx hb hts inX5 hown hK hP 0 rfl rfl 0 (by decide) lk1 (fun _ h9 => h9) rfl dX5_type_15 ?_
    refine lv_iload_n hx hb dX5_type_18 rfl (lv_at hl 2 rfl) ?_
    refine lv_iadd hx hb dX5_type_19 ?_
    refine lv_sipush (v := (300 : Int32)) hx hb dX5_type_20 (by decide) ?_
    refine lv_icmp_le (tgt := 29) hx hb dX5_type_23 (by decide) (fun c11 => ?_) (fun c11 => ?_)
    · have hf := zk_t c11 hf
      refine lv_iload_n hx hb dX5_type_29 rfl (lv_at hl 2 rfl) ?_
      refine lv_iconst (v := (1 : Int32)) hx hb dX5_type_30 (by decide) ?_
      refine lv_isub hx hb dX5_type_31 ?_
      obtain ⟨y2, ey2, hf⟩ := zk_lt_s hf
      refine zk_topi ey2 ?_
      refine lv_istore (lv' := [(4, .int y2), (0, .ref a_md), (1, .long x0), (3, .int x1)]) hx hb dX5_type_32 hl (by decide) rfl (fun ls hl => ?_)
      have lp34 : ∀ (n : Nat) (w3 : Int32) (w4 : Int32) (w5 : Nat → Int32) (z34 : Int32 × Int32 × (Nat → Int32)) (H : Heap) (locs : List Loc) (ls : Array Slot), zl_X5_type_34 x0 n w3 w4 w5 = some z34 → va_P D vwCl [(a_md, .inr (5, [.int w4, .ref a_md_text, .int v_md_laws, .int v_md_sayers, .long v_md_there, .long v_md_question, .ref a_md_weight, .ref a_md_says, .ref a_md_cost, .int v_md_measure, .long v_md_trace, .int v_md_readLaws, .int v_md_readSayers, .long v_md_readThere, .ref a_md_readWeight, .ref a_md_readSays, .int v_md_begin, .int v_md_end, .int v_md_sort, .int v_md_open, .ref a_md_opened, .int v_md_level, .ref a_md_any, .ref a_md_all, .long v_md_said, .ref a_md_burdens, .ref a_md_best, .ref a_md_own, .ref a_md_truth])), (a_md_text, .inl (cB, 300, .inl w5))] H → va_D A [(a_md, .inr (5, [.int w4, .ref a_md_text, .int v_md_laws, .int v_md_sayers, .long v_md_there, .long v_md_question, .ref a_md_weight, .ref a_md_says, .ref a_md_cost, .int v_md_measure, .long v_md_trace, .int v_md_readLaws, .int v_md_readSayers, .long v_md_readThere, .ref a_md_readWeight, .ref a_md_readSays, .int v_md_begin, .int v_md_end, .int v_md_sort, .int v_md_open, .ref a_md_opened, .int v_md_level, .ref a_md_any, .ref a_md_all, .long v_md_said, .ref a_md_burdens, .ref a_md_best, .ref a_md_own, .ref a_md_truth])), (a_md_text, .inl (cB, 300, .inl w5))] → va_S A s.heap H locs → lv_has ls 5 [(0, .ref a_md), (1, .long x0), (3, .int x1), (4, .int w3)] → (∀ (H : Heap) (locs : List Loc) (ls : Array Slot), va_P D vwCl [(a_md, .inr (5, [.int z34.2.1, .ref a_md_text, .int v_md_laws, .int v_md_sayers, .long v_md_there, .long v_md_question, .ref a_md_weight, .ref a_md_says, .ref a_md_cost, .int v_md_measure, .long v_md_trace, .int v_md_readLaws, .int v_md_readSayers, .long v_md_readThere, .ref a_md_readWeight, .ref a_md_readSays, .int v_md_begin, .int v_md_end, .int v_md_sort, .int v_md_open, .ref a_md_opened, .int v_md_level, .ref a_md_any, .ref a_md_all, .long v_md_said, .ref a_md_burdens, .ref a_md_best, .ref a_md_own, .ref a_md_truth])), (a_md_text, .inl (cB, 300, .inl z34.2.2))] H → va_D A [(a_md, .inr (5, [.int z34.2.1, .ref a_md_text, .int v_md_laws, .int v_md_sayers, .long v_md_there, .long v_md_question, .ref a_md_weight, .ref a_md_says, .ref a_md_cost, .int v_md_measure, .long v_md_trace, .int v_md_readLaws, .int v_md_readSayers, .long v_md_readThere, .ref a_md_readWeight, .ref a_md_readSays, .int v_md_begin, .int v_md_end, .int v_md_sort, .int v_md_open, .ref a_md_opened, .int v_md_level, .ref a_md_any, .ref a_md_all, .long v_md_said, .ref a_md_burdens, .ref a_md_best, .ref a_md_own, .ref a_md_truth])), (a_md_text, .inl (cB, 300, .inl z34.2.2))] → va_S A s.heap H locs → lv_has ls 5 [(0, .ref a_md), (1, .long x0), (3, .int x1), (4, .int z34.1)] → W p l e R s m args below meth c H locs 0 0 Q (F0 m 73 ls [])) → W p l e R s m args below meth c H locs 0 0 Q (F0 m 34 ls []) := by
        intro n
        induction n with
        | zero => intro w3 w4 w5 z34 H locs ls hf; exact absurd (show none = some z34 from hf) (by simp)
        | succ n ih =>
          intro w3 w4 w5 z34 H locs ls hf hP hD hS hl hk
          rw [zl_X5_type_34] at hf
          refine lv_iload hx hb dX5_type_34 (lv_at hl 3 rfl) ?_
          refine lv_if_lt (tgt := 73) hx hb dX5_type_36 (by decide) (fun c9 => ?_) (fun c9 => ?_)
          · have hf := zk_t c9 hf
            obtain rfl := Option.some.inj hf
            exact hk _ _ _ hP hD hS (lv_sub hl [0, 1, 2, 3] rfl)
          · have hf := zk_f c9 hf
            refine lv_aload_n hx hb dX5_type_39 rfl (lv_at hl 0 rfl) ?_
            refine va_get (ci := 5) (v := .ref a_md_text) (C := RX5) (T := TX5) (N := 29) hx hb hts inX5 hown hK hP 0 rfl rfl 1 (by decide) lk3 (fun _ h9 => h9) rfl dX5_type_40 ?_
            refine lv_aload_n hx hb dX5_type_43 rfl (lv_at hl 0 rfl) ?_
            refine va_get (ci := 5) (v := .int w4) (C := RX5) (T := TX5) (N := 29) hx hb hts inX5 hown hK hP 0 rfl rfl 0 (by decide) lk1 (fun _ h9 => h9) rfl dX5_type_44 ?_
            refine lv_lload_n hx hb dX5_type_47 rfl (lv_at hl 1 rfl) ?_
            refine lv_bipush (v := (8 : Int32)) hx hb dX5_type_48 (by decide) ?_
            refine lv_iload hx hb dX5_type_50 (lv_at hl 3 rfl) ?_
            refine lv_imul hx hb dX5_type_52 ?_
            refine lv_lshr hx hb dX5_type_53 rfl ?_
            refine lv_l2i hx hb dX5_type_54 rfl ?_
            refine lv_i2b hx hb dX5_type_55 rfl ?_
            obtain ⟨g6, hf⟩ := zk_gd_s hf
            refine va_bast hx hb hK hP hD hS 1 2 rfl rfl (zk_in_s g6) dX5_type_56 (fun H locs hP hD hS => ?_)
            have hP : va_P D vwCl [(a_md, .inr (5, [.int w4, .ref a_md_text, .int v_md_laws, .int v_md_sayers, .long v_md_there, .long v_md_question, .ref a_md_weight, .ref a_md_says, .ref a_md_cost, .int v_md_measure, .long v_md_trace, .int v_md_readLaws, .int v_md_readSayers, .long v_md_readThere, .ref a_md_readWeight, .ref a_md_readSays, .int v_md_begin, .int v_md_end, .int v_md_sort, .int v_md_open, .ref a_md_opened, .int v_md_level, .ref a_md_any, .ref a_md_all, .long v_md_said, .ref a_md_burdens, .ref a_md_best, .ref a_md_own, .ref a_md_truth])), (a_md_text, .inl (cB, 300, .inl (upd w5 w4.toNatClampNeg (vp_nar .byte (((x0 >>> (((8 : Int32) * w3).toInt64 &&& 63)).toInt32).toInt8.toInt32)))))] H := hP
            have hD : va_D A [(a_md, .inr (5, [.int w4, .ref a_md_text, .int v_md_laws, .int v_md_sayers, .long v_md_there, .long v_md_question, .ref a_md_weight, .ref a_md_says, .ref a_md_cost, .int v_md_measure, .long v_md_trace, .int v_md_readLaws, .int v_md_readSayers, .long v_md_readThere, .ref a_md_readWeight, .ref a_md_readSays, .int v_md_begin, .int v_md_end, .int v_md_sort, .int v_md_open, .ref a_md_opened, .int v_md_level, .ref a_md_any, .ref a_md_all, .long v_md_said, .ref a_md_burdens, .ref a_md_best, .ref a_md_own, .ref a_md_truth])), (a_md_text, .inl (cB, 300, .inl (upd w5 w4.toNatClampNeg (vp_nar .byte (((x0 >>> (((8 : Int32) * w3).toInt64 &&& 63)).toInt32).toInt8.toInt32)))))] := hD
            refine lv_aload_n hx hb dX5_type_57 rfl (lv_at hl 0 rfl) ?_
            refine lv_dup hx hb dX5_type_58 rfl ?_
            refine va_get (ci := 5) (v := .int w4) (C := RX5) (T := TX5) (N := 29) hx hb hts inX5 hown hK hP 0 rfl rfl 0 (by decide) lk1 (fun _ h9 => h9) rfl dX5_type_59 ?_
            refine lv_iconst (v := (1 : Int32)) hx hb dX5_type_62 (by decide) ?_
            refine lv_iadd hx hb dX5_type_63 ?_
            obtain ⟨y7, ey7, hf⟩ := zk_lt_s hf
            refine zk_topi ey7 ?_
            refine va_put (ci := 5) (v := .int y7) (ty := .int) (C := RX5) (T := TX5) (N := 29) hx hb hts inX5 tyX5 tyX5_ok nmX5 hown hK hP hD hS 0 rfl rfl 0 (by decide) lk1 (fun _ h9 => h9) rfl (by decide +kernel) rfl rfl (Nat.le_of_ble_eq_true rfl) dX5_type_64 (fun H locs hP hD hS => ?_)
            have hP : va_P D vwCl [(a_md, .inr (5, [.int y7, .ref a_md_text, .int v_md_laws, .int v_md_sayers, .long v_md_there, .long v_md_question, .ref a_md_weight, .ref a_md_says, .ref a_md_cost, .int v_md_measure, .long v_md_trace, .int v_md_readLaws, .int v_md_readSayers, .long v_md_readThere, .ref a_md_readWeight, .ref a_md_readSays, .int v_md_begin, .int v_md_end, .int v_md_sort, .int v_md_open, .ref a_md_opened, .int v_md_level, .ref a_md_any, .ref a_md_all, .long v_md_said, .ref a_md_burdens, .ref a_md_best, .ref a_md_own, .ref a_md_truth])), (a_md_text, .inl (cB, 300, .inl (upd w5 w4.toNatClampNeg (vp_nar .byte (((x0 >>> (((8 : Int32) * w3).toInt64 &&& 63)).toInt32).toInt8.toInt32)))))] H := hP
            have hD : va_D A [(a_md, .inr (5, [.int y7, .ref a_md_text, .int v_md_laws, .int v_md_sayers, .long v_md_there, .long v_md_question, .ref a_md_weight, .ref a_md_says, .ref a_md_cost, .int v_md_measure, .long v_md_trace, .int v_md_readLaws, .int v_md_readSayers, .long v_md_readThere, .ref a_md_readWeight, .ref a_md_readSays, .int v_md_begin, .int v_md_end, .int v_md_sort, .int v_md_open, .ref a_md_opened, .int v_md_level, .ref a_md_any, .ref a_md_all, .long v_md_said, .ref a_md_burdens, .ref a_md_best, .ref a_md_own, .ref a_md_truth])), (a_md_text, .inl (cB, 300, .inl (upd w5 w4.toNatClampNeg (vp_nar .byte (((x0 >>> (((8 : Int32) * w3).toInt64 &&& 63)).toInt32).toInt8.toInt32)))))] := hD
            obtain ⟨y8, ey8, hf⟩ := zk_lt_s hf
            refine lv_iinc (v := y8) (lv' := [(4, .int y8), (0, .ref a_md), (1, .long x0), (3, .int x1)]) hx hb dX5_type_67 hl (k := 3) rfl (by rw [ey8]; rfl) (by decide) rfl (fun ls hl => ?_)
            refine lv_goto (tgt := 34) hx hb dX5_type_70 (by decide) ?_
            exact ih y8 y7 (upd w5 w4.toNatClampNeg (vp_nar .byte (((x0 >>> (((8 : Int32) * w3).toInt64 &&& 63)).toInt32).toInt8.toInt32))) _ _ _ _ hf hP hD hS (lv_sub hl [1, 2, 3, 0] rfl) hk
      obtain ⟨v10, hv10, hf⟩ := zk_ob hf
      refine lp34 zk_F y2 v_md_length f_md_text v10 _ _ _ hv10 hP hD hS (lv_sub hl [1, 2, 3, 0] rfl) ?_
      intro H locs ls hP hD hS hl
      refine lv_aload_n hx hb dX5_type_73 rfl (lv_at hl 0 rfl) ?_
      refine va_get (ci := 5) (v := .int v10.2.1) (C := RX5) (T := TX5) (N := 29) hx hb hts inX5 hown hK hP 0 rfl rfl 0 (by decide) lk1 (fun _ h9 => h9) rfl dX5_type_74 ?_
      obtain rfl := Option.some.inj hf
      exact hret trivial _ _ _ _ hP hD hS dX5_type_77
    · have hf := zk_f c11 hf
      refine lv_bipush (v := (-3 : Int32)) hx hb dX5_type_26 (by decide) ?_
      obtain rfl := Option.some.inj hf
      exact hret trivial _ _ _ _ hP hD hS dX5_type_28
  · have hf := zk_t c12 hf
    refine lv_iconst (v := (-1 : Int32)) hx hb dX5_type_12 (by decide) ?_
    obtain rfl := Option.some.inj hf
    exact hret trivial _ _ _ _ hP hD hS dX5_type_13
def zf_X5_clear (v_md_length : Int32) : Option (Int32 × Int32) :=
  some (v_md_length, (0 : Int32))
theorem hd_X5_clear : yX5_clear.cls = RX5 ∧ yX5_clear.cls ≠ "java/lang/invoke/MethodHandle" ∧ yX5_clear.cls ≠ "java/lang/invoke/VarHandle" ∧ (parseMethodDescriptor yX5_clear.desc).map (fun d => d.parameters.length) = some 0 := by decide +kernel
set_option maxHeartbeats 4000000 in
set_option maxRecDepth 100000 in
theorem zc_X5_clear (l : Launch) (D : va_G) (tL tO : Nat) (cI cJ cB cQ : ClassId) (a_md a_md_text a_md_weight a_md_says a_md_cost a_md_readWeight a_md_readSays a_md_opened a_md_any a_md_all a_md_burdens a_md_best a_md_own a_md_truth : Nat) (v_md_length : Int32) (v_md_laws : Int32) (v_md_sayers : Int32) (v_md_there : Int64) (v_md_question : Int64) (v_md_measure : Int32) (v_md_trace : Int64) (v_md_readLaws : Int32) (v_md_readSayers : Int32) (v_md_readThere : Int64) (v_md_begin : Int32) (v_md_end : Int32) (v_md_sort : Int32) (v_md_open : Int32) (v_md_level : Int32) (v_md_said : Int64) (z : Int32 × Int32) (hf : zf_X5_clear v_md_length = some z) : zk_CT l D tL tO (zk_ty cI cJ cB cQ) yX5_clear wsX5_clear 0 0 [.ref a_md] (some (.int z.1)) [(a_md, .inr (5, [.int v_md_length, .ref a_md_text, .int v_md_laws, .int v_md_sayers, .long v_md_there, .long v_md_question, .ref a_md_weight, .ref a_md_says, .ref a_md_cost, .int v_md_measure, .long v_md_trace, .int v_md_readLaws, .int v_md_readSayers, .long v_md_readThere, .ref a_md_readWeight, .ref a_md_readSays, .int v_md_begin, .int v_md_end, .int v_md_sort, .int v_md_open, .ref a_md_opened, .int v_md_level, .ref a_md_any, .ref a_md_all, .long v_md_said, .ref a_md_burdens, .ref a_md_best, .ref a_md_own, .ref a_md_truth]))] [(a_md, .inr (5, [.int z.2, .ref a_md_text, .int v_md_laws, .int v_md_sayers, .long v_md_there, .long v_md_question, .ref a_md_weight, .ref a_md_says, .ref a_md_cost, .int v_md_measure, .long v_md_trace, .int v_md_readLaws, .int v_md_readSayers, .long v_md_readThere, .ref a_md_readWeight, .ref a_md_readSays, .int v_md_begin, .int v_md_end, .int v_md_sort, .int v_md_open, .ref a_md_opened, .int v_md_level, .ref a_md_any, .ref a_md_all, .long v_md_said, .ref a_md_burdens, .ref a_md_best, .ref a_md_own, .ref a_md_truth]))] := by
  refine zk_of_i (cc := cX5_clear) (maxL := 2) (by decide) rfl (Nat.le_of_ble_eq_true rfl) ?_
  intro p e R s m args below meth c A Q ls hx hb hml hRf hRl hts hown hP hK hD hA hS hG hl hret
  have hl : lv_has ls 2 [(0, .ref a_md)] := hl
  have hown : s.vm.findClass RX5 = some m.cls := hown
  have hcs : 0 ≤ R.cells ∧ 0 ≤ R.slots := ⟨Nat.zero_le _, Nat.zero_le _⟩
  have lk0 := hts (.fieldLink RX5 70 "SayingsMergedModel" "length" "I") (by decide +kernel)
  have inX5 : ∀ w ∈ wsX50, w ∈ wsX5_clear := by decide +kernel
  unfold zf_X5_clear at hf
  refine lv_aload_n hx hb dX5_clear_0 rfl (lv_at hl 0 rfl) ?_
  refine va_get (ci := 5) (v := .int v_md_length) (C := RX5) (T := TX5) (N := 29) hx hb hts inX5 hown hK hP 0 rfl rfl 0 (by decide) lk0 (fun _ h9 => h9) rfl dX5_clear_1 ?_
  refine lv_istore_n (lv' := [(1, .int v_md_length), (0, .ref a_md)]) hx hb dX5_clear_4 rfl hl (by decide) rfl (fun ls hl => ?_)
  refine lv_aload_n hx hb dX5_clear_5 rfl (lv_at hl 1 rfl) ?_
  refine lv_iconst (v := (0 : Int32)) hx hb dX5_clear_6 (by decide) ?_
  refine va_put (ci := 5) (v := .int (0 : Int32)) (ty := .int) (C := RX5) (T := TX5) (N := 29) hx hb hts inX5 tyX5 tyX5_ok nmX5 hown hK hP hD hS 0 rfl rfl 0 (by decide) lk0 (fun _ h9 => h9) rfl (by decide +kernel) rfl rfl (Nat.le_of_ble_eq_true rfl) dX5_clear_7 (fun H locs hP hD hS => ?_)
  have hP : va_P D vwCl [(a_md, .inr (5, [.int (0 : Int32), .ref a_md_text, .int v_md_laws, .int v_md_sayers, .long v_md_there, .long v_md_question, .ref a_md_weight, .ref a_md_says, .ref a_md_cost, .int v_md_measure, .long v_md_trace, .int v_md_readLaws, .int v_md_readSayers, .long v_md_readThere, .ref a_md_readWeight, .ref a_md_readSays, .int v_md_begin, .int v_md_end, .int v_md_sort, .int v_md_open, .ref a_md_opened, .int v_md_level, .ref a_md_any, .ref a_md_all, .long v_md_said, .ref a_md_burdens, .ref a_md_best, .ref a_md_own, .ref a_md_truth]))] H := hP
  have hD : va_D A [(a_md, .inr (5, [.int (0 : Int32), .ref a_md_text, .int v_md_laws, .int v_md_sayers, .long v_md_there, .long v_md_question, .ref a_md_weight, .ref a_md_says, .ref a_md_cost, .int v_md_measure, .long v_md_trace, .int v_md_readLaws, .int v_md_readSayers, .long v_md_readThere, .ref a_md_readWeight, .ref a_md_readSays, .int v_md_begin, .int v_md_end, .int v_md_sort, .int v_md_open, .ref a_md_opened, .int v_md_level, .ref a_md_any, .ref a_md_all, .long v_md_said, .ref a_md_burdens, .ref a_md_best, .ref a_md_own, .ref a_md_truth]))] := hD
  refine lv_iload_n hx hb dX5_clear_10 rfl (lv_at hl 0 rfl) ?_
  obtain rfl := Option.some.inj hf
  exact hret trivial _ _ _ _ hP hD hS dX5_clear_11
def zf_X5_isLow (x0 : Int32) (v_md_length : Int32) (f_md_text : Nat → Int32) : Option (Int32) :=
  if v_md_length ≤ x0 then
  some (0 : Int32)
  else
  zk_gd (zk_in x0 300)
  ((zf_X5_in ((f_md_text x0.toNatClampNeg).toInt64) (97 : Int64) (122 : Int64)).bind (fun v2 =>
  if v2 = 0 then
  some (0 : Int32)
  else
  some (1 : Int32)))
theorem hd_X5_isLow : yX5_isLow.cls = RX5 ∧ yX5_isLow.cls ≠ "java/lang/invoke/MethodHandle" ∧ yX5_isLow.cls ≠ "java/lang/invoke/VarHandle" ∧ (parseMethodDescriptor yX5_isLow.desc).map (fun d => d.parameters.length) = some 1 := by decide +kernel
set_option maxHeartbeats 4000000 in
set_option maxRecDepth 100000 in
theorem zc_X5_isLow (l : Launch) (D : va_G) (tL tO : Nat) (cI cJ cB cQ : ClassId) (a_md a_md_text a_md_weight a_md_says a_md_cost a_md_readWeight a_md_readSays a_md_opened a_md_any a_md_all a_md_burdens a_md_best a_md_own a_md_truth : Nat) (x0 : Int32) (v_md_length : Int32) (v_md_laws : Int32) (v_md_sayers : Int32) (v_md_there : Int64) (v_md_question : Int64) (v_md_measure : Int32) (v_md_trace : Int64) (v_md_readLaws : Int32) (v_md_readSayers : Int32) (v_md_readThere : Int64) (v_md_begin : Int32) (v_md_end : Int32) (v_md_sort : Int32) (v_md_open : Int32) (v_md_level : Int32) (v_md_said : Int64) (f_md_text : Nat → Int32) (z : Int32) (hf : zf_X5_isLow x0 v_md_length f_md_text = some z) : zk_CT l D tL tO (zk_ty cI cJ cB cQ) yX5_isLow wsX5_isLow 1 25 [.ref a_md, .int x0] (some (.int z)) [(a_md, .inr (5, [.int v_md_length, .ref a_md_text, .int v_md_laws, .int v_md_sayers, .long v_md_there, .long v_md_question, .ref a_md_weight, .ref a_md_says, .ref a_md_cost, .int v_md_measure, .long v_md_trace, .int v_md_readLaws, .int v_md_readSayers, .long v_md_readThere, .ref a_md_readWeight, .ref a_md_readSays, .int v_md_begin, .int v_md_end, .int v_md_sort, .int v_md_open, .ref a_md_opened, .int v_md_level, .ref a_md_any, .ref a_md_all, .long v_md_said, .ref a_md_burdens, .ref a_md_best, .ref a_md_own, .ref a_md_truth])), (a_md_text, .inl (cB, 300, .inl f_md_text))] [(a_md, .inr (5, [.int v_md_length, .ref a_md_text, .int v_md_laws, .int v_md_sayers, .long v_md_there, .long v_md_question, .ref a_md_weight, .ref a_md_says, .ref a_md_cost, .int v_md_measure, .long v_md_trace, .int v_md_readLaws, .int v_md_readSayers, .long v_md_readThere, .ref a_md_readWeight, .ref a_md_readSays, .int v_md_begin, .int v_md_end, .int v_md_sort, .int v_md_open, .ref a_md_opened, .int v_md_level, .ref a_md_any, .ref a_md_all, .long v_md_said, .ref a_md_burdens, .ref a_md_best, .ref a_md_own, .ref a_md_truth])), (a_md_text, .inl (cB, 300, .inl f_md_text))] := by
  refine zk_of_z (cc := cX5_isLow) (maxL := 2) (by decide) rfl (Nat.le_of_ble_eq_true rfl) ?_
  intro p e R s m args below meth c A Q ls hx hb hml hRf hRl hts hown hP hK hD hA hS hG hl hret
  have hl : lv_has ls 2 [(0, .ref a_md), (1, .int x0)] := hl
  have hown : s.vm.findClass RX5 = some m.cls := hown
  have hcs : 0 ≤ R.cells ∧ 0 ≤ R.slots := ⟨Nat.zero_le _, Nat.zero_le _⟩
  have lk0 := hts (.fieldLink RX5 70 "SayingsMergedModel" "length" "I") (by decide +kernel)
  have inX5 : ∀ w ∈ wsX50, w ∈ wsX5_isLow := by decide +kernel
  have lk2 := hts (.fieldLink RX5 7 "SayingsMergedModel" "text" "[B") (by decide +kernel)
  have lk3 := hts (.constantLong RX5 74 (97)) (by decide +kernel)
  have lk4 := hts (.constantLong RX5 76 (122)) (by decide +kernel)
  unfold zf_X5_isLow at hf
  refine lv_iload_n hx hb dX5_isLow_0 rfl (lv_at hl 1 rfl) ?_
  refine lv_aload_n hx hb dX5_isLow_1 rfl (lv_at hl 0 rfl) ?_
  refine va_get (ci := 5) (v := .int v_md_length) (C := RX5) (T := TX5) (N := 29) hx hb hts inX5 hown hK hP 0 rfl rfl 0 (by decide) lk0 (fun _ h9 => h9) rfl dX5_isLow_2 ?_
  refine lv_icmp_ge (tgt := 31) hx hb dX5_isLow_5 (by decide) (fun c4 => ?_) (fun c4 => ?_)
  · have hf := zk_t c4 hf
    refine lv_iconst (v := (0 : Int32)) hx hb dX5_isLow_31 (by decide) ?_
    obtain rfl := Option.some.inj hf
    exact hret rfl _ _ _ _ hP hD hS dX5_isLow_32
  · have hf := zk_f c4 hf
    refine lv_aload_n hx hb dX5_isLow_8 rfl (lv_at hl 0 rfl) ?_
    refine va_get (ci := 5) (v := .ref a_md_text) (C := RX5) (T := TX5) (N := 29) hx hb hts inX5 hown hK hP 0 rfl rfl 1 (by decide) lk2 (fun _ h9 => h9) rfl dX5_isLow_9 ?_
    refine lv_iload_n hx hb dX5_isLow_12 rfl (lv_at hl 1 rfl) ?_
    obtain ⟨g1, hf⟩ := zk_gd_s hf
    refine va_bald hx hb hK hP 1 2 rfl rfl (zk_in_s g1) dX5_isLow_13 ?_
    refine lv_i2l hx hb dX5_isLow_14 rfl ?_
    refine lv_ldc2 hx hb hown lk3 dX5_isLow_15 ?_
    refine lv_ldc2 hx hb hown lk4 dX5_isLow_18 ?_
    obtain ⟨v2, hv2, hf⟩ := zk_ob hf
    refine zk_goR (zk_S (As := [.long ((f_md_text x0.toNatClampNeg).toInt64), .long (97 : Int64), .long (122 : Int64)]) (rest := []) hx hb hml hown hts hK hG hP hD hS hA gX5_isLow_X5_in rfl hd_X5_in (Nat.le_trans (Nat.le_of_ble_eq_true rfl) hRf) (Nat.le_trans (Nat.le_of_ble_eq_true rfl) hRl) hcs (zc_X5_in l D tL tO cI cJ cB cQ ((f_md_text x0.toNatClampNeg).toInt64) (97 : Int64) (122 : Int64) v2 hv2) hl.1 rfl rfl (Nat.le_of_ble_eq_true rfl) dX5_isLow_21 [] rfl rfl) hP hD hS hA [] rfl (fun H locs hP hS => ?_)
    refine lv_if_eq (tgt := 31) hx hb dX5_isLow_24 (by decide) (fun c3 => ?_) (fun c3 => ?_)
    · have hf := zk_t c3 hf
      refine lv_iconst (v := (0 : Int32)) hx hb dX5_isLow_31 (by decide) ?_
      obtain rfl := Option.some.inj hf
      exact hret rfl _ _ _ _ hP hD hS dX5_isLow_32
    · have hf := zk_f c3 hf
      refine lv_iconst (v := (1 : Int32)) hx hb dX5_isLow_27 (by decide) ?_
      refine lv_goto (tgt := 32) hx hb dX5_isLow_28 (by decide) ?_
      obtain rfl := Option.some.inj hf
      exact hret rfl _ _ _ _ hP hD hS dX5_isLow_32
def zf_X5_isWord (x0 : Int32) (x1 : Int32) (x2 : Int32) (v_md_begin : Int32) (v_md_end : Int32) (f_md_text : Nat → Int32) : Option (Int32) :=
  if (v_md_end - v_md_begin) = (3 : Int32) then
  zk_gd (zk_in v_md_begin 300)
  (if (f_md_text v_md_begin.toNatClampNeg) = x0 then
  zk_gd (zk_in (v_md_begin + (1 : Int32)) 300)
  (if (f_md_text (v_md_begin + (1 : Int32)).toNatClampNeg) = x1 then
  zk_gd (zk_in (v_md_begin + (2 : Int32)) 300)
  (if (f_md_text (v_md_begin + (2 : Int32)).toNatClampNeg) = x2 then
  some (1 : Int32)
  else
  some (0 : Int32))
  else
  some (0 : Int32))
  else
  some (0 : Int32))
  else
  some (0 : Int32)
theorem hd_X5_isWord : yX5_isWord.cls = RX5 ∧ yX5_isWord.cls ≠ "java/lang/invoke/MethodHandle" ∧ yX5_isWord.cls ≠ "java/lang/invoke/VarHandle" ∧ (parseMethodDescriptor yX5_isWord.desc).map (fun d => d.parameters.length) = some 3 := by decide +kernel
set_option maxHeartbeats 4000000 in
set_option maxRecDepth 100000 in
theorem zc_X5_isWord (l : Launch) (D : va_G) (tL tO : Nat) (cI cJ cB cQ : ClassId) (a_md a_md_text a_md_weight a_md_says a_md_cost a_md_readWeight a_md_readSays a_md_opened a_md_any a_md_all a_md_burdens a_md_best a_md_own a_md_truth : Nat) (x0 : Int32) (x1 : Int32) (x2 : Int32) (v_md_length : Int32) (v_md_laws : Int32) (v_md_sayers : Int32) (v_md_there : Int64) (v_md_question : Int64) (v_md_measure : Int32) (v_md_trace : Int64) (v_md_readLaws : Int32) (v_md_readSayers : Int32) (v_md_readThere : Int64) (v_md_begin : Int32) (v_md_end : Int32) (v_md_sort : Int32) (v_md_open : Int32) (v_md_level : Int32) (v_md_said : Int64) (f_md_text : Nat → Int32) (z : Int32) (hf : zf_X5_isWord x0 x1 x2 v_md_begin v_md_end f_md_text = some z) : zk_CT l D tL tO (zk_ty cI cJ cB cQ) yX5_isWord wsX5_isWord 0 0 [.ref a_md, .int x0, .int x1, .int x2] (some (.int z)) [(a_md, .inr (5, [.int v_md_length, .ref a_md_text, .int v_md_laws, .int v_md_sayers, .long v_md_there, .long v_md_question, .ref a_md_weight, .ref a_md_says, .ref a_md_cost, .int v_md_measure, .long v_md_trace, .int v_md_readLaws, .int v_md_readSayers, .long v_md_readThere, .ref a_md_readWeight, .ref a_md_readSays, .int v_md_begin, .int v_md_end, .int v_md_sort, .int v_md_open, .ref a_md_opened, .int v_md_level, .ref a_md_any, .ref a_md_all, .long v_md_said, .ref a_md_burdens, .ref a_md_best, .ref a_md_own, .ref a_md_truth])), (a_md_text, .inl (cB, 300, .inl f_md_text))] [(a_md, .inr (5, [.int v_md_length, .ref a_md_text, .int v_md_laws, .int v_md_sayers, .long v_md_there, .long v_md_question, .ref a_md_weight, .ref a_md_says, .ref a_md_cost, .int v_md_measure, .long v_md_trace, .int v_md_readLaws, .int v_md_readSayers, .long v_md_readThere, .ref a_md_readWeight, .ref a_md_readSays, .int v_md_begin, .int v_md_end, .int v_md_sort, .int v_md_open, .ref a_md_opened, .int v_md_level, .ref a_md_any, .ref a_md_all, .long v_md_said, .ref a_md_burdens, .ref a_md_best, .ref a_md_own, .ref a_md_truth])), (a_md_text, .inl (cB, 300, .inl f_md_text))] := by
  refine zk_of_z (cc := cX5_isWord) (maxL := 4) (by decide) rfl (Nat.le_of_ble_eq_true rfl) ?_
  intro p e R s m args below meth c A Q ls hx hb hml hRf hRl hts hown hP hK hD hA hS hG hl hret
  have hl : lv_has ls 4 [(0, .ref a_md), (1, .int x0), (2, .int x1), (3, .int x2)] := hl
  have hown : s.vm.findClass RX5 = some m.cls := hown
  have hcs : 0 ≤ R.cells ∧ 0 ≤ R.slots := ⟨Nat.zero_le _, Nat.zero_le _⟩
  have lk0 := hts (.fieldLink RX5 78 "SayingsMergedModel" "end" "I") (by decide +kernel)
  have inX5 : ∀ w ∈ wsX50, w ∈ wsX5_isWord := by decide +kernel
  have lk2 := hts (.fieldLink RX5 81 "SayingsMergedModel" "begin" "I") (by decide +kernel)
  have lk3 := hts (.fieldLink RX5 7 "SayingsMergedModel" "text" "[B") (by decide +kernel)
  unfold zf_X5_isWord at hf
  refine lv_aload_n hx hb dX5_isWord_0 rfl (lv_at hl 0 rfl) ?_
  refine va_get (ci := 5) (v := .int v_md_end) (C := RX5) (T := TX5) (N := 29) hx hb hts inX5 hown hK hP 0 rfl rfl 17 (by decide) lk0 (fun _ h9 => h9) rfl dX5_isWord_1 ?_
  refine lv_aload_n hx hb dX5_isWord_4 rfl (lv_at hl 0 rfl) ?_
  refine va_get (ci := 5) (v := .int v_md_begin) (C := RX5) (T := TX5) (N := 29) hx hb hts inX5 hown hK hP 0 rfl rfl 16 (by decide) lk2 (fun _ h9 => h9) rfl dX5_isWord_5 ?_
  refine lv_isub hx hb dX5_isWord_8 ?_
  refine lv_iconst (v := (3 : Int32)) hx hb dX5_isWord_9 (by decide) ?_
  refine lv_icmp_ne (tgt := 60) hx hb dX5_isWord_10 (by decide) (fun c7 => ?_) (fun c7 => ?_)
  · have hf := zk_f c7 hf
    refine lv_iconst (v := (0 : Int32)) hx hb dX5_isWord_60 (by decide) ?_
    obtain rfl := Option.some.inj hf
    exact hret rfl _ _ _ _ hP hD hS dX5_isWord_61
  · have hf := zk_t c7 hf
    refine lv_aload_n hx hb dX5_isWord_13 rfl (lv_at hl 0 rfl) ?_
    refine va_get (ci := 5) (v := .ref a_md_text) (C := RX5) (T := TX5) (N := 29) hx hb hts inX5 hown hK hP 0 rfl rfl 1 (by decide) lk3 (fun _ h9 => h9) rfl dX5_isWord_14 ?_
    refine lv_aload_n hx hb dX5_isWord_17 rfl (lv_at hl 0 rfl) ?_
    refine va_get (ci := 5) (v := .int v_md_begin) (C := RX5) (T := TX5) (N := 29) hx hb hts inX5 hown hK hP 0 rfl rfl 16 (by decide) lk2 (fun _ h9 => h9) rfl dX5_isWord_18 ?_
    obtain ⟨g1, hf⟩ := zk_gd_s hf
    refine va_bald hx hb hK hP 1 2 rfl rfl (zk_in_s g1) dX5_isWord_21 ?_
    refine lv_iload_n hx hb dX5_isWord_22 rfl (lv_at hl 1 rfl) ?_
    refine lv_icmp_ne (tgt := 60) hx hb dX5_isWord_23 (by decide) (fun c6 => ?_) (fun c6 => ?_)
    · have hf := zk_f c6 hf
      refine lv_iconst (v := (0 : Int32)) hx hb dX5_isWord_60 (by decide) ?_
      obtain rfl := Option.some.inj hf
      exact hret rfl _ _ _ _ hP hD hS dX5_isWord_61
    · have hf := zk_t c6 hf
      refine lv_aload_n hx hb dX5_isWord_26 rfl (lv_at hl 0 rfl) ?_
      refine va_get (ci := 5) (v := .ref a_md_text) (C := RX5) (T := TX5) (N := 29) hx hb hts inX5 hown hK hP 0 rfl rfl 1 (by decide) lk3 (fun _ h9 => h9) rfl dX5_isWord_27 ?_
      refine lv_aload_n hx hb dX5_isWord_30 rfl (lv_at hl 0 rfl) ?_
      refine va_get (ci := 5) (v := .int v_md_begin) (C := RX5) (T := TX5) (N := 29) hx hb hts inX5 hown hK hP 0 rfl rfl 16 (by decide) lk2 (fun _ h9 => h9) rfl dX5_isWord_31 ?_
      refine lv_iconst (v := (1 : Int32)) hx hb dX5_isWord_34 (by decide) ?_
      refine lv_iadd hx hb dX5_isWord_35 ?_
      obtain ⟨g2, hf⟩ := zk_gd_s hf
      refine va_bald hx hb hK hP 1 2 rfl rfl (zk_in_s g2) dX5_isWord_36 ?_
      refine lv_iload_n hx hb dX5_isWord_37 rfl (lv_at hl 2 rfl) ?_
      refine lv_icmp_ne (tgt := 60) hx hb dX5_isWord_38 (by decide) (fun c5 => ?_) (fun c5 => ?_)
      · have hf := zk_f c5 hf
        refine lv_iconst (v := (0 : Int32)) hx hb dX5_isWord_60 (by decide) ?_
        obtain rfl := Option.some.inj hf
        exact hret rfl _ _ _ _ hP hD hS dX5_isWord_61
      · have hf := zk_t c5 hf
        refine lv_aload_n hx hb dX5_isWord_41 rfl (lv_at hl 0 rfl) ?_
        refine va_get (ci := 5) (v := .ref a_md_text) (C := RX5) (T := TX5) (N := 29) hx hb hts inX5 hown hK hP 0 rfl rfl 1 (by decide) lk3 (fun _ h9 => h9) rfl dX5_isWord_42 ?_
        refine lv_aload_n hx hb dX5_isWord_45 rfl (lv_at hl 0 rfl) ?_
        refine va_get (ci := 5) (v := .int v_md_begin) (C := RX5) (T := TX5) (N := 29) hx hb hts inX5 hown hK hP 0 rfl rfl 16 (by decide) lk2 (fun _ h9 => h9) rfl dX5_isWord_46 ?_
        refine lv_iconst (v := (2 : Int32)) hx hb dX5_isWord_49 (by decide) ?_
        refine lv_iadd hx hb dX5_isWord_50 ?_
        obtain ⟨g3, hf⟩ := zk_gd_s hf
        refine va_bald hx hb hK hP 1 2 rfl rfl (zk_in_s g3) dX5_isWord_51 ?_
        refine lv_iload_n hx hb dX5_isWord_52 rfl (lv_at hl 3 rfl) ?_
        refine lv_icmp_ne (tgt := 60) hx hb dX5_isWord_53 (by decide) (fun c4 => ?_) (fun c4 => ?_)
        · have hf := zk_f c4 hf
          refine lv_iconst (v := (0 : Int32)) hx hb dX5_isWord_60 (by decide) ?_
          obtain rfl := Option.some.inj hf
          exact hret rfl _ _ _ _ hP hD hS dX5_isWord_61
        · have hf := zk_t c4 hf
          refine lv_iconst (v := (1 : Int32)) hx hb dX5_isWord_56 (by decide) ?_
          refine lv_goto (tgt := 61) hx hb dX5_isWord_57 (by decide) ?_
          obtain rfl := Option.some.inj hf
          exact hret rfl _ _ _ _ hP hD hS dX5_isWord_61
def zl_X5_token_8 (v_md_length : Int32) (f_md_text : Nat → Int32) : Nat → (Int32) → Option (Int32)
  | 0, _ => none
  | n + 1, w1 =>
    if v_md_length ≤ w1 then
    some w1
    else
    zk_gd (zk_in w1 300)
    (if (f_md_text w1.toNatClampNeg) = (32 : Int32) then
    zk_lt (w1 + (1 : Int32)) (fun y3 =>
    zl_X5_token_8 v_md_length f_md_text n y3)
    else
    some w1)
def zl_X5_token_92 (v_md_length : Int32) (f_md_text : Nat → Int32) : Nat → (Int32) → Option (Int32)
  | 0, _ => none
  | n + 1, w22 =>
    (zf_X5_isLow w22 v_md_length f_md_text).bind (fun v23 =>
    if v23 = 0 then
    some w22
    else
    zk_lt (w22 + (1 : Int32)) (fun y24 =>
    zl_X5_token_92 v_md_length f_md_text n y24))
def zf_X5_token (v_md_length : Int32) (v_md_end : Int32) (f_md_text : Nat → Int32) : Option (Int32 × Int32 × Int32) :=
  (zl_X5_token_8 v_md_length f_md_text zk_F v_md_end).bind (fun v6 =>
  if v6 = v_md_length then
  some (v6, v6, (0 : Int32))
  else
  zk_gd (zk_in v6 300)
  (zk_lt (f_md_text v6.toNatClampNeg) (fun y8 =>
  (zf_X5_isLow v6 v_md_length f_md_text).bind (fun v9 =>
  if v9 = 0 then
  (zf_X5_in y8.toInt64 (48 : Int64) (57 : Int64)).bind (fun v10 =>
  (if v10 = 0 then
  if y8 = (59 : Int32) then
  some (1 : Int32)
  else
  if y8 = (124 : Int32) then
  some (1 : Int32)
  else
  if y8 = (38 : Int32) then
  some (1 : Int32)
  else
  if y8 = (33 : Int32) then
  some (1 : Int32)
  else
  if y8 = (40 : Int32) then
  some (1 : Int32)
  else
  if y8 = (41 : Int32) then
  some (1 : Int32)
  else
  some (0 : Int32)
  else
  some (1 : Int32)).bind (fun v11 =>
  (if v11 = 0 then
  some (1 : Int32)
  else
  some y8).bind (fun v12 =>
  zk_lt (v6 + (1 : Int32)) (fun y13 =>
  some (v6, y13, v12)))))
  else
  (zl_X5_token_92 v_md_length f_md_text zk_F v6).bind (fun v26 =>
  (zf_X5_isWord (108 : Int32) (97 : Int32) (119 : Int32) v6 v26 f_md_text).bind (fun v27 =>
  if v27 = 0 then
  (zf_X5_isWord (115 : Int32) (97 : Int32) (121 : Int32) v6 v26 f_md_text).bind (fun v28 =>
  if v28 = 0 then
  if (v26 - v6) = (1 : Int32) then
  if (102 : Int32) < y8 then
  some (v6, v26, (1 : Int32))
  else
  some (v6, v26, y8)
  else
  some (v6, v26, (1 : Int32))
  else
  some (v6, v26, (83 : Int32)))
  else
  some (v6, v26, (76 : Int32))))))))
theorem hd_X5_token : yX5_token.cls = RX5 ∧ yX5_token.cls ≠ "java/lang/invoke/MethodHandle" ∧ yX5_token.cls ≠ "java/lang/invoke/VarHandle" ∧ (parseMethodDescriptor yX5_token.desc).map (fun d => d.parameters.length) = some 0 := by decide +kernel
set_option maxHeartbeats 4000000 in
set_option maxRecDepth 100000 in
theorem zc_X5_token (l : Launch) (D : va_G) (tL tO : Nat) (cI cJ cB cQ : ClassId) (a_md a_md_text a_md_weight a_md_says a_md_cost a_md_readWeight a_md_readSays a_md_opened a_md_any a_md_all a_md_burdens a_md_best a_md_own a_md_truth : Nat) (v_md_length : Int32) (v_md_laws : Int32) (v_md_sayers : Int32) (v_md_there : Int64) (v_md_question : Int64) (v_md_measure : Int32) (v_md_trace : Int64) (v_md_readLaws : Int32) (v_md_readSayers : Int32) (v_md_readThere : Int64) (v_md_begin : Int32) (v_md_end : Int32) (v_md_sort : Int32) (v_md_open : Int32) (v_md_level : Int32) (v_md_said : Int64) (f_md_text : Nat → Int32) (z : Int32 × Int32 × Int32) (hf : zf_X5_token v_md_length v_md_end f_md_text = some z) : zk_CT l D tL tO (zk_ty cI cJ cB cQ) yX5_token wsX5_token 2 46 [.ref a_md] none [(a_md, .inr (5, [.int v_md_length, .ref a_md_text, .int v_md_laws, .int v_md_sayers, .long v_md_there, .long v_md_question, .ref a_md_weight, .ref a_md_says, .ref a_md_cost, .int v_md_measure, .long v_md_trace, .int v_md_readLaws, .int v_md_readSayers, .long v_md_readThere, .ref a_md_readWeight, .ref a_md_readSays, .int v_md_begin, .int v_md_end, .int v_md_sort, .int v_md_open, .ref a_md_opened, .int v_md_level, .ref a_md_any, .ref a_md_all, .long v_md_said, .ref a_md_burdens, .ref a_md_best, .ref a_md_own, .ref a_md_truth])), (a_md_text, .inl (cB, 300, .inl f_md_text))] [(a_md, .inr (5, [.int v_md_length, .ref a_md_text, .int v_md_laws, .int v_md_sayers, .long v_md_there, .long v_md_question, .ref a_md_weight, .ref a_md_says, .ref a_md_cost, .int v_md_measure, .long v_md_trace, .int v_md_readLaws, .int v_md_readSayers, .long v_md_readThere, .ref a_md_readWeight, .ref a_md_readSays, .int z.1, .int z.2.1, .int z.2.2, .int v_md_open, .ref a_md_opened, .int v_md_level, .ref a_md_any, .ref a_md_all, .long v_md_said, .ref a_md_burdens, .ref a_md_best, .ref a_md_own, .ref a_md_truth])), (a_md_text, .inl (cB, 300, .inl f_md_text))] := by
  refine zk_of_v (cc := cX5_token) (maxL := 3) (by decide) rfl (Nat.le_of_ble_eq_true rfl) ?_
  intro p e R s m args below meth c A Q ls hx hb hml hRf hRl hts hown hP hK hD hA hS hG hl hret
  have hl : lv_has ls 3 [(0, .ref a_md)] := hl
  have hown : s.vm.findClass RX5 = some m.cls := hown
  have hcs : 0 ≤ R.cells ∧ 0 ≤ R.slots := ⟨Nat.zero_le _, Nat.zero_le _⟩
  have lk0 := hts (.fieldLink RX5 78 "SayingsMergedModel" "end" "I") (by decide +kernel)
  have inX5 : ∀ w ∈ wsX50, w ∈ wsX5_token := by decide +kernel
  have lk2 := hts (.fieldLink RX5 81 "SayingsMergedModel" "begin" "I") (by decide +kernel)
  have lk3 := hts (.fieldLink RX5 70 "SayingsMergedModel" "length" "I") (by decide +kernel)
  have lk4 := hts (.fieldLink RX5 7 "SayingsMergedModel" "text" "[B") (by decide +kernel)
  have lk5 := hts (.constantLong RX5 95 (48)) (by decide +kernel)
  have lk6 := hts (.constantLong RX5 97 (57)) (by decide +kernel)
  have lk7 := hts (.fieldLink RX5 84 "SayingsMergedModel" "sort" "I") (by decide +kernel)
  unfold zf_X5_token at hf
  refine lv_aload_n hx hb dX5_token_0 rfl (lv_at hl 0 rfl) ?_
  refine lv_aload_n hx hb dX5_token_1 rfl (lv_at hl 0 rfl) ?_
  refine va_get (ci := 5) (v := .int v_md_end) (C := RX5) (T := TX5) (N := 29) hx hb hts inX5 hown hK hP 0 rfl rfl 17 (by decide) lk0 (fun _ h9 => h9) rfl dX5_token_2 ?_
  refine va_put (ci := 5) (v := .int v_md_end) (ty := .int) (C := RX5) (T := TX5) (N := 29) hx hb hts inX5 tyX5 tyX5_ok nmX5 hown hK hP hD hS 0 rfl rfl 16 (by decide) lk2 (fun _ h9 => h9) rfl (by decide +kernel) rfl rfl (Nat.le_of_ble_eq_true rfl) dX5_token_5 (fun H locs hP hD hS => ?_)
  have hP : va_P D vwCl [(a_md, .inr (5, [.int v_md_length, .ref a_md_text, .int v_md_laws, .int v_md_sayers, .long v_md_there, .long v_md_question, .ref a_md_weight, .ref a_md_says, .ref a_md_cost, .int v_md_measure, .long v_md_trace, .int v_md_readLaws, .int v_md_readSayers, .long v_md_readThere, .ref a_md_readWeight, .ref a_md_readSays, .int v_md_end, .int v_md_end, .int v_md_sort, .int v_md_open, .ref a_md_opened, .int v_md_level, .ref a_md_any, .ref a_md_all, .long v_md_said, .ref a_md_burdens, .ref a_md_best, .ref a_md_own, .ref a_md_truth])), (a_md_text, .inl (cB, 300, .inl f_md_text))] H := hP
  have hD : va_D A [(a_md, .inr (5, [.int v_md_length, .ref a_md_text, .int v_md_laws, .int v_md_sayers, .long v_md_there, .long v_md_question, .ref a_md_weight, .ref a_md_says, .ref a_md_cost, .int v_md_measure, .long v_md_trace, .int v_md_readLaws, .int v_md_readSayers, .long v_md_readThere, .ref a_md_readWeight, .ref a_md_readSays, .int v_md_end, .int v_md_end, .int v_md_sort, .int v_md_open, .ref a_md_opened, .int v_md_level, .ref a_md_any, .ref a_md_all, .long v_md_said, .ref a_md_burdens, .ref a_md_best, .ref a_md_own, .ref a_md_truth])), (a_md_text, .inl (cB, 300, .inl f_md_text))] := hD
  have lp8 : ∀ (n : Nat) (w1 : Int32) (z8 : Int32) (H : Heap) (locs : List Loc) (ls : Array Slot), zl_X5_token_8 v_md_length f_md_text n w1 = some z8 → va_P D vwCl [(a_md, .inr (5, [.int v_md_length, .ref a_md_text, .int v_md_laws, .int v_md_sayers, .long v_md_there, .long v_md_question, .ref a_md_weight, .ref a_md_says, .ref a_md_cost, .int v_md_measure, .long v_md_trace, .int v_md_readLaws, .int v_md_readSayers, .long v_md_readThere, .ref a_md_readWeight, .ref a_md_readSays, .int w1, .int v_md_end, .int v_md_sort, .int v_md_open, .ref a_md_opened, .int v_md_level, .ref a_md_any, .ref a_md_all, .long v_md_said, .ref a_md_burdens, .ref a_md_best, .ref a_md_own, .ref a_md_truth])), (a_md_text, .inl (cB, 300, .inl f_md_text))] H → va_D A [(a_md, .inr (5, [.int v_md_length, .ref a_md_text, .int v_md_laws, .int v_md_sayers, .long v_md_there, .long v_md_question, .ref a_md_weight, .ref a_md_says, .ref a_md_cost, .int v_md_measure, .long v_md_trace, .int v_md_readLaws, .int v_md_readSayers, .long v_md_readThere, .ref a_md_readWeight, .ref a_md_readSays, .int w1, .int v_md_end, .int v_md_sort, .int v_md_open, .ref a_md_opened, .int v_md_level, .ref a_md_any, .ref a_md_all, .long v_md_said, .ref a_md_burdens, .ref a_md_best, .ref a_md_own, .ref a_md_truth])), (a_md_text, .inl (cB, 300, .inl f_md_text))] → va_S A s.heap H locs → lv_has ls 3 [(0, .ref a_md)] → (∀ (H : Heap) (locs : List Loc) (ls : Array Slot), va_P D vwCl [(a_md, .inr (5, [.int v_md_length, .ref a_md_text, .int v_md_laws, .int v_md_sayers, .long v_md_there, .long v_md_question, .ref a_md_weight, .ref a_md_says, .ref a_md_cost, .int v_md_measure, .long v_md_trace, .int v_md_readLaws, .int v_md_readSayers, .long v_md_readThere, .ref a_md_readWeight, .ref a_md_readSays, .int z8, .int v_md_end, .int v_md_sort, .int v_md_open, .ref a_md_opened, .int v_md_level, .ref a_md_any, .ref a_md_all, .long v_md_said, .ref a_md_burdens, .ref a_md_best, .ref a_md_own, .ref a_md_truth])), (a_md_text, .inl (cB, 300, .inl f_md_text))] H → va_D A [(a_md, .inr (5, [.int v_md_length, .ref a_md_text, .int v_md_laws, .int v_md_sayers, .long v_md_there, .long v_md_question, .ref a_md_weight, .ref a_md_says, .ref a_md_cost, .int v_md_measure, .long v_md_trace, .int v_md_readLaws, .int v_md_readSayers, .long v_md_readThere, .ref a_md_readWeight, .ref a_md_readSays, .int z8, .int v_md_end, .int v_md_sort, .int v_md_open, .ref a_md_opened, .int v_md_level, .ref a_md_any, .ref a_md_all, .long v_md_said, .ref a_md_burdens, .ref a_md_best, .ref a_md_own, .ref a_md_truth])), (a_md_text, .inl (cB, 300, .inl f_md_text))] → va_S A s.heap H locs → lv_has ls 3 [(0, .ref a_md)] → W p l e R s m args below meth c H locs 0 0 Q (F0 m 46 ls [])) → W p l e R s m args below meth c H locs 0 0 Q (F0 m 8 ls []) := by
    intro n
    induction n with
    | zero => intro w1 z8 H locs ls hf; exact absurd (show none = some z8 from hf) (by simp)
    | succ n ih =>
      intro w1 z8 H locs ls hf hP hD hS hl hk
      rw [zl_X5_token_8] at hf
      refine lv_aload_n hx hb dX5_token_8 rfl (lv_at hl 0 rfl) ?_
      refine va_get (ci := 5) (v := .int w1) (C := RX5) (T := TX5) (N := 29) hx hb hts inX5 hown hK hP 0 rfl rfl 16 (by decide) lk2 (fun _ h9 => h9) rfl dX5_token_9 ?_
      refine lv_aload_n hx hb dX5_token_12 rfl (lv_at hl 0 rfl) ?_
      refine va_get (ci := 5) (v := .int v_md_length) (C := RX5) (T := TX5) (N := 29) hx hb hts inX5 hown hK hP 0 rfl rfl 0 (by decide) lk3 (fun _ h9 => h9) rfl dX5_token_13 ?_
      refine lv_icmp_ge (tgt := 46) hx hb dX5_token_16 (by decide) (fun c5 => ?_) (fun c5 => ?_)
      · have hf := zk_t c5 hf
        obtain rfl := Option.some.inj hf
        exact hk _ _ _ hP hD hS (lv_sub hl [0] rfl)
      · have hf := zk_f c5 hf
        refine lv_aload_n hx hb dX5_token_19 rfl (lv_at hl 0 rfl) ?_
        refine va_get (ci := 5) (v := .ref a_md_text) (C := RX5) (T := TX5) (N := 29) hx hb hts inX5 hown hK hP 0 rfl rfl 1 (by decide) lk4 (fun _ h9 => h9) rfl dX5_token_20 ?_
        refine lv_aload_n hx hb dX5_token_23 rfl (lv_at hl 0 rfl) ?_
        refine va_get (ci := 5) (v := .int w1) (C := RX5) (T := TX5) (N := 29) hx hb hts inX5 hown hK hP 0 rfl rfl 16 (by decide) lk2 (fun _ h9 => h9) rfl dX5_token_24 ?_
        obtain ⟨g2, hf⟩ := zk_gd_s hf
        refine va_bald hx hb hK hP 1 2 rfl rfl (zk_in_s g2) dX5_token_27 ?_
        refine lv_bipush (v := (32 : Int32)) hx hb dX5_token_28 (by decide) ?_
        refine lv_icmp_ne (tgt := 46) hx hb dX5_token_30 (by decide) (fun c4 => ?_) (fun c4 => ?_)
        · have hf := zk_f c4 hf
          obtain rfl := Option.some.inj hf
          exact hk _ _ _ hP hD hS (lv_sub hl [0] rfl)
        · have hf := zk_t c4 hf
          refine lv_aload_n hx hb dX5_token_33 rfl (lv_at hl 0 rfl) ?_
          refine lv_dup hx hb dX5_token_34 rfl ?_
          refine va_get (ci := 5) (v := .int w1) (C := RX5) (T := TX5) (N := 29) hx hb hts inX5 hown hK hP 0 rfl rfl 16 (by decide) lk2 (fun _ h9 => h9) rfl dX5_token_35 ?_
          refine lv_iconst (v := (1 : Int32)) hx hb dX5_token_38 (by decide) ?_
          refine lv_iadd hx hb dX5_token_39 ?_
          obtain ⟨y3, ey3, hf⟩ := zk_lt_s hf
          refine zk_topi ey3 ?_
          refine va_put (ci := 5) (v := .int y3) (ty := .int) (C := RX5) (T := TX5) (N := 29) hx hb hts inX5 tyX5 tyX5_ok nmX5 hown hK hP hD hS 0 rfl rfl 16 (by decide) lk2 (fun _ h9 => h9) rfl (by decide +kernel) rfl rfl (Nat.le_of_ble_eq_true rfl) dX5_token_40 (fun H locs hP hD hS => ?_)
          have hP : va_P D vwCl [(a_md, .inr (5, [.int v_md_length, .ref a_md_text, .int v_md_laws, .int v_md_sayers, .long v_md_there, .long v_md_question, .ref a_md_weight, .ref a_md_says, .ref a_md_cost, .int v_md_measure, .long v_md_trace, .int v_md_readLaws, .int v_md_readSayers, .long v_md_readThere, .ref a_md_readWeight, .ref a_md_readSays, .int y3, .int v_md_end, .int v_md_sort, .int v_md_open, .ref a_md_opened, .int v_md_level, .ref a_md_any, .ref a_md_all, .long v_md_said, .ref a_md_burdens, .ref a_md_best, .ref a_md_own, .ref a_md_truth])), (a_md_text, .inl (cB, 300, .inl f_md_text))] H := hP
          have hD : va_D A [(a_md, .inr (5, [.int v_md_length, .ref a_md_text, .int v_md_laws, .int v_md_sayers, .long v_md_there, .long v_md_question, .ref a_md_weight, .ref a_md_says, .ref a_md_cost, .int v_md_measure, .long v_md_trace, .int v_md_readLaws, .int v_md_readSayers, .long v_md_readThere, .ref a_md_readWeight, .ref a_md_readSays, .int y3, .int v_md_end, .int v_md_sort, .int v_md_open, .ref a_md_opened, .int v_md_level, .ref a_md_any, .ref a_md_all, .long v_md_said, .ref a_md_burdens, .ref a_md_best, .ref a_md_own, .ref a_md_truth])), (a_md_text, .inl (cB, 300, .inl f_md_text))] := hD
          refine lv_goto (tgt := 8) hx hb dX5_token_43 (by decide) ?_
          exact ih y3 _ _ _ _ hf hP hD hS (lv_sub hl [0] rfl) hk
  obtain ⟨v6, hv6, hf⟩ := zk_ob hf
  refine lp8 zk_F v_md_end v6 _ _ _ hv6 hP hD hS (lv_sub hl [0] rfl) ?_
  intro H locs ls hP hD hS hl
  refine lv_aload_n hx hb dX5_token_46 rfl (lv_at hl 0 rfl) ?_
  refine lv_aload_n hx hb dX5_token_47 rfl (lv_at hl 0 rfl) ?_
  refine va_get (ci := 5) (v := .int v6) (C := RX5) (T := TX5) (N := 29) hx hb hts inX5 hown hK hP 0 rfl rfl 16 (by decide) lk2 (fun _ h9 => h9) rfl dX5_token_48 ?_
  refine va_put (ci := 5) (v := .int v6) (ty := .int) (C := RX5) (T := TX5) (N := 29) hx hb hts inX5 tyX5 tyX5_ok nmX5 hown hK hP hD hS 0 rfl rfl 17 (by decide) lk0 (fun _ h9 => h9) rfl (by decide +kernel) rfl rfl (Nat.le_of_ble_eq_true rfl) dX5_token_51 (fun H locs hP hD hS => ?_)
  have hP : va_P D vwCl [(a_md, .inr (5, [.int v_md_length, .ref a_md_text, .int v_md_laws, .int v_md_sayers, .long v_md_there, .long v_md_question, .ref a_md_weight, .ref a_md_says, .ref a_md_cost, .int v_md_measure, .long v_md_trace, .int v_md_readLaws, .int v_md_readSayers, .long v_md_readThere, .ref a_md_readWeight, .ref a_md_readSays, .int v6, .int v6, .int v_md_sort, .int v_md_open, .ref a_md_opened, .int v_md_level, .ref a_md_any, .ref a_md_all, .long v_md_said, .ref a_md_burdens, .ref a_md_best, .ref a_md_own, .ref a_md_truth])), (a_md_text, .inl (cB, 300, .inl f_md_text))] H := hP
  have hD : va_D A [(a_md, .inr (5, [.int v_md_length, .ref a_md_text, .int v_md_laws, .int v_md_sayers, .long v_md_there, .long v_md_question, .ref a_md_weight, .ref a_md_says, .ref a_md_cost, .int v_md_measure, .long v_md_trace, .int v_md_readLaws, .int v_md_readSayers, .long v_md_readThere, .ref a_md_readWeight, .ref a_md_readSays, .int v6, .int v6, .int v_md_sort, .int v_md_open, .ref a_md_opened, .int v_md_level, .ref a_md_any, .ref a_md_all, .long v_md_said, .ref a_md_burdens, .ref a_md_best, .ref a_md_own, .ref a_md_truth])), (a_md_text, .inl (cB, 300, .inl f_md_text))] := hD
  refine lv_aload_n hx hb dX5_token_54 rfl (lv_at hl 0 rfl) ?_
  refine va_get (ci := 5) (v := .int v6) (C := RX5) (T := TX5) (N := 29) hx hb hts inX5 hown hK hP 0 rfl rfl 16 (by decide) lk2 (fun _ h9 => h9) rfl dX5_token_55 ?_
  refine lv_aload_n hx hb dX5_token_58 rfl (lv_at hl 0 rfl) ?_
  refine va_get (ci := 5) (v := .int v_md_length) (C := RX5) (T := TX5) (N := 29) hx hb hts inX5 hown hK hP 0 rfl rfl 0 (by decide) lk3 (fun _ h9 => h9) rfl dX5_token_59 ?_
  refine lv_icmp_ne (tgt := 71) hx hb dX5_token_62 (by decide) (fun c34 => ?_) (fun c34 => ?_)
  · have hf := zk_f c34 hf
    refine lv_aload_n hx hb dX5_token_71 rfl (lv_at hl 0 rfl) ?_
    refine va_get (ci := 5) (v := .ref a_md_text) (C := RX5) (T := TX5) (N := 29) hx hb hts inX5 hown hK hP 0 rfl rfl 1 (by decide) lk4 (fun _ h9 => h9) rfl dX5_token_72 ?_
    refine lv_aload_n hx hb dX5_token_75 rfl (lv_at hl 0 rfl) ?_
    refine va_get (ci := 5) (v := .int v6) (C := RX5) (T := TX5) (N := 29) hx hb hts inX5 hown hK hP 0 rfl rfl 16 (by decide) lk2 (fun _ h9 => h9) rfl dX5_token_76 ?_
    obtain ⟨g7, hf⟩ := zk_gd_s hf
    refine va_bald hx hb hK hP 1 2 rfl rfl (zk_in_s g7) dX5_token_79 ?_
    obtain ⟨y8, ey8, hf⟩ := zk_lt_s hf
    refine zk_topi ey8 ?_
    refine lv_istore_n (lv' := [(1, .int y8), (0, .ref a_md)]) hx hb dX5_token_80 rfl hl (by decide) rfl (fun ls hl => ?_)
    refine lv_aload_n hx hb dX5_token_81 rfl (lv_at hl 1 rfl) ?_
    refine lv_aload_n hx hb dX5_token_82 rfl (lv_at hl 1 rfl) ?_
    refine va_get (ci := 5) (v := .int v6) (C := RX5) (T := TX5) (N := 29) hx hb hts inX5 hown hK hP 0 rfl rfl 16 (by decide) lk2 (fun _ h9 => h9) rfl dX5_token_83 ?_
    obtain ⟨v9, hv9, hf⟩ := zk_ob hf
    refine zk_goR (zk_V (As := [.int v6]) (rest := []) hx hb hml hown hts hK hG hP hD hS hA gX5_token_X5_isLow rfl hd_X5_isLow (Nat.le_trans (Nat.le_of_ble_eq_true rfl) hRf) (Nat.le_trans (Nat.le_of_ble_eq_true rfl) hRl) hcs (zc_X5_isLow l D tL tO cI cJ cB cQ a_md a_md_text a_md_weight a_md_says a_md_cost a_md_readWeight a_md_readSays a_md_opened a_md_any a_md_all a_md_burdens a_md_best a_md_own a_md_truth v6 v_md_length v_md_laws v_md_sayers v_md_there v_md_question v_md_measure v_md_trace v_md_readLaws v_md_readSayers v_md_readThere v6 v6 v_md_sort v_md_open v_md_level v_md_said f_md_text v9 hv9) rfl rfl 0 rfl hl.1 rfl rfl (Nat.le_of_ble_eq_true rfl) dX5_token_86 [0, 1] rfl rfl) hP hD hS hA [0, 1] rfl (fun H locs hP hS => ?_)
    refine lv_if_eq (tgt := 183) hx hb dX5_token_89 (by decide) (fun c33 => ?_) (fun c33 => ?_)
    · have hf := zk_t c33 hf
      refine lv_iload_n hx hb dX5_token_183 rfl (lv_at hl 0 rfl) ?_
      refine lv_i2l hx hb dX5_token_184 rfl ?_
      refine lv_ldc2 hx hb hown lk5 dX5_token_185 ?_
      refine lv_ldc2 hx hb hown lk6 dX5_token_188 ?_
      obtain ⟨v10, hv10, hf⟩ := zk_ob hf
      refine zk_goR (zk_S (As := [.long y8.toInt64, .long (48 : Int64), .long (57 : Int64)]) (rest := []) hx hb hml hown hts hK hG hP hD hS hA gX5_token_X5_in rfl hd_X5_in (Nat.le_trans (Nat.le_of_ble_eq_true rfl) hRf) (Nat.le_trans (Nat.le_of_ble_eq_true rfl) hRl) hcs (zc_X5_in l D tL tO cI cJ cB cQ y8.toInt64 (48 : Int64) (57 : Int64) v10 hv10) hl.1 rfl rfl (Nat.le_of_ble_eq_true rfl) dX5_token_191 [] rfl rfl) hP hD hS hA [] rfl (fun H locs hP hS => ?_)
      obtain ⟨v11, hv11, hf⟩ := zk_ob hf
      have kv11 : ∀ (H : Heap) (locs : List Loc) (ls : Array Slot), va_P D vwCl [(a_md, .inr (5, [.int v_md_length, .ref a_md_text, .int v_md_laws, .int v_md_sayers, .long v_md_there, .long v_md_question, .ref a_md_weight, .ref a_md_says, .ref a_md_cost, .int v_md_measure, .long v_md_trace, .int v_md_readLaws, .int v_md_readSayers, .long v_md_readThere, .ref a_md_readWeight, .ref a_md_readSays, .int v6, .int v6, .int v_md_sort, .int v_md_open, .ref a_md_opened, .int v_md_level, .ref a_md_any, .ref a_md_all, .long v_md_said, .ref a_md_burdens, .ref a_md_best, .ref a_md_own, .ref a_md_truth])), (a_md_text, .inl (cB, 300, .inl f_md_text))] H → va_D A [(a_md, .inr (5, [.int v_md_length, .ref a_md_text, .int v_md_laws, .int v_md_sayers, .long v_md_there, .long v_md_question, .ref a_md_weight, .ref a_md_says, .ref a_md_cost, .int v_md_measure, .long v_md_trace, .int v_md_readLaws, .int v_md_readSayers, .long v_md_readThere, .ref a_md_readWeight, .ref a_md_readSays, .int v6, .int v6, .int v_md_sort, .int v_md_open, .ref a_md_opened, .int v_md_level, .ref a_md_any, .ref a_md_all, .long v_md_said, .ref a_md_burdens, .ref a_md_best, .ref a_md_own, .ref a_md_truth])), (a_md_text, .inl (cB, 300, .inl f_md_text))] → va_S A s.heap H locs → lv_has ls 3 [(0, .ref a_md), (1, .int y8)] → W p l e R s m args below meth c H locs 0 0 Q (F0 m 238 ls [.int v11]) := by
        intro H locs ls hP hD hS hl
        refine lv_istore_n (lv' := [(2, .int v11), (0, .ref a_md), (1, .int y8)]) hx hb dX5_token_238 rfl hl (by decide) rfl (fun ls hl => ?_)
        refine lv_aload_n hx hb dX5_token_239 rfl (lv_at hl 1 rfl) ?_
        refine lv_iload_n hx hb dX5_token_240 rfl (lv_at hl 0 rfl) ?_
        obtain ⟨v12, hv12, hf⟩ := zk_ob hf
        have kv12 : ∀ (H : Heap) (locs : List Loc) (ls : Array Slot), va_P D vwCl [(a_md, .inr (5, [.int v_md_length, .ref a_md_text, .int v_md_laws, .int v_md_sayers, .long v_md_there, .long v_md_question, .ref a_md_weight, .ref a_md_says, .ref a_md_cost, .int v_md_measure, .long v_md_trace, .int v_md_readLaws, .int v_md_readSayers, .long v_md_readThere, .ref a_md_readWeight, .ref a_md_readSays, .int v6, .int v6, .int v_md_sort, .int v_md_open, .ref a_md_opened, .int v_md_level, .ref a_md_any, .ref a_md_all, .long v_md_said, .ref a_md_burdens, .ref a_md_best, .ref a_md_own, .ref a_md_truth])), (a_md_text, .inl (cB, 300, .inl f_md_text))] H → va_D A [(a_md, .inr (5, [.int v_md_length, .ref a_md_text, .int v_md_laws, .int v_md_sayers, .long v_md_there, .long v_md_question, .ref a_md_weight, .ref a_md_says, .ref a_md_cost, .int v_md_measure, .long v_md_trace, .int v_md_readLaws, .int v_md_readSayers, .long v_md_readThere, .ref a_md_readWeight, .ref a_md_readSays, .int v6, .int v6, .int v_md_sort, .int v_md_open, .ref a_md_opened, .int v_md_level, .ref a_md_any, .ref a_md_all, .long v_md_said, .ref a_md_burdens, .ref a_md_best, .ref a_md_own, .ref a_md_truth])), (a_md_text, .inl (cB, 300, .inl f_md_text))] → va_S A s.heap H locs → lv_has ls 3 [(0, .ref a_md), (1, .int y8), (2, .int v11)] → W p l e R s m args below meth c H locs 0 0 Q (F0 m 249 ls [.int v12, .ref a_md]) := by
          intro H locs ls hP hD hS hl
          refine va_put (ci := 5) (v := .int v12) (ty := .int) (C := RX5) (T := TX5) (N := 29) hx hb hts inX5 tyX5 tyX5_ok nmX5 hown hK hP hD hS 0 rfl rfl 18 (by decide) lk7 (fun _ h9 => h9) rfl (by decide +kernel) rfl rfl (Nat.le_of_ble_eq_true rfl) dX5_token_249 (fun H locs hP hD hS => ?_)
          have hP : va_P D vwCl [(a_md, .inr (5, [.int v_md_length, .ref a_md_text, .int v_md_laws, .int v_md_sayers, .long v_md_there, .long v_md_question, .ref a_md_weight, .ref a_md_says, .ref a_md_cost, .int v_md_measure, .long v_md_trace, .int v_md_readLaws, .int v_md_readSayers, .long v_md_readThere, .ref a_md_readWeight, .ref a_md_readSays, .int v6, .int v6, .int v12, .int v_md_open, .ref a_md_opened, .int v_md_level, .ref a_md_any, .ref a_md_all, .long v_md_said, .ref a_md_burdens, .ref a_md_best, .ref a_md_own, .ref a_md_truth])), (a_md_text, .inl (cB, 300, .inl f_md_text))] H := hP
          have hD : va_D A [(a_md, .inr (5, [.int v_md_length, .ref a_md_text, .int v_md_laws, .int v_md_sayers, .long v_md_there, .long v_md_question, .ref a_md_weight, .ref a_md_says, .ref a_md_cost, .int v_md_measure, .long v_md_trace, .int v_md_readLaws, .int v_md_readSayers, .long v_md_readThere, .ref a_md_readWeight, .ref a_md_readSays, .int v6, .int v6, .int v12, .int v_md_open, .ref a_md_opened, .int v_md_level, .ref a_md_any, .ref a_md_all, .long v_md_said, .ref a_md_burdens, .ref a_md_best, .ref a_md_own, .ref a_md_truth])), (a_md_text, .inl (cB, 300, .inl f_md_text))] := hD
          refine lv_aload_n hx hb dX5_token_252 rfl (lv_at hl 0 rfl) ?_
          refine lv_dup hx hb dX5_token_253 rfl ?_
          refine va_get (ci := 5) (v := .int v6) (C := RX5) (T := TX5) (N := 29) hx hb hts inX5 hown hK hP 0 rfl rfl 17 (by decide) lk0 (fun _ h9 => h9) rfl dX5_token_254 ?_
          refine lv_iconst (v := (1 : Int32)) hx hb dX5_token_257 (by decide) ?_
          refine lv_iadd hx hb dX5_token_258 ?_
          obtain ⟨y13, ey13, hf⟩ := zk_lt_s hf
          refine zk_topi ey13 ?_
          refine va_put (ci := 5) (v := .int y13) (ty := .int) (C := RX5) (T := TX5) (N := 29) hx hb hts inX5 tyX5 tyX5_ok nmX5 hown hK hP hD hS 0 rfl rfl 17 (by decide) lk0 (fun _ h9 => h9) rfl (by decide +kernel) rfl rfl (Nat.le_of_ble_eq_true rfl) dX5_token_259 (fun H locs hP hD hS => ?_)
          have hP : va_P D vwCl [(a_md, .inr (5, [.int v_md_length, .ref a_md_text, .int v_md_laws, .int v_md_sayers, .long v_md_there, .long v_md_question, .ref a_md_weight, .ref a_md_says, .ref a_md_cost, .int v_md_measure, .long v_md_trace, .int v_md_readLaws, .int v_md_readSayers, .long v_md_readThere, .ref a_md_readWeight, .ref a_md_readSays, .int v6, .int y13, .int v12, .int v_md_open, .ref a_md_opened, .int v_md_level, .ref a_md_any, .ref a_md_all, .long v_md_said, .ref a_md_burdens, .ref a_md_best, .ref a_md_own, .ref a_md_truth])), (a_md_text, .inl (cB, 300, .inl f_md_text))] H := hP
          have hD : va_D A [(a_md, .inr (5, [.int v_md_length, .ref a_md_text, .int v_md_laws, .int v_md_sayers, .long v_md_there, .long v_md_question, .ref a_md_weight, .ref a_md_says, .ref a_md_cost, .int v_md_measure, .long v_md_trace, .int v_md_readLaws, .int v_md_readSayers, .long v_md_readThere, .ref a_md_readWeight, .ref a_md_readSays, .int v6, .int y13, .int v12, .int v_md_open, .ref a_md_opened, .int v_md_level, .ref a_md_any, .ref a_md_all, .long v_md_said, .ref a_md_burdens, .ref a_md_best, .ref a_md_own, .ref a_md_truth])), (a_md_text, .inl (cB, 300, .inl f_md_text))] := hD
          obtain rfl := Option.some.inj hf
          exact hret trivial _ _ _ _ hP hD hS dX5_token_262
        replace hf := hv12
        refine lv_if_eq (tgt := 248) hx hb dX5_token_241 (by decide) (fun c14 => ?_) (fun c14 => ?_)
        · have hf := zk_t c14 hf
          refine lv_iconst (v := (1 : Int32)) hx hb dX5_token_248 (by decide) ?_
          obtain rfl := Option.some.inj hf
          exact kv12 _ _ _ hP hD hS (lv_sub hl [1, 2, 0] rfl)
        · have hf := zk_f c14 hf
          refine lv_iload_n hx hb dX5_token_244 rfl (lv_at hl 2 rfl) ?_
          refine lv_goto (tgt := 249) hx hb dX5_token_245 (by decide) ?_
          obtain rfl := Option.some.inj hf
          exact kv12 _ _ _ hP hD hS (lv_sub hl [1, 2, 0] rfl)
      replace hf := hv11
      refine lv_if_ne (tgt := 233) hx hb dX5_token_194 (by decide) (fun c21 => ?_) (fun c21 => ?_)
      · have hf := zk_f c21 hf
        refine lv_iconst (v := (1 : Int32)) hx hb dX5_token_233 (by decide) ?_
        refine lv_goto (tgt := 238) hx hb dX5_token_234 (by decide) ?_
        obtain rfl := Option.some.inj hf
        exact kv11 _ _ _ hP hD hS (lv_sub hl [1, 0] rfl)
      · have hf := zk_t c21 hf
        refine lv_iload_n hx hb dX5_token_197 rfl (lv_at hl 0 rfl) ?_
        refine lv_bipush (v := (59 : Int32)) hx hb dX5_token_198 (by decide) ?_
        refine lv_icmp_eq (tgt := 233) hx hb dX5_token_200 (by decide) (fun c20 => ?_) (fun c20 => ?_)
        · have hf := zk_t c20 hf
          refine lv_iconst (v := (1 : Int32)) hx hb dX5_token_233 (by decide) ?_
          refine lv_goto (tgt := 238) hx hb dX5_token_234 (by decide) ?_
          obtain rfl := Option.some.inj hf
          exact kv11 _ _ _ hP hD hS (lv_sub hl [1, 0] rfl)
        · have hf := zk_f c20 hf
          refine lv_iload_n hx hb dX5_token_203 rfl (lv_at hl 0 rfl) ?_
          refine lv_bipush (v := (124 : Int32)) hx hb dX5_token_204 (by decide) ?_
          refine lv_icmp_eq (tgt := 233) hx hb dX5_token_206 (by decide) (fun c19 => ?_) (fun c19 => ?_)
          · have hf := zk_t c19 hf
            refine lv_iconst (v := (1 : Int32)) hx hb dX5_token_233 (by decide) ?_
            refine lv_goto (tgt := 238) hx hb dX5_token_234 (by decide) ?_
            obtain rfl := Option.some.inj hf
            exact kv11 _ _ _ hP hD hS (lv_sub hl [1, 0] rfl)
          · have hf := zk_f c19 hf
            refine lv_iload_n hx hb dX5_token_209 rfl (lv_at hl 0 rfl) ?_
            refine lv_bipush (v := (38 : Int32)) hx hb dX5_token_210 (by decide) ?_
            refine lv_icmp_eq (tgt := 233) hx hb dX5_token_212 (by decide) (fun c18 => ?_) (fun c18 => ?_)
            · have hf := zk_t c18 hf
              refine lv_iconst (v := (1 : Int32)) hx hb dX5_token_233 (by decide) ?_
              refine lv_goto (tgt := 238) hx hb dX5_token_234 (by decide) ?_
              obtain rfl := Option.some.inj hf
              exact kv11 _ _ _ hP hD hS (lv_sub hl [1, 0] rfl)
            · have hf := zk_f c18 hf
              refine lv_iload_n hx hb dX5_token_215 rfl (lv_at hl 0 rfl) ?_
              refine lv_bipush (v := (33 : Int32)) hx hb dX5_token_216 (by decide) ?_
              refine lv_icmp_eq (tgt := 233) hx hb dX5_token_218 (by decide) (fun c17 => ?_) (fun c17 => ?_)
              · have hf := zk_t c17 hf
                refine lv_iconst (v := (1 : Int32)) hx hb dX5_token_233 (by decide) ?_
                refine lv_goto (tgt := 238) hx hb dX5_token_234 (by decide) ?_
                obtain rfl := Option.some.inj hf
                exact kv11 _ _ _ hP hD hS (lv_sub hl [1, 0] rfl)
              · have hf := zk_f c17 hf
                refine lv_iload_n hx hb dX5_token_221 rfl (lv_at hl 0 rfl) ?_
                refine lv_bipush (v := (40 : Int32)) hx hb dX5_token_222 (by decide) ?_
                refine lv_icmp_eq (tgt := 233) hx hb dX5_token_224 (by decide) (fun c16 => ?_) (fun c16 => ?_)
                · have hf := zk_t c16 hf
                  refine lv_iconst (v := (1 : Int32)) hx hb dX5_token_233 (by decide) ?_
                  refine lv_goto (tgt := 238) hx hb dX5_token_234 (by decide) ?_
                  obtain rfl := Option.some.inj hf
                  exact kv11 _ _ _ hP hD hS (lv_sub hl [1, 0] rfl)
                · have hf := zk_f c16 hf
                  refine lv_iload_n hx hb dX5_token_227 rfl (lv_at hl 0 rfl) ?_
                  refine lv_bipush (v := (41 : Int32)) hx hb dX5_token_228 (by decide) ?_
                  refine lv_icmp_ne (tgt := 237) hx hb dX5_token_230 (by decide) (fun c15 => ?_) (fun c15 => ?_)
                  · have hf := zk_f c15 hf
                    refine lv_iconst (v := (0 : Int32)) hx hb dX5_token_237 (by decide) ?_
                    obtain rfl := Option.some.inj hf
                    exact kv11 _ _ _ hP hD hS (lv_sub hl [1, 0] rfl)
                  · have hf := zk_t c15 hf
                    refine lv_iconst (v := (1 : Int32)) hx hb dX5_token_233 (by decide) ?_
                    refine lv_goto (tgt := 238) hx hb dX5_token_234 (by decide) ?_
                    obtain rfl := Option.some.inj hf
                    exact kv11 _ _ _ hP hD hS (lv_sub hl [1, 0] rfl)
    · have hf := zk_f c33 hf
      have lp92 : ∀ (n : Nat) (w22 : Int32) (z92 : Int32) (H : Heap) (locs : List Loc) (ls : Array Slot), zl_X5_token_92 v_md_length f_md_text n w22 = some z92 → va_P D vwCl [(a_md, .inr (5, [.int v_md_length, .ref a_md_text, .int v_md_laws, .int v_md_sayers, .long v_md_there, .long v_md_question, .ref a_md_weight, .ref a_md_says, .ref a_md_cost, .int v_md_measure, .long v_md_trace, .int v_md_readLaws, .int v_md_readSayers, .long v_md_readThere, .ref a_md_readWeight, .ref a_md_readSays, .int v6, .int w22, .int v_md_sort, .int v_md_open, .ref a_md_opened, .int v_md_level, .ref a_md_any, .ref a_md_all, .long v_md_said, .ref a_md_burdens, .ref a_md_best, .ref a_md_own, .ref a_md_truth])), (a_md_text, .inl (cB, 300, .inl f_md_text))] H → va_D A [(a_md, .inr (5, [.int v_md_length, .ref a_md_text, .int v_md_laws, .int v_md_sayers, .long v_md_there, .long v_md_question, .ref a_md_weight, .ref a_md_says, .ref a_md_cost, .int v_md_measure, .long v_md_trace, .int v_md_readLaws, .int v_md_readSayers, .long v_md_readThere, .ref a_md_readWeight, .ref a_md_readSays, .int v6, .int w22, .int v_md_sort, .int v_md_open, .ref a_md_opened, .int v_md_level, .ref a_md_any, .ref a_md_all, .long v_md_said, .ref a_md_burdens, .ref a_md_best, .ref a_md_own, .ref a_md_truth])), (a_md_text, .inl (cB, 300, .inl f_md_text))] → va_S A s.heap H locs → lv_has ls 3 [(0, .ref a_md), (1, .int y8)] → (∀ (H : Heap) (locs : List Loc) (ls : Array Slot), va_P D vwCl [(a_md, .inr (5, [.int v_md_length, .ref a_md_text, .int v_md_laws, .int v_md_sayers, .long v_md_there, .long v_md_question, .ref a_md_weight, .ref a_md_says, .ref a_md_cost, .int v_md_measure, .long v_md_trace, .int v_md_readLaws, .int v_md_readSayers, .long v_md_readThere, .ref a_md_readWeight, .ref a_md_readSays, .int v6, .int z92, .int v_md_sort, .int v_md_open, .ref a_md_opened, .int v_md_level, .ref a_md_any, .ref a_md_all, .long v_md_said, .ref a_md_burdens, .ref a_md_best, .ref a_md_own, .ref a_md_truth])), (a_md_text, .inl (cB, 300, .inl f_md_text))] H → va_D A [(a_md, .inr (5, [.int v_md_length, .ref a_md_text, .int v_md_laws, .int v_md_sayers, .long v_md_there, .long v_md_question, .ref a_md_weight, .ref a_md_says, .ref a_md_cost, .int v_md_measure, .long v_md_trace, .int v_md_readLaws, .int v_md_readSayers, .long v_md_readThere, .ref a_md_readWeight, .ref a_md_readSays, .int v6, .int z92, .int v_md_sort, .int v_md_open, .ref a_md_opened, .int v_md_level, .ref a_md_any, .ref a_md_all, .long v_md_said, .ref a_md_burdens, .ref a_md_best, .ref a_md_own, .ref a_md_truth])), (a_md_text, .inl (cB, 300, .inl f_md_text))] → va_S A s.heap H locs → lv_has ls 3 [(0, .ref a_md), (1, .int y8)] → W p l e R s m args below meth c H locs 0 0 Q (F0 m 116 ls [])) → W p l e R s m args below meth c H locs 0 0 Q (F0 m 92 ls []) := by
        intro n
        induction n with
        | zero => intro w22 z92 H locs ls hf; exact absurd (show none = some z92 from hf) (by simp)
        | succ n ih =>
          intro w22 z92 H locs ls hf hP hD hS hl hk
          rw [zl_X5_token_92] at hf
          refine lv_aload_n hx hb dX5_token_92 rfl (lv_at hl 0 rfl) ?_
          refine lv_aload_n hx hb dX5_token_93 rfl (lv_at hl 0 rfl) ?_
          refine va_get (ci := 5) (v := .int w22) (C := RX5) (T := TX5) (N := 29) hx hb hts inX5 hown hK hP 0 rfl rfl 17 (by decide) lk0 (fun _ h9 => h9) rfl dX5_token_94 ?_
          obtain ⟨v23, hv23, hf⟩ := zk_ob hf
          refine zk_goR (zk_V (As := [.int w22]) (rest := []) hx hb hml hown hts hK hG hP hD hS hA gX5_token_X5_isLow rfl hd_X5_isLow (Nat.le_trans (Nat.le_of_ble_eq_true rfl) hRf) (Nat.le_trans (Nat.le_of_ble_eq_true rfl) hRl) hcs (zc_X5_isLow l D tL tO cI cJ cB cQ a_md a_md_text a_md_weight a_md_says a_md_cost a_md_readWeight a_md_readSays a_md_opened a_md_any a_md_all a_md_burdens a_md_best a_md_own a_md_truth w22 v_md_length v_md_laws v_md_sayers v_md_there v_md_question v_md_measure v_md_trace v_md_readLaws v_md_readSayers v_md_readThere v6 w22 v_md_sort v_md_open v_md_level v_md_said f_md_text v23 hv23) rfl rfl 0 rfl hl.1 rfl rfl (Nat.le_of_ble_eq_true rfl) dX5_token_97 [0, 1] rfl rfl) hP hD hS hA [0, 1] rfl (fun H locs hP hS => ?_)
          refine lv_if_eq (tgt := 116) hx hb dX5_token_100 (by decide) (fun c25 => ?_) (fun c25 => ?_)
          · have hf := zk_t c25 hf
            obtain rfl := Option.some.inj hf
            exact hk _ _ _ hP hD hS (lv_sub hl [0, 1] rfl)
          · have hf := zk_f c25 hf
            refine lv_aload_n hx hb dX5_token_103 rfl (lv_at hl 0 rfl) ?_
            refine lv_dup hx hb dX5_token_104 rfl ?_
            refine va_get (ci := 5) (v := .int w22) (C := RX5) (T := TX5) (N := 29) hx hb hts inX5 hown hK hP 0 rfl rfl 17 (by decide) lk0 (fun _ h9 => h9) rfl dX5_token_105 ?_
            refine lv_iconst (v := (1 : Int32)) hx hb dX5_token_108 (by decide) ?_
            refine lv_iadd hx hb dX5_token_109 ?_
            obtain ⟨y24, ey24, hf⟩ := zk_lt_s hf
            refine zk_topi ey24 ?_
            refine va_put (ci := 5) (v := .int y24) (ty := .int) (C := RX5) (T := TX5) (N := 29) hx hb hts inX5 tyX5 tyX5_ok nmX5 hown hK hP hD hS 0 rfl rfl 17 (by decide) lk0 (fun _ h9 => h9) rfl (by decide +kernel) rfl rfl (Nat.le_of_ble_eq_true rfl) dX5_token_110 (fun H locs hP hD hS => ?_)
            have hP : va_P D vwCl [(a_md, .inr (5, [.int v_md_length, .ref a_md_text, .int v_md_laws, .int v_md_sayers, .long v_md_there, .long v_md_question, .ref a_md_weight, .ref a_md_says, .ref a_md_cost, .int v_md_measure, .long v_md_trace, .int v_md_readLaws, .int v_md_readSayers, .long v_md_readThere, .ref a_md_readWeight, .ref a_md_readSays, .int v6, .int y24, .int v_md_sort, .int v_md_open, .ref a_md_opened, .int v_md_level, .ref a_md_any, .ref a_md_all, .long v_md_said, .ref a_md_burdens, .ref a_md_best, .ref a_md_own, .ref a_md_truth])), (a_md_text, .inl (cB, 300, .inl f_md_text))] H := hP
            have hD : va_D A [(a_md, .inr (5, [.int v_md_length, .ref a_md_text, .int v_md_laws, .int v_md_sayers, .long v_md_there, .long v_md_question, .ref a_md_weight, .ref a_md_says, .ref a_md_cost, .int v_md_measure, .long v_md_trace, .int v_md_readLaws, .int v_md_readSayers, .long v_md_readThere, .ref a_md_readWeight, .ref a_md_readSays, .int v6, .int y24, .int v_md_sort, .int v_md_open, .ref a_md_opened, .int v_md_level, .ref a_md_any, .ref a_md_all, .long v_md_said, .ref a_md_burdens, .ref a_md_best, .ref a_md_own, .ref a_md_truth])), (a_md_text, .inl (cB, 300, .inl f_md_text))] := hD
            refine lv_goto (tgt := 92) hx hb dX5_token_113 (by decide) ?_
            exact ih y24 _ _ _ _ hf hP hD hS (lv_sub hl [0, 1] rfl) hk
      obtain ⟨v26, hv26, hf⟩ := zk_ob hf
      refine lp92 zk_F v6 v26 _ _ _ hv26 hP hD hS (lv_sub hl [1, 0] rfl) ?_
      intro H locs ls hP hD hS hl
      refine lv_aload_n hx hb dX5_token_116 rfl (lv_at hl 0 rfl) ?_
      refine lv_aload_n hx hb dX5_token_117 rfl (lv_at hl 0 rfl) ?_
      refine lv_bipush (v := (108 : Int32)) hx hb dX5_token_118 (by decide) ?_
      refine lv_bipush (v := (97 : Int32)) hx hb dX5_token_120 (by decide) ?_
      refine lv_bipush (v := (119 : Int32)) hx hb dX5_token_122 (by decide) ?_
      obtain ⟨v27, hv27, hf⟩ := zk_ob hf
      refine zk_goR (zk_V (As := [.int (108 : Int32), .int (97 : Int32), .int (119 : Int32)]) (rest := [.ref a_md]) hx hb hml hown hts hK hG hP hD hS hA gX5_token_X5_isWord rfl hd_X5_isWord (Nat.le_trans (Nat.le_of_ble_eq_true rfl) hRf) (Nat.le_trans (Nat.le_of_ble_eq_true rfl) hRl) hcs (zc_X5_isWord l D tL tO cI cJ cB cQ a_md a_md_text a_md_weight a_md_says a_md_cost a_md_readWeight a_md_readSays a_md_opened a_md_any a_md_all a_md_burdens a_md_best a_md_own a_md_truth (108 : Int32) (97 : Int32) (119 : Int32) v_md_length v_md_laws v_md_sayers v_md_there v_md_question v_md_measure v_md_trace v_md_readLaws v_md_readSayers v_md_readThere v6 v26 v_md_sort v_md_open v_md_level v_md_said f_md_text v27 hv27) rfl rfl 0 rfl hl.1 rfl rfl (Nat.le_of_ble_eq_true rfl) dX5_token_124 [0, 1] rfl rfl) hP hD hS hA [0, 1] rfl (fun H locs hP hS => ?_)
      refine lv_if_eq (tgt := 135) hx hb dX5_token_127 (by decide) (fun c32 => ?_) (fun c32 => ?_)
      · have hf := zk_t c32 hf
        refine lv_aload_n hx hb dX5_token_135 rfl (lv_at hl 0 rfl) ?_
        refine lv_bipush (v := (115 : Int32)) hx hb dX5_token_136 (by decide) ?_
        refine lv_bipush (v := (97 : Int32)) hx hb dX5_token_138 (by decide) ?_
        refine lv_bipush (v := (121 : Int32)) hx hb dX5_token_140 (by decide) ?_
        obtain ⟨v28, hv28, hf⟩ := zk_ob hf
        refine zk_goR (zk_V (As := [.int (115 : Int32), .int (97 : Int32), .int (121 : Int32)]) (rest := [.ref a_md]) hx hb hml hown hts hK hG hP hD hS hA gX5_token_X5_isWord rfl hd_X5_isWord (Nat.le_trans (Nat.le_of_ble_eq_true rfl) hRf) (Nat.le_trans (Nat.le_of_ble_eq_true rfl) hRl) hcs (zc_X5_isWord l D tL tO cI cJ cB cQ a_md a_md_text a_md_weight a_md_says a_md_cost a_md_readWeight a_md_readSays a_md_opened a_md_any a_md_all a_md_burdens a_md_best a_md_own a_md_truth (115 : Int32) (97 : Int32) (121 : Int32) v_md_length v_md_laws v_md_sayers v_md_there v_md_question v_md_measure v_md_trace v_md_readLaws v_md_readSayers v_md_readThere v6 v26 v_md_sort v_md_open v_md_level v_md_said f_md_text v28 hv28) rfl rfl 0 rfl hl.1 rfl rfl (Nat.le_of_ble_eq_true rfl) dX5_token_142 [0, 1] rfl rfl) hP hD hS hA [0, 1] rfl (fun H locs hP hS => ?_)
        refine lv_if_eq (tgt := 153) hx hb dX5_token_145 (by decide) (fun c31 => ?_) (fun c31 => ?_)
        · have hf := zk_t c31 hf
          refine lv_aload_n hx hb dX5_token_153 rfl (lv_at hl 0 rfl) ?_
          refine va_get (ci := 5) (v := .int v26) (C := RX5) (T := TX5) (N := 29) hx hb hts inX5 hown hK hP 0 rfl rfl 17 (by decide) lk0 (fun _ h9 => h9) rfl dX5_token_154 ?_
          refine lv_aload_n hx hb dX5_token_157 rfl (lv_at hl 0 rfl) ?_
          refine va_get (ci := 5) (v := .int v6) (C := RX5) (T := TX5) (N := 29) hx hb hts inX5 hown hK hP 0 rfl rfl 16 (by decide) lk2 (fun _ h9 => h9) rfl dX5_token_158 ?_
          refine lv_isub hx hb dX5_token_161 ?_
          refine lv_iconst (v := (1 : Int32)) hx hb dX5_token_162 (by decide) ?_
          refine lv_icmp_ne (tgt := 176) hx hb dX5_token_163 (by decide) (fun c30 => ?_) (fun c30 => ?_)
          · have hf := zk_f c30 hf
            refine lv_iconst (v := (1 : Int32)) hx hb dX5_token_176 (by decide) ?_
            refine va_put (ci := 5) (v := .int (1 : Int32)) (ty := .int) (C := RX5) (T := TX5) (N := 29) hx hb hts inX5 tyX5 tyX5_ok nmX5 hown hK hP hD hS 0 rfl rfl 18 (by decide) lk7 (fun _ h9 => h9) rfl (by decide +kernel) rfl rfl (Nat.le_of_ble_eq_true rfl) dX5_token_177 (fun H locs hP hD hS => ?_)
            have hP : va_P D vwCl [(a_md, .inr (5, [.int v_md_length, .ref a_md_text, .int v_md_laws, .int v_md_sayers, .long v_md_there, .long v_md_question, .ref a_md_weight, .ref a_md_says, .ref a_md_cost, .int v_md_measure, .long v_md_trace, .int v_md_readLaws, .int v_md_readSayers, .long v_md_readThere, .ref a_md_readWeight, .ref a_md_readSays, .int v6, .int v26, .int (1 : Int32), .int v_md_open, .ref a_md_opened, .int v_md_level, .ref a_md_any, .ref a_md_all, .long v_md_said, .ref a_md_burdens, .ref a_md_best, .ref a_md_own, .ref a_md_truth])), (a_md_text, .inl (cB, 300, .inl f_md_text))] H := hP
            have hD : va_D A [(a_md, .inr (5, [.int v_md_length, .ref a_md_text, .int v_md_laws, .int v_md_sayers, .long v_md_there, .long v_md_question, .ref a_md_weight, .ref a_md_says, .ref a_md_cost, .int v_md_measure, .long v_md_trace, .int v_md_readLaws, .int v_md_readSayers, .long v_md_readThere, .ref a_md_readWeight, .ref a_md_readSays, .int v6, .int v26, .int (1 : Int32), .int v_md_open, .ref a_md_opened, .int v_md_level, .ref a_md_any, .ref a_md_all, .long v_md_said, .ref a_md_burdens, .ref a_md_best, .ref a_md_own, .ref a_md_truth])), (a_md_text, .inl (cB, 300, .inl f_md_text))] := hD
            refine lv_goto (tgt := 262) hx hb dX5_token_180 (by decide) ?_
            obtain rfl := Option.some.inj hf
            exact hret trivial _ _ _ _ hP hD hS dX5_token_262
          · have hf := zk_t c30 hf
            refine lv_iload_n hx hb dX5_token_166 rfl (lv_at hl 1 rfl) ?_
            refine lv_bipush (v := (102 : Int32)) hx hb dX5_token_167 (by decide) ?_
            refine lv_icmp_gt (tgt := 176) hx hb dX5_token_169 (by decide) (fun c29 => ?_) (fun c29 => ?_)
            · have hf := zk_t c29 hf
              refine lv_iconst (v := (1 : Int32)) hx hb dX5_token_176 (by decide) ?_
              refine va_put (ci := 5) (v := .int (1 : Int32)) (ty := .int) (C := RX5) (T := TX5) (N := 29) hx hb hts inX5 tyX5 tyX5_ok nmX5 hown hK hP hD hS 0 rfl rfl 18 (by decide) lk7 (fun _ h9 => h9) rfl (by decide +kernel) rfl rfl (Nat.le_of_ble_eq_true rfl) dX5_token_177 (fun H locs hP hD hS => ?_)
              have hP : va_P D vwCl [(a_md, .inr (5, [.int v_md_length, .ref a_md_text, .int v_md_laws, .int v_md_sayers, .long v_md_there, .long v_md_question, .ref a_md_weight, .ref a_md_says, .ref a_md_cost, .int v_md_measure, .long v_md_trace, .int v_md_readLaws, .int v_md_readSayers, .long v_md_readThere, .ref a_md_readWeight, .ref a_md_readSays, .int v6, .int v26, .int (1 : Int32), .int v_md_open, .ref a_md_opened, .int v_md_level, .ref a_md_any, .ref a_md_all, .long v_md_said, .ref a_md_burdens, .ref a_md_best, .ref a_md_own, .ref a_md_truth])), (a_md_text, .inl (cB, 300, .inl f_md_text))] H := hP
              have hD : va_D A [(a_md, .inr (5, [.int v_md_length, .ref a_md_text, .int v_md_laws, .int v_md_sayers, .long v_md_there, .long v_md_question, .ref a_md_weight, .ref a_md_says, .ref a_md_cost, .int v_md_measure, .long v_md_trace, .int v_md_readLaws, .int v_md_readSayers, .long v_md_readThere, .ref a_md_readWeight, .ref a_md_readSays, .int v6, .int v26, .int (1 : Int32), .int v_md_open, .ref a_md_opened, .int v_md_level, .ref a_md_any, .ref a_md_all, .long v_md_said, .ref a_md_burdens, .ref a_md_best, .ref a_md_own, .ref a_md_truth])), (a_md_text, .inl (cB, 300, .inl f_md_text))] := hD
              refine lv_goto (tgt := 262) hx hb dX5_token_180 (by decide) ?_
              obtain rfl := Option.some.inj hf
              exact hret trivial _ _ _ _ hP hD hS dX5_token_262
            · have hf := zk_f c29 hf
              refine lv_iload_n hx hb dX5_token_172 rfl (lv_at hl 1 rfl) ?_
              refine lv_goto (tgt := 177) hx hb dX5_token_173 (by decide) ?_
              refine va_put (ci := 5) (v := .int y8) (ty := .int) (C := RX5) (T := TX5) (N := 29) hx hb hts inX5 tyX5 tyX5_ok nmX5 hown hK hP hD hS 0 rfl rfl 18 (by decide) lk7 (fun _ h9 => h9) rfl (by decide +kernel) rfl rfl (Nat.le_of_ble_eq_true rfl) dX5_token_177 (fun H locs hP hD hS => ?_)
              have hP : va_P D vwCl [(a_md, .inr (5, [.int v_md_length, .ref a_md_text, .int v_md_laws, .int v_md_sayers, .long v_md_there, .long v_md_question, .ref a_md_weight, .ref a_md_says, .ref a_md_cost, .int v_md_measure, .long v_md_trace, .int v_md_readLaws, .int v_md_readSayers, .long v_md_readThere, .ref a_md_readWeight, .ref a_md_readSays, .int v6, .int v26, .int y8, .int v_md_open, .ref a_md_opened, .int v_md_level, .ref a_md_any, .ref a_md_all, .long v_md_said, .ref a_md_burdens, .ref a_md_best, .ref a_md_own, .ref a_md_truth])), (a_md_text, .inl (cB, 300, .inl f_md_text))] H := hP
              have hD : va_D A [(a_md, .inr (5, [.int v_md_length, .ref a_md_text, .int v_md_laws, .int v_md_sayers, .long v_md_there, .long v_md_question, .ref a_md_weight, .ref a_md_says, .ref a_md_cost, .int v_md_measure, .long v_md_trace, .int v_md_readLaws, .int v_md_readSayers, .long v_md_readThere, .ref a_md_readWeight, .ref a_md_readSays, .int v6, .int v26, .int y8, .int v_md_open, .ref a_md_opened, .int v_md_level, .ref a_md_any, .ref a_md_all, .long v_md_said, .ref a_md_burdens, .ref a_md_best, .ref a_md_own, .ref a_md_truth])), (a_md_text, .inl (cB, 300, .inl f_md_text))] := hD
              refine lv_goto (tgt := 262) hx hb dX5_token_180 (by decide) ?_
              obtain rfl := Option.some.inj hf
              exact hret trivial _ _ _ _ hP hD hS dX5_token_262
        · have hf := zk_f c31 hf
          refine lv_bipush (v := (83 : Int32)) hx hb dX5_token_148 (by decide) ?_
          refine lv_goto (tgt := 177) hx hb dX5_token_150 (by decide) ?_
          refine va_put (ci := 5) (v := .int (83 : Int32)) (ty := .int) (C := RX5) (T := TX5) (N := 29) hx hb hts inX5 tyX5 tyX5_ok nmX5 hown hK hP hD hS 0 rfl rfl 18 (by decide) lk7 (fun _ h9 => h9) rfl (by decide +kernel) rfl rfl (Nat.le_of_ble_eq_true rfl) dX5_token_177 (fun H locs hP hD hS => ?_)
          have hP : va_P D vwCl [(a_md, .inr (5, [.int v_md_length, .ref a_md_text, .int v_md_laws, .int v_md_sayers, .long v_md_there, .long v_md_question, .ref a_md_weight, .ref a_md_says, .ref a_md_cost, .int v_md_measure, .long v_md_trace, .int v_md_readLaws, .int v_md_readSayers, .long v_md_readThere, .ref a_md_readWeight, .ref a_md_readSays, .int v6, .int v26, .int (83 : Int32), .int v_md_open, .ref a_md_opened, .int v_md_level, .ref a_md_any, .ref a_md_all, .long v_md_said, .ref a_md_burdens, .ref a_md_best, .ref a_md_own, .ref a_md_truth])), (a_md_text, .inl (cB, 300, .inl f_md_text))] H := hP
          have hD : va_D A [(a_md, .inr (5, [.int v_md_length, .ref a_md_text, .int v_md_laws, .int v_md_sayers, .long v_md_there, .long v_md_question, .ref a_md_weight, .ref a_md_says, .ref a_md_cost, .int v_md_measure, .long v_md_trace, .int v_md_readLaws, .int v_md_readSayers, .long v_md_readThere, .ref a_md_readWeight, .ref a_md_readSays, .int v6, .int v26, .int (83 : Int32), .int v_md_open, .ref a_md_opened, .int v_md_level, .ref a_md_any, .ref a_md_all, .long v_md_said, .ref a_md_burdens, .ref a_md_best, .ref a_md_own, .ref a_md_truth])), (a_md_text, .inl (cB, 300, .inl f_md_text))] := hD
          refine lv_goto (tgt := 262) hx hb dX5_token_180 (by decide) ?_
          obtain rfl := Option.some.inj hf
          exact hret trivial _ _ _ _ hP hD hS dX5_token_262
      · have hf := zk_f c32 hf
        refine lv_bipush (v := (76 : Int32)) hx hb dX5_token_130 (by decide) ?_
        refine lv_goto (tgt := 177) hx hb dX5_token_132 (by decide) ?_
        refine va_put (ci := 5) (v := .int (76 : Int32)) (ty := .int) (C := RX5) (T := TX5) (N := 29) hx hb hts inX5 tyX5 tyX5_ok nmX5 hown hK hP hD hS 0 rfl rfl 18 (by decide) lk7 (fun _ h9 => h9) rfl (by decide +kernel) rfl rfl (Nat.le_of_ble_eq_true rfl) dX5_token_177 (fun H locs hP hD hS => ?_)
        have hP : va_P D vwCl [(a_md, .inr (5, [.int v_md_length, .ref a_md_text, .int v_md_laws, .int v_md_sayers, .long v_md_there, .long v_md_question, .ref a_md_weight, .ref a_md_says, .ref a_md_cost, .int v_md_measure, .long v_md_trace, .int v_md_readLaws, .int v_md_readSayers, .long v_md_readThere, .ref a_md_readWeight, .ref a_md_readSays, .int v6, .int v26, .int (76 : Int32), .int v_md_open, .ref a_md_opened, .int v_md_level, .ref a_md_any, .ref a_md_all, .long v_md_said, .ref a_md_burdens, .ref a_md_best, .ref a_md_own, .ref a_md_truth])), (a_md_text, .inl (cB, 300, .inl f_md_text))] H := hP
        have hD : va_D A [(a_md, .inr (5, [.int v_md_length, .ref a_md_text, .int v_md_laws, .int v_md_sayers, .long v_md_there, .long v_md_question, .ref a_md_weight, .ref a_md_says, .ref a_md_cost, .int v_md_measure, .long v_md_trace, .int v_md_readLaws, .int v_md_readSayers, .long v_md_readThere, .ref a_md_readWeight, .ref a_md_readSays, .int v6, .int v26, .int (76 : Int32), .int v_md_open, .ref a_md_opened, .int v_md_level, .ref a_md_any, .ref a_md_all, .long v_md_said, .ref a_md_burdens, .ref a_md_best, .ref a_md_own, .ref a_md_truth])), (a_md_text, .inl (cB, 300, .inl f_md_text))] := hD
        refine lv_goto (tgt := 262) hx hb dX5_token_180 (by decide) ?_
        obtain rfl := Option.some.inj hf
        exact hret trivial _ _ _ _ hP hD hS dX5_token_262
  · have hf := zk_t c34 hf
    refine lv_aload_n hx hb dX5_token_65 rfl (lv_at hl 0 rfl) ?_
    refine lv_iconst (v := (0 : Int32)) hx hb dX5_token_66 (by decide) ?_
    refine va_put (ci := 5) (v := .int (0 : Int32)) (ty := .int) (C := RX5) (T := TX5) (N := 29) hx hb hts inX5 tyX5 tyX5_ok nmX5 hown hK hP hD hS 0 rfl rfl 18 (by decide) lk7 (fun _ h9 => h9) rfl (by decide +kernel) rfl rfl (Nat.le_of_ble_eq_true rfl) dX5_token_67 (fun H locs hP hD hS => ?_)
    have hP : va_P D vwCl [(a_md, .inr (5, [.int v_md_length, .ref a_md_text, .int v_md_laws, .int v_md_sayers, .long v_md_there, .long v_md_question, .ref a_md_weight, .ref a_md_says, .ref a_md_cost, .int v_md_measure, .long v_md_trace, .int v_md_readLaws, .int v_md_readSayers, .long v_md_readThere, .ref a_md_readWeight, .ref a_md_readSays, .int v6, .int v6, .int (0 : Int32), .int v_md_open, .ref a_md_opened, .int v_md_level, .ref a_md_any, .ref a_md_all, .long v_md_said, .ref a_md_burdens, .ref a_md_best, .ref a_md_own, .ref a_md_truth])), (a_md_text, .inl (cB, 300, .inl f_md_text))] H := hP
    have hD : va_D A [(a_md, .inr (5, [.int v_md_length, .ref a_md_text, .int v_md_laws, .int v_md_sayers, .long v_md_there, .long v_md_question, .ref a_md_weight, .ref a_md_says, .ref a_md_cost, .int v_md_measure, .long v_md_trace, .int v_md_readLaws, .int v_md_readSayers, .long v_md_readThere, .ref a_md_readWeight, .ref a_md_readSays, .int v6, .int v6, .int (0 : Int32), .int v_md_open, .ref a_md_opened, .int v_md_level, .ref a_md_any, .ref a_md_all, .long v_md_said, .ref a_md_burdens, .ref a_md_best, .ref a_md_own, .ref a_md_truth])), (a_md_text, .inl (cB, 300, .inl f_md_text))] := hD
    obtain rfl := Option.some.inj hf
    exact hret trivial _ _ _ _ hP hD hS dX5_token_70
def zl_X5_ends_2 (f_md_opened : Nat → Int32) : Nat → (Int64) → (Int32) → Option (Int64 × Int32)
  | 0, _, _ => none
  | n + 1, w1, w2 =>
    if w2 ≤ 0 then
    some (w1, w2)
    else
    zk_gd (zk_in (w2 - (1 : Int32)) 9)
    (if (f_md_opened (w2 - (1 : Int32)).toNatClampNeg) = (33 : Int32) then
    zk_lt (w1 ^^^ (-1 : Int64)) (fun y4 =>
    zk_lt (w2 - (1 : Int32)) (fun y5 =>
    zl_X5_ends_2 f_md_opened n y4 y5))
    else
    some (w1, w2))
def zf_X5_ends (x0 : Int64) (v_md_open : Int32) (v_md_level : Int32) (f_md_opened : Nat → Int32) (f_md_all : Nat → Int64) : Option (Int32 × (Nat → Int64)) :=
  (zl_X5_ends_2 f_md_opened zk_F x0 v_md_open).bind (fun v8 =>
  zk_gd (zk_in v_md_level 9)
  (some (v8.2, vp_updL f_md_all v_md_level.toNatClampNeg ((f_md_all v_md_level.toNatClampNeg) &&& v8.1))))
theorem hd_X5_ends : yX5_ends.cls = RX5 ∧ yX5_ends.cls ≠ "java/lang/invoke/MethodHandle" ∧ yX5_ends.cls ≠ "java/lang/invoke/VarHandle" ∧ (parseMethodDescriptor yX5_ends.desc).map (fun d => d.parameters.length) = some 1 := by decide +kernel
set_option maxHeartbeats 4000000 in
set_option maxRecDepth 100000 in
theorem zc_X5_ends (l : Launch) (D : va_G) (tL tO : Nat) (cI cJ cB cQ : ClassId) (a_md a_md_text a_md_weight a_md_says a_md_cost a_md_readWeight a_md_readSays a_md_opened a_md_any a_md_all a_md_burdens a_md_best a_md_own a_md_truth : Nat) (x0 : Int64) (v_md_length : Int32) (v_md_laws : Int32) (v_md_sayers : Int32) (v_md_there : Int64) (v_md_question : Int64) (v_md_measure : Int32) (v_md_trace : Int64) (v_md_readLaws : Int32) (v_md_readSayers : Int32) (v_md_readThere : Int64) (v_md_begin : Int32) (v_md_end : Int32) (v_md_sort : Int32) (v_md_open : Int32) (v_md_level : Int32) (v_md_said : Int64) (f_md_opened : Nat → Int32) (f_md_all : Nat → Int64) (z : Int32 × (Nat → Int64)) (hf : zf_X5_ends x0 v_md_open v_md_level f_md_opened f_md_all = some z) : zk_CT l D tL tO (zk_ty cI cJ cB cQ) yX5_ends wsX5_ends 0 0 [.ref a_md, .long x0] none [(a_md, .inr (5, [.int v_md_length, .ref a_md_text, .int v_md_laws, .int v_md_sayers, .long v_md_there, .long v_md_question, .ref a_md_weight, .ref a_md_says, .ref a_md_cost, .int v_md_measure, .long v_md_trace, .int v_md_readLaws, .int v_md_readSayers, .long v_md_readThere, .ref a_md_readWeight, .ref a_md_readSays, .int v_md_begin, .int v_md_end, .int v_md_sort, .int v_md_open, .ref a_md_opened, .int v_md_level, .ref a_md_any, .ref a_md_all, .long v_md_said, .ref a_md_burdens, .ref a_md_best, .ref a_md_own, .ref a_md_truth])), (a_md_opened, .inl (cI, 9, .inl f_md_opened)), (a_md_all, .inl (cJ, 9, .inr (.inl f_md_all)))] [(a_md, .inr (5, [.int v_md_length, .ref a_md_text, .int v_md_laws, .int v_md_sayers, .long v_md_there, .long v_md_question, .ref a_md_weight, .ref a_md_says, .ref a_md_cost, .int v_md_measure, .long v_md_trace, .int v_md_readLaws, .int v_md_readSayers, .long v_md_readThere, .ref a_md_readWeight, .ref a_md_readSays, .int v_md_begin, .int v_md_end, .int v_md_sort, .int z.1, .ref a_md_opened, .int v_md_level, .ref a_md_any, .ref a_md_all, .long v_md_said, .ref a_md_burdens, .ref a_md_best, .ref a_md_own, .ref a_md_truth])), (a_md_opened, .inl (cI, 9, .inl f_md_opened)), (a_md_all, .inl (cJ, 9, .inr (.inl z.2)))] := by
  refine zk_of_v (cc := cX5_ends) (maxL := 5) (by decide) rfl (Nat.le_of_ble_eq_true rfl) ?_
  intro p e R s m args below meth c A Q ls hx hb hml hRf hRl hts hown hP hK hD hA hS hG hl hret
  have hl : lv_has ls 5 [(0, .ref a_md), (1, .long x0)] := hl
  have hown : s.vm.findClass RX5 = some m.cls := hown
  have hcs : 0 ≤ R.cells ∧ 0 ≤ R.slots := ⟨Nat.zero_le _, Nat.zero_le _⟩
  have lk0 := hts (.fieldLink RX5 99 "SayingsMergedModel" "open" "I") (by decide +kernel)
  have inX5 : ∀ w ∈ wsX50, w ∈ wsX5_ends := by decide +kernel
  have lk2 := hts (.fieldLink RX5 39 "SayingsMergedModel" "opened" "[I") (by decide +kernel)
  have lk3 := hts (.constantLong RX5 13 (-1)) (by decide +kernel)
  have lk4 := hts (.fieldLink RX5 45 "SayingsMergedModel" "all" "[J") (by decide +kernel)
  have lk5 := hts (.fieldLink RX5 102 "SayingsMergedModel" "level" "I") (by decide +kernel)
  unfold zf_X5_ends at hf
  refine lv_lload_n hx hb dX5_ends_0 rfl (lv_at hl 1 rfl) ?_
  refine lv_lstore_n (lv' := [(3, .long x0), (0, .ref a_md), (1, .long x0)]) hx hb dX5_ends_1 rfl hl (by decide) rfl (fun ls hl => ?_)
  have lp2 : ∀ (n : Nat) (w1 : Int64) (w2 : Int32) (z2 : Int64 × Int32) (H : Heap) (locs : List Loc) (ls : Array Slot), zl_X5_ends_2 f_md_opened n w1 w2 = some z2 → va_P D vwCl [(a_md, .inr (5, [.int v_md_length, .ref a_md_text, .int v_md_laws, .int v_md_sayers, .long v_md_there, .long v_md_question, .ref a_md_weight, .ref a_md_says, .ref a_md_cost, .int v_md_measure, .long v_md_trace, .int v_md_readLaws, .int v_md_readSayers, .long v_md_readThere, .ref a_md_readWeight, .ref a_md_readSays, .int v_md_begin, .int v_md_end, .int v_md_sort, .int w2, .ref a_md_opened, .int v_md_level, .ref a_md_any, .ref a_md_all, .long v_md_said, .ref a_md_burdens, .ref a_md_best, .ref a_md_own, .ref a_md_truth])), (a_md_opened, .inl (cI, 9, .inl f_md_opened)), (a_md_all, .inl (cJ, 9, .inr (.inl f_md_all)))] H → va_D A [(a_md, .inr (5, [.int v_md_length, .ref a_md_text, .int v_md_laws, .int v_md_sayers, .long v_md_there, .long v_md_question, .ref a_md_weight, .ref a_md_says, .ref a_md_cost, .int v_md_measure, .long v_md_trace, .int v_md_readLaws, .int v_md_readSayers, .long v_md_readThere, .ref a_md_readWeight, .ref a_md_readSays, .int v_md_begin, .int v_md_end, .int v_md_sort, .int w2, .ref a_md_opened, .int v_md_level, .ref a_md_any, .ref a_md_all, .long v_md_said, .ref a_md_burdens, .ref a_md_best, .ref a_md_own, .ref a_md_truth])), (a_md_opened, .inl (cI, 9, .inl f_md_opened)), (a_md_all, .inl (cJ, 9, .inr (.inl f_md_all)))] → va_S A s.heap H locs → lv_has ls 5 [(0, .ref a_md), (1, .long x0), (3, .long w1)] → (∀ (H : Heap) (locs : List Loc) (ls : Array Slot), va_P D vwCl [(a_md, .inr (5, [.int v_md_length, .ref a_md_text, .int v_md_laws, .int v_md_sayers, .long v_md_there, .long v_md_question, .ref a_md_weight, .ref a_md_says, .ref a_md_cost, .int v_md_measure, .long v_md_trace, .int v_md_readLaws, .int v_md_readSayers, .long v_md_readThere, .ref a_md_readWeight, .ref a_md_readSays, .int v_md_begin, .int v_md_end, .int v_md_sort, .int z2.2, .ref a_md_opened, .int v_md_level, .ref a_md_any, .ref a_md_all, .long v_md_said, .ref a_md_burdens, .ref a_md_best, .ref a_md_own, .ref a_md_truth])), (a_md_opened, .inl (cI, 9, .inl f_md_opened)), (a_md_all, .inl (cJ, 9, .inr (.inl f_md_all)))] H → va_D A [(a_md, .inr (5, [.int v_md_length, .ref a_md_text, .int v_md_laws, .int v_md_sayers, .long v_md_there, .long v_md_question, .ref a_md_weight, .ref a_md_says, .ref a_md_cost, .int v_md_measure, .long v_md_trace, .int v_md_readLaws, .int v_md_readSayers, .long v_md_readThere, .ref a_md_readWeight, .ref a_md_readSays, .int v_md_begin, .int v_md_end, .int v_md_sort, .int z2.2, .ref a_md_opened, .int v_md_level, .ref a_md_any, .ref a_md_all, .long v_md_said, .ref a_md_burdens, .ref a_md_best, .ref a_md_own, .ref a_md_truth])), (a_md_opened, .inl (cI, 9, .inl f_md_opened)), (a_md_all, .inl (cJ, 9, .inr (.inl f_md_all)))] → va_S A s.heap H locs → lv_has ls 5 [(0, .ref a_md), (1, .long x0), (3, .long z2.1)] → W p l e R s m args below meth c H locs 0 0 Q (F0 m 44 ls [])) → W p l e R s m args below meth c H locs 0 0 Q (F0 m 2 ls []) := by
    intro n
    induction n with
    | zero => intro w1 w2 z2 H locs ls hf; exact absurd (show none = some z2 from hf) (by simp)
    | succ n ih =>
      intro w1 w2 z2 H locs ls hf hP hD hS hl hk
      rw [zl_X5_ends_2] at hf
      refine lv_aload_n hx hb dX5_ends_2 rfl (lv_at hl 0 rfl) ?_
      refine va_get (ci := 5) (v := .int w2) (C := RX5) (T := TX5) (N := 29) hx hb hts inX5 hown hK hP 0 rfl rfl 19 (by decide) lk0 (fun _ h9 => h9) rfl dX5_ends_3 ?_
      refine lv_if_le (tgt := 44) hx hb dX5_ends_6 (by decide) (fun c7 => ?_) (fun c7 => ?_)
      · have hf := zk_t c7 hf
        obtain rfl := Option.some.inj hf
        exact hk _ _ _ hP hD hS (lv_sub hl [0, 1, 2] rfl)
      · have hf := zk_f c7 hf
        refine lv_aload_n hx hb dX5_ends_9 rfl (lv_at hl 0 rfl) ?_
        refine va_get (ci := 5) (v := .ref a_md_opened) (C := RX5) (T := TX5) (N := 29) hx hb hts inX5 hown hK hP 0 rfl rfl 20 (by decide) lk2 (fun _ h9 => h9) rfl dX5_ends_10 ?_
        refine lv_aload_n hx hb dX5_ends_13 rfl (lv_at hl 0 rfl) ?_
        refine va_get (ci := 5) (v := .int w2) (C := RX5) (T := TX5) (N := 29) hx hb hts inX5 hown hK hP 0 rfl rfl 19 (by decide) lk0 (fun _ h9 => h9) rfl dX5_ends_14 ?_
        refine lv_iconst (v := (1 : Int32)) hx hb dX5_ends_17 (by decide) ?_
        refine lv_isub hx hb dX5_ends_18 ?_
        obtain ⟨g3, hf⟩ := zk_gd_s hf
        refine va_iald hx hb hK hP 1 0 rfl rfl (zk_in_s g3) dX5_ends_19 ?_
        refine lv_bipush (v := (33 : Int32)) hx hb dX5_ends_20 (by decide) ?_
        refine lv_icmp_ne (tgt := 44) hx hb dX5_ends_22 (by decide) (fun c6 => ?_) (fun c6 => ?_)
        · have hf := zk_f c6 hf
          obtain rfl := Option.some.inj hf
          exact hk _ _ _ hP hD hS (lv_sub hl [0, 1, 2] rfl)
        · have hf := zk_t c6 hf
          refine lv_lload_n hx hb dX5_ends_25 rfl (lv_at hl 2 rfl) ?_
          refine lv_ldc2 hx hb hown lk3 dX5_ends_26 ?_
          refine lv_lxor hx hb dX5_ends_29 ?_
          obtain ⟨y4, ey4, hf⟩ := zk_lt_s hf
          refine zk_topl ey4 ?_
          refine lv_lstore_n (lv' := [(3, .long y4), (0, .ref a_md), (1, .long x0)]) hx hb dX5_ends_30 rfl hl (by decide) rfl (fun ls hl => ?_)
          refine lv_aload_n hx hb dX5_ends_31 rfl (lv_at hl 1 rfl) ?_
          refine lv_dup hx hb dX5_ends_32 rfl ?_
          refine va_get (ci := 5) (v := .int w2) (C := RX5) (T := TX5) (N := 29) hx hb hts inX5 hown hK hP 0 rfl rfl 19 (by decide) lk0 (fun _ h9 => h9) rfl dX5_ends_33 ?_
          refine lv_iconst (v := (1 : Int32)) hx hb dX5_ends_36 (by decide) ?_
          refine lv_isub hx hb dX5_ends_37 ?_
          obtain ⟨y5, ey5, hf⟩ := zk_lt_s hf
          refine zk_topi ey5 ?_
          refine va_put (ci := 5) (v := .int y5) (ty := .int) (C := RX5) (T := TX5) (N := 29) hx hb hts inX5 tyX5 tyX5_ok nmX5 hown hK hP hD hS 0 rfl rfl 19 (by decide) lk0 (fun _ h9 => h9) rfl (by decide +kernel) rfl rfl (Nat.le_of_ble_eq_true rfl) dX5_ends_38 (fun H locs hP hD hS => ?_)
          have hP : va_P D vwCl [(a_md, .inr (5, [.int v_md_length, .ref a_md_text, .int v_md_laws, .int v_md_sayers, .long v_md_there, .long v_md_question, .ref a_md_weight, .ref a_md_says, .ref a_md_cost, .int v_md_measure, .long v_md_trace, .int v_md_readLaws, .int v_md_readSayers, .long v_md_readThere, .ref a_md_readWeight, .ref a_md_readSays, .int v_md_begin, .int v_md_end, .int v_md_sort, .int y5, .ref a_md_opened, .int v_md_level, .ref a_md_any, .ref a_md_all, .long v_md_said, .ref a_md_burdens, .ref a_md_best, .ref a_md_own, .ref a_md_truth])), (a_md_opened, .inl (cI, 9, .inl f_md_opened)), (a_md_all, .inl (cJ, 9, .inr (.inl f_md_all)))] H := hP
          have hD : va_D A [(a_md, .inr (5, [.int v_md_length, .ref a_md_text, .int v_md_laws, .int v_md_sayers, .long v_md_there, .long v_md_question, .ref a_md_weight, .ref a_md_says, .ref a_md_cost, .int v_md_measure, .long v_md_trace, .int v_md_readLaws, .int v_md_readSayers, .long v_md_readThere, .ref a_md_readWeight, .ref a_md_readSays, .int v_md_begin, .int v_md_end, .int v_md_sort, .int y5, .ref a_md_opened, .int v_md_level, .ref a_md_any, .ref a_md_all, .long v_md_said, .ref a_md_burdens, .ref a_md_best, .ref a_md_own, .ref a_md_truth])), (a_md_opened, .inl (cI, 9, .inl f_md_opened)), (a_md_all, .inl (cJ, 9, .inr (.inl f_md_all)))] := hD
          refine lv_goto (tgt := 2) hx hb dX5_ends_41 (by decide) ?_
          exact ih y4 y5 _ _ _ _ hf hP hD hS (lv_sub hl [1, 2, 0] rfl) hk
  obtain ⟨v8, hv8, hf⟩ := zk_ob hf
  refine lp2 zk_F x0 v_md_open v8 _ _ _ hv8 hP hD hS (lv_sub hl [1, 2, 0] rfl) ?_
  intro H locs ls hP hD hS hl
  refine lv_aload_n hx hb dX5_ends_44 rfl (lv_at hl 0 rfl) ?_
  refine va_get (ci := 5) (v := .ref a_md_all) (C := RX5) (T := TX5) (N := 29) hx hb hts inX5 hown hK hP 0 rfl rfl 23 (by decide) lk4 (fun _ h9 => h9) rfl dX5_ends_45 ?_
  refine lv_aload_n hx hb dX5_ends_48 rfl (lv_at hl 0 rfl) ?_
  refine va_get (ci := 5) (v := .int v_md_level) (C := RX5) (T := TX5) (N := 29) hx hb hts inX5 hown hK hP 0 rfl rfl 21 (by decide) lk5 (fun _ h9 => h9) rfl dX5_ends_49 ?_
  refine lv_dup2_11 hx hb dX5_ends_52 rfl rfl ?_
  obtain ⟨g9, hf⟩ := zk_gd_s hf
  refine va_lald hx hb hK hP 2 1 rfl rfl (zk_in_s g9) dX5_ends_53 ?_
  refine lv_lload_n hx hb dX5_ends_54 rfl (lv_at hl 2 rfl) ?_
  refine lv_land hx hb dX5_ends_55 ?_
  refine va_last hx hb hK hP hD hS 2 1 rfl rfl (zk_in_s g9) dX5_ends_56 (fun H locs hP hD hS => ?_)
  have hP : va_P D vwCl [(a_md, .inr (5, [.int v_md_length, .ref a_md_text, .int v_md_laws, .int v_md_sayers, .long v_md_there, .long v_md_question, .ref a_md_weight, .ref a_md_says, .ref a_md_cost, .int v_md_measure, .long v_md_trace, .int v_md_readLaws, .int v_md_readSayers, .long v_md_readThere, .ref a_md_readWeight, .ref a_md_readSays, .int v_md_begin, .int v_md_end, .int v_md_sort, .int v8.2, .ref a_md_opened, .int v_md_level, .ref a_md_any, .ref a_md_all, .long v_md_said, .ref a_md_burdens, .ref a_md_best, .ref a_md_own, .ref a_md_truth])), (a_md_opened, .inl (cI, 9, .inl f_md_opened)), (a_md_all, .inl (cJ, 9, .inr (.inl (vp_updL f_md_all v_md_level.toNatClampNeg ((f_md_all v_md_level.toNatClampNeg) &&& v8.1)))))] H := hP
  have hD : va_D A [(a_md, .inr (5, [.int v_md_length, .ref a_md_text, .int v_md_laws, .int v_md_sayers, .long v_md_there, .long v_md_question, .ref a_md_weight, .ref a_md_says, .ref a_md_cost, .int v_md_measure, .long v_md_trace, .int v_md_readLaws, .int v_md_readSayers, .long v_md_readThere, .ref a_md_readWeight, .ref a_md_readSays, .int v_md_begin, .int v_md_end, .int v_md_sort, .int v8.2, .ref a_md_opened, .int v_md_level, .ref a_md_any, .ref a_md_all, .long v_md_said, .ref a_md_burdens, .ref a_md_best, .ref a_md_own, .ref a_md_truth])), (a_md_opened, .inl (cI, 9, .inl f_md_opened)), (a_md_all, .inl (cJ, 9, .inr (.inl (vp_updL f_md_all v_md_level.toNatClampNeg ((f_md_all v_md_level.toNatClampNeg) &&& v8.1)))))] := hD
  obtain rfl := Option.some.inj hf
  exact hret trivial _ _ _ _ hP hD hS dX5_ends_57
def zl_X5_saying_28 (v_md_length : Int32) (v_md_said : Int64) (f_md_text : Nat → Int32) : Nat → (Int32) → (Int32) → (Int32) → (Int32) → (Int32) → (Int32) → (Nat → Int32) → (Nat → Int64) → (Nat → Int64) → Option (Int32 × Int32 × Int32 × Int32 × Int32 × Int32 × Int64 × (Nat → Int32) × (Nat → Int64) × (Nat → Int64))
  | 0, _, _, _, _, _, _, _, _, _ => none
  | n + 1, w2, w3, w4, w5, w6, w7, w8, w9, w10 =>
    if w2 = 0 then
    if w5 = (38 : Int32) then
    (zf_X5_token v_md_length w4 f_md_text).bind (fun v27 =>
    zl_X5_saying_28 v_md_length v_md_said f_md_text n (1 : Int32) v27.1 v27.2.1 v27.2.2 w6 w7 w8 w9 w10)
    else
    if w5 = (124 : Int32) then
    zk_gd (zk_in w7 9)
    ((zf_X5_token v_md_length w4 f_md_text).bind (fun v25 =>
    zl_X5_saying_28 v_md_length v_md_said f_md_text n (1 : Int32) v25.1 v25.2.1 v25.2.2 w6 w7 w8 (vp_updL w9 w7.toNatClampNeg ((w9 w7.toNatClampNeg) ||| (w10 w7.toNatClampNeg))) (vp_updL w10 w7.toNatClampNeg (-1 : Int64))))
    else
    (if w5 = (41 : Int32) then
    if w7 ≤ 0 then
    some (Sum.inr ())
    else
    zk_gd (zk_in w7 9)
    (zk_lt ((w9 w7.toNatClampNeg) ||| (w10 w7.toNatClampNeg)) (fun y17 =>
    zk_lt (w7 - (1 : Int32)) (fun y18 =>
    zk_lt (w6 - (1 : Int32)) (fun y19 =>
    (zf_X5_ends y17 y19 y18 w8 w10).bind (fun v20 =>
    (zf_X5_token v_md_length w4 f_md_text).bind (fun v21 =>
    some (Sum.inl (y17, v21.1, v21.2.1, v21.2.2, v20.1, y18, v20.2))))))))
    else
    some (Sum.inr ())).bind (fun v11 =>
    zk_su v11
    (fun u12 =>
    zl_X5_saying_28 v_md_length v_md_said f_md_text n w2 u12.2.1 u12.2.2.1 u12.2.2.2.1 u12.2.2.2.2.1 u12.2.2.2.2.2.1 w8 w9 u12.2.2.2.2.2.2)
    (fun u13 =>
    zk_lt ((w9 (0 : Int32).toNatClampNeg) ||| (w10 (0 : Int32).toNatClampNeg)) (fun y14 =>
    if w7 ≤ 0 then
    some ((-1 : Int32), w3, w4, w5, w6, w7, y14, w8, w9, w10)
    else
    some (w3, w3, w4, w5, w6, w7, y14, w8, w9, w10))))
    else
    (if w5 = (33 : Int32) then
    some (1 : Int32)
    else
    if w5 = (40 : Int32) then
    some (1 : Int32)
    else
    some (0 : Int32)).bind (fun v29 =>
    (zf_X5_in w5.toInt64 (97 : Int64) (102 : Int64)).bind (fun v30 =>
    (if v30 = 0 then
    if w5 = (48 : Int32) then
    some (1 : Int32)
    else
    if w5 = (49 : Int32) then
    some (1 : Int32)
    else
    if v29 = 0 then
    some (0 : Int32)
    else
    if (8 : Int32) ≤ w6 then
    some (0 : Int32)
    else
    some (1 : Int32)
    else
    some (1 : Int32)).bind (fun v31 =>
    if v31 = 0 then
    some (w3, w3, w4, w5, w6, w7, v_md_said, w8, w9, w10)
    else
    if v29 = 0 then
    if w5 = (48 : Int32) then
    (zf_X5_ends (0 : Int64) w6 w7 w8 w10).bind (fun v38 =>
    (zf_X5_token v_md_length w4 f_md_text).bind (fun v39 =>
    zl_X5_saying_28 v_md_length v_md_said f_md_text n (0 : Int32) v39.1 v39.2.1 v39.2.2 v38.1 w7 w8 w9 v38.2))
    else
    if w5 = (49 : Int32) then
    (zf_X5_ends (-1 : Int64) w6 w7 w8 w10).bind (fun v35 =>
    (zf_X5_token v_md_length w4 f_md_text).bind (fun v36 =>
    zl_X5_saying_28 v_md_length v_md_said f_md_text n (0 : Int32) v36.1 v36.2.1 v36.2.2 v35.1 w7 w8 w9 v35.2))
    else
    (zf_X5_lettered (w5 - (97 : Int32))).bind (fun v32 =>
    (zf_X5_ends v32 w6 w7 w8 w10).bind (fun v33 =>
    (zf_X5_token v_md_length w4 f_md_text).bind (fun v34 =>
    zl_X5_saying_28 v_md_length v_md_said f_md_text n (0 : Int32) v34.1 v34.2.1 v34.2.2 v33.1 w7 w8 w9 v33.2)))
    else
    zk_gd (zk_in w6 9)
    (zk_lt (w6 + (1 : Int32)) (fun y42 =>
    if w5 = (40 : Int32) then
    zk_lt (w7 + (1 : Int32)) (fun y44 =>
    zk_gd (zk_in y44 9)
    ((zf_X5_token v_md_length w4 f_md_text).bind (fun v46 =>
    zl_X5_saying_28 v_md_length v_md_said f_md_text n w2 v46.1 v46.2.1 v46.2.2 y42 y44 (upd w8 w6.toNatClampNeg w5) (vp_updL w9 y44.toNatClampNeg (0 : Int64)) (vp_updL w10 y44.toNatClampNeg (-1 : Int64)))))
    else
    (zf_X5_token v_md_length w4 f_md_text).bind (fun v43 =>
    zl_X5_saying_28 v_md_length v_md_said f_md_text n w2 v43.1 v43.2.1 v43.2.2 y42 w7 (upd w8 w6.toNatClampNeg w5) w9 w10))))))
def zf_X5_saying (v_md_length : Int32) (v_md_begin : Int32) (v_md_end : Int32) (v_md_sort : Int32) (v_md_said : Int64) (f_md_text : Nat → Int32) (f_md_opened : Nat → Int32) (f_md_any : Nat → Int64) (f_md_all : Nat → Int64) : Option (Int32 × Int32 × Int32 × Int32 × Int32 × Int32 × Int64 × (Nat → Int32) × (Nat → Int64) × (Nat → Int64)) :=
  zk_gd (zk_in (0 : Int32) 9)
  ((zl_X5_saying_28 v_md_length v_md_said f_md_text zk_F (1 : Int32) v_md_begin v_md_end v_md_sort (0 : Int32) (0 : Int32) f_md_opened (vp_updL f_md_any (0 : Int32).toNatClampNeg (0 : Int64)) (vp_updL f_md_all (0 : Int32).toNatClampNeg (-1 : Int64))).bind (fun v58 =>
  (fun r59 => some r59) v58))
theorem hd_X5_saying : yX5_saying.cls = RX5 ∧ yX5_saying.cls ≠ "java/lang/invoke/MethodHandle" ∧ yX5_saying.cls ≠ "java/lang/invoke/VarHandle" ∧ (parseMethodDescriptor yX5_saying.desc).map (fun d => d.parameters.length) = some 0 := by decide +kernel
set_option maxHeartbeats 4000000 in
set_option maxRecDepth 100000 in
theorem zc_X5_saying (l : Launch) (D : va_G) (tL tO : Nat) (cI cJ cB cQ : ClassId) (a_md a_md_text a_md_weight a_md_says a_md_cost a_md_readWeight a_md_readSays a_md_opened a_md_any a_md_all a_md_burdens a_md_best a_md_own a_md_truth : Nat) (v_md_length : Int32) (v_md_laws : Int32) (v_md_sayers : Int32) (v_md_there : Int64) (v_md_question : Int64) (v_md_measure : Int32) (v_md_trace : Int64) (v_md_readLaws : Int32) (v_md_readSayers : Int32) (v_md_readThere : Int64) (v_md_begin : Int32) (v_md_end : Int32) (v_md_sort : Int32) (v_md_open : Int32) (v_md_level : Int32) (v_md_said : Int64) (f_md_text : Nat → Int32) (f_md_opened : Nat → Int32) (f_md_any : Nat → Int64) (f_md_all : Nat → Int64) (z : Int32 × Int32 × Int32 × Int32 × Int32 × Int32 × Int64 × (Nat → Int32) × (Nat → Int64) × (Nat → Int64)) (hf : zf_X5_saying v_md_length v_md_begin v_md_end v_md_sort v_md_said f_md_text f_md_opened f_md_any f_md_all = some z) : zk_CT l D tL tO (zk_ty cI cJ cB cQ) yX5_saying wsX5_saying 3 68 [.ref a_md] (some (.int z.1)) [(a_md, .inr (5, [.int v_md_length, .ref a_md_text, .int v_md_laws, .int v_md_sayers, .long v_md_there, .long v_md_question, .ref a_md_weight, .ref a_md_says, .ref a_md_cost, .int v_md_measure, .long v_md_trace, .int v_md_readLaws, .int v_md_readSayers, .long v_md_readThere, .ref a_md_readWeight, .ref a_md_readSays, .int v_md_begin, .int v_md_end, .int v_md_sort, .int v_md_open, .ref a_md_opened, .int v_md_level, .ref a_md_any, .ref a_md_all, .long v_md_said, .ref a_md_burdens, .ref a_md_best, .ref a_md_own, .ref a_md_truth])), (a_md_text, .inl (cB, 300, .inl f_md_text)), (a_md_opened, .inl (cI, 9, .inl f_md_opened)), (a_md_any, .inl (cJ, 9, .inr (.inl f_md_any))), (a_md_all, .inl (cJ, 9, .inr (.inl f_md_all)))] [(a_md, .inr (5, [.int v_md_length, .ref a_md_text, .int v_md_laws, .int v_md_sayers, .long v_md_there, .long v_md_question, .ref a_md_weight, .ref a_md_says, .ref a_md_cost, .int v_md_measure, .long v_md_trace, .int v_md_readLaws, .int v_md_readSayers, .long v_md_readThere, .ref a_md_readWeight, .ref a_md_readSays, .int z.2.1, .int z.2.2.1, .int z.2.2.2.1, .int z.2.2.2.2.1, .ref a_md_opened, .int z.2.2.2.2.2.1, .ref a_md_any, .ref a_md_all, .long z.2.2.2.2.2.2.1, .ref a_md_burdens, .ref a_md_best, .ref a_md_own, .ref a_md_truth])), (a_md_text, .inl (cB, 300, .inl f_md_text)), (a_md_opened, .inl (cI, 9, .inl z.2.2.2.2.2.2.2.1)), (a_md_any, .inl (cJ, 9, .inr (.inl z.2.2.2.2.2.2.2.2.1))), (a_md_all, .inl (cJ, 9, .inr (.inl z.2.2.2.2.2.2.2.2.2)))] := by
  refine zk_of_i (cc := cX5_saying) (maxL := 4) (by decide) rfl (Nat.le_of_ble_eq_true rfl) ?_
  intro p e R s m args below meth c A Q ls hx hb hml hRf hRl hts hown hP hK hD hA hS hG hl hret
  have hl : lv_has ls 4 [(0, .ref a_md)] := hl
  have hown : s.vm.findClass RX5 = some m.cls := hown
  have hcs : 0 ≤ R.cells ∧ 0 ≤ R.slots := ⟨Nat.zero_le _, Nat.zero_le _⟩
  have lk0 := hts (.fieldLink RX5 99 "SayingsMergedModel" "open" "I") (by decide +kernel)
  have inX5 : ∀ w ∈ wsX50, w ∈ wsX5_saying := by decide +kernel
  have lk2 := hts (.fieldLink RX5 102 "SayingsMergedModel" "level" "I") (by decide +kernel)
  have lk3 := hts (.fieldLink RX5 42 "SayingsMergedModel" "any" "[J") (by decide +kernel)
  have lk4 := hts (.fieldLink RX5 45 "SayingsMergedModel" "all" "[J") (by decide +kernel)
  have lk5 := hts (.constantLong RX5 13 (-1)) (by decide +kernel)
  have lk6 := hts (.fieldLink RX5 84 "SayingsMergedModel" "sort" "I") (by decide +kernel)
  have lk7 := hts (.fieldLink RX5 115 "SayingsMergedModel" "said" "J") (by decide +kernel)
  have lk8 := hts (.fieldLink RX5 81 "SayingsMergedModel" "begin" "I") (by decide +kernel)
  have lk9 := hts (.constantLong RX5 74 (97)) (by decide +kernel)
  have lk10 := hts (.constantLong RX5 105 (102)) (by decide +kernel)
  have lk11 := hts (.fieldLink RX5 39 "SayingsMergedModel" "opened" "[I") (by decide +kernel)
  unfold zf_X5_saying at hf
  refine lv_aload_n hx hb dX5_saying_0 rfl (lv_at hl 0 rfl) ?_
  refine lv_iconst (v := (0 : Int32)) hx hb dX5_saying_1 (by decide) ?_
  refine va_put (ci := 5) (v := .int (0 : Int32)) (ty := .int) (C := RX5) (T := TX5) (N := 29) hx hb hts inX5 tyX5 tyX5_ok nmX5 hown hK hP hD hS 0 rfl rfl 19 (by decide) lk0 (fun _ h9 => h9) rfl (by decide +kernel) rfl rfl (Nat.le_of_ble_eq_true rfl) dX5_saying_2 (fun H locs hP hD hS => ?_)
  have hP : va_P D vwCl [(a_md, .inr (5, [.int v_md_length, .ref a_md_text, .int v_md_laws, .int v_md_sayers, .long v_md_there, .long v_md_question, .ref a_md_weight, .ref a_md_says, .ref a_md_cost, .int v_md_measure, .long v_md_trace, .int v_md_readLaws, .int v_md_readSayers, .long v_md_readThere, .ref a_md_readWeight, .ref a_md_readSays, .int v_md_begin, .int v_md_end, .int v_md_sort, .int (0 : Int32), .ref a_md_opened, .int v_md_level, .ref a_md_any, .ref a_md_all, .long v_md_said, .ref a_md_burdens, .ref a_md_best, .ref a_md_own, .ref a_md_truth])), (a_md_text, .inl (cB, 300, .inl f_md_text)), (a_md_opened, .inl (cI, 9, .inl f_md_opened)), (a_md_any, .inl (cJ, 9, .inr (.inl f_md_any))), (a_md_all, .inl (cJ, 9, .inr (.inl f_md_all)))] H := hP
  have hD : va_D A [(a_md, .inr (5, [.int v_md_length, .ref a_md_text, .int v_md_laws, .int v_md_sayers, .long v_md_there, .long v_md_question, .ref a_md_weight, .ref a_md_says, .ref a_md_cost, .int v_md_measure, .long v_md_trace, .int v_md_readLaws, .int v_md_readSayers, .long v_md_readThere, .ref a_md_readWeight, .ref a_md_readSays, .int v_md_begin, .int v_md_end, .int v_md_sort, .int (0 : Int32), .ref a_md_opened, .int v_md_level, .ref a_md_any, .ref a_md_all, .long v_md_said, .ref a_md_burdens, .ref a_md_best, .ref a_md_own, .ref a_md_truth])), (a_md_text, .inl (cB, 300, .inl f_md_text)), (a_md_opened, .inl (cI, 9, .inl f_md_opened)), (a_md_any, .inl (cJ, 9, .inr (.inl f_md_any))), (a_md_all, .inl (cJ, 9, .inr (.inl f_md_all)))] := hD
  refine lv_aload_n hx hb dX5_saying_5 rfl (lv_at hl 0 rfl) ?_
  refine lv_iconst (v := (0 : Int32)) hx hb dX5_saying_6 (by decide) ?_
  refine va_put (ci := 5) (v := .int (0 : Int32)) (ty := .int) (C := RX5) (T := TX5) (N := 29) hx hb hts inX5 tyX5 tyX5_ok nmX5 hown hK hP hD hS 0 rfl rfl 21 (by decide) lk2 (fun _ h9 => h9) rfl (by decide +kernel) rfl rfl (Nat.le_of_ble_eq_true rfl) dX5_saying_7 (fun H locs hP hD hS => ?_)
  have hP : va_P D vwCl [(a_md, .inr (5, [.int v_md_length, .ref a_md_text, .int v_md_laws, .int v_md_sayers, .long v_md_there, .long v_md_question, .ref a_md_weight, .ref a_md_says, .ref a_md_cost, .int v_md_measure, .long v_md_trace, .int v_md_readLaws, .int v_md_readSayers, .long v_md_readThere, .ref a_md_readWeight, .ref a_md_readSays, .int v_md_begin, .int v_md_end, .int v_md_sort, .int (0 : Int32), .ref a_md_opened, .int (0 : Int32), .ref a_md_any, .ref a_md_all, .long v_md_said, .ref a_md_burdens, .ref a_md_best, .ref a_md_own, .ref a_md_truth])), (a_md_text, .inl (cB, 300, .inl f_md_text)), (a_md_opened, .inl (cI, 9, .inl f_md_opened)), (a_md_any, .inl (cJ, 9, .inr (.inl f_md_any))), (a_md_all, .inl (cJ, 9, .inr (.inl f_md_all)))] H := hP
  have hD : va_D A [(a_md, .inr (5, [.int v_md_length, .ref a_md_text, .int v_md_laws, .int v_md_sayers, .long v_md_there, .long v_md_question, .ref a_md_weight, .ref a_md_says, .ref a_md_cost, .int v_md_measure, .long v_md_trace, .int v_md_readLaws, .int v_md_readSayers, .long v_md_readThere, .ref a_md_readWeight, .ref a_md_readSays, .int v_md_begin, .int v_md_end, .int v_md_sort, .int (0 : Int32), .ref a_md_opened, .int (0 : Int32), .ref a_md_any, .ref a_md_all, .long v_md_said, .ref a_md_burdens, .ref a_md_best, .ref a_md_own, .ref a_md_truth])), (a_md_text, .inl (cB, 300, .inl f_md_text)), (a_md_opened, .inl (cI, 9, .inl f_md_opened)), (a_md_any, .inl (cJ, 9, .inr (.inl f_md_any))), (a_md_all, .inl (cJ, 9, .inr (.inl f_md_all)))] := hD
  refine lv_aload_n hx hb dX5_saying_10 rfl (lv_at hl 0 rfl) ?_
  refine va_get (ci := 5) (v := .ref a_md_any) (C := RX5) (T := TX5) (N := 29) hx hb hts inX5 hown hK hP 0 rfl rfl 22 (by decide) lk3 (fun _ h9 => h9) rfl dX5_saying_11 ?_
  refine lv_iconst (v := (0 : Int32)) hx hb dX5_saying_14 (by decide) ?_
  refine lv_lconst (v := (0 : Int64)) hx hb dX5_saying_15 (by decide) ?_
  obtain ⟨g1, hf⟩ := zk_gd_s hf
  refine va_last hx hb hK hP hD hS 3 1 rfl rfl (zk_in_s g1) dX5_saying_16 (fun H locs hP hD hS => ?_)
  have hP : va_P D vwCl [(a_md, .inr (5, [.int v_md_length, .ref a_md_text, .int v_md_laws, .int v_md_sayers, .long v_md_there, .long v_md_question, .ref a_md_weight, .ref a_md_says, .ref a_md_cost, .int v_md_measure, .long v_md_trace, .int v_md_readLaws, .int v_md_readSayers, .long v_md_readThere, .ref a_md_readWeight, .ref a_md_readSays, .int v_md_begin, .int v_md_end, .int v_md_sort, .int (0 : Int32), .ref a_md_opened, .int (0 : Int32), .ref a_md_any, .ref a_md_all, .long v_md_said, .ref a_md_burdens, .ref a_md_best, .ref a_md_own, .ref a_md_truth])), (a_md_text, .inl (cB, 300, .inl f_md_text)), (a_md_opened, .inl (cI, 9, .inl f_md_opened)), (a_md_any, .inl (cJ, 9, .inr (.inl (vp_updL f_md_any (0 : Int32).toNatClampNeg (0 : Int64))))), (a_md_all, .inl (cJ, 9, .inr (.inl f_md_all)))] H := hP
  have hD : va_D A [(a_md, .inr (5, [.int v_md_length, .ref a_md_text, .int v_md_laws, .int v_md_sayers, .long v_md_there, .long v_md_question, .ref a_md_weight, .ref a_md_says, .ref a_md_cost, .int v_md_measure, .long v_md_trace, .int v_md_readLaws, .int v_md_readSayers, .long v_md_readThere, .ref a_md_readWeight, .ref a_md_readSays, .int v_md_begin, .int v_md_end, .int v_md_sort, .int (0 : Int32), .ref a_md_opened, .int (0 : Int32), .ref a_md_any, .ref a_md_all, .long v_md_said, .ref a_md_burdens, .ref a_md_best, .ref a_md_own, .ref a_md_truth])), (a_md_text, .inl (cB, 300, .inl f_md_text)), (a_md_opened, .inl (cI, 9, .inl f_md_opened)), (a_md_any, .inl (cJ, 9, .inr (.inl (vp_updL f_md_any (0 : Int32).toNatClampNeg (0 : Int64))))), (a_md_all, .inl (cJ, 9, .inr (.inl f_md_all)))] := hD
  refine lv_aload_n hx hb dX5_saying_17 rfl (lv_at hl 0 rfl) ?_
  refine va_get (ci := 5) (v := .ref a_md_all) (C := RX5) (T := TX5) (N := 29) hx hb hts inX5 hown hK hP 0 rfl rfl 23 (by decide) lk4 (fun _ h9 => h9) rfl dX5_saying_18 ?_
  refine lv_iconst (v := (0 : Int32)) hx hb dX5_saying_21 (by decide) ?_
  refine lv_ldc2 hx hb hown lk5 dX5_saying_22 ?_
  refine va_last hx hb hK hP hD hS 4 1 rfl rfl (zk_in_s g1) dX5_saying_25 (fun H locs hP hD hS => ?_)
  have hP : va_P D vwCl [(a_md, .inr (5, [.int v_md_length, .ref a_md_text, .int v_md_laws, .int v_md_sayers, .long v_md_there, .long v_md_question, .ref a_md_weight, .ref a_md_says, .ref a_md_cost, .int v_md_measure, .long v_md_trace, .int v_md_readLaws, .int v_md_readSayers, .long v_md_readThere, .ref a_md_readWeight, .ref a_md_readSays, .int v_md_begin, .int v_md_end, .int v_md_sort, .int (0 : Int32), .ref a_md_opened, .int (0 : Int32), .ref a_md_any, .ref a_md_all, .long v_md_said, .ref a_md_burdens, .ref a_md_best, .ref a_md_own, .ref a_md_truth])), (a_md_text, .inl (cB, 300, .inl f_md_text)), (a_md_opened, .inl (cI, 9, .inl f_md_opened)), (a_md_any, .inl (cJ, 9, .inr (.inl (vp_updL f_md_any (0 : Int32).toNatClampNeg (0 : Int64))))), (a_md_all, .inl (cJ, 9, .inr (.inl (vp_updL f_md_all (0 : Int32).toNatClampNeg (-1 : Int64)))))] H := hP
  have hD : va_D A [(a_md, .inr (5, [.int v_md_length, .ref a_md_text, .int v_md_laws, .int v_md_sayers, .long v_md_there, .long v_md_question, .ref a_md_weight, .ref a_md_says, .ref a_md_cost, .int v_md_measure, .long v_md_trace, .int v_md_readLaws, .int v_md_readSayers, .long v_md_readThere, .ref a_md_readWeight, .ref a_md_readSays, .int v_md_begin, .int v_md_end, .int v_md_sort, .int (0 : Int32), .ref a_md_opened, .int (0 : Int32), .ref a_md_any, .ref a_md_all, .long v_md_said, .ref a_md_burdens, .ref a_md_best, .ref a_md_own, .ref a_md_truth])), (a_md_text, .inl (cB, 300, .inl f_md_text)), (a_md_opened, .inl (cI, 9, .inl f_md_opened)), (a_md_any, .inl (cJ, 9, .inr (.inl (vp_updL f_md_any (0 : Int32).toNatClampNeg (0 : Int64))))), (a_md_all, .inl (cJ, 9, .inr (.inl (vp_updL f_md_all (0 : Int32).toNatClampNeg (-1 : Int64)))))] := hD
  refine lv_iconst (v := (1 : Int32)) hx hb dX5_saying_26 (by decide) ?_
  refine lv_istore_n (lv' := [(1, .int (1 : Int32)), (0, .ref a_md)]) hx hb dX5_saying_27 rfl hl (by decide) rfl (fun ls hl => ?_)
  have lp28 : ∀ (n : Nat) (w2 : Int32) (w3 : Int32) (w4 : Int32) (w5 : Int32) (w6 : Int32) (w7 : Int32) (w8 : Nat → Int32) (w9 : Nat → Int64) (w10 : Nat → Int64) (z28 : Int32 × Int32 × Int32 × Int32 × Int32 × Int32 × Int64 × (Nat → Int32) × (Nat → Int64) × (Nat → Int64)) (H : Heap) (locs : List Loc) (ls : Array Slot), zl_X5_saying_28 v_md_length v_md_said f_md_text n w2 w3 w4 w5 w6 w7 w8 w9 w10 = some z28 → va_P D vwCl [(a_md, .inr (5, [.int v_md_length, .ref a_md_text, .int v_md_laws, .int v_md_sayers, .long v_md_there, .long v_md_question, .ref a_md_weight, .ref a_md_says, .ref a_md_cost, .int v_md_measure, .long v_md_trace, .int v_md_readLaws, .int v_md_readSayers, .long v_md_readThere, .ref a_md_readWeight, .ref a_md_readSays, .int w3, .int w4, .int w5, .int w6, .ref a_md_opened, .int w7, .ref a_md_any, .ref a_md_all, .long v_md_said, .ref a_md_burdens, .ref a_md_best, .ref a_md_own, .ref a_md_truth])), (a_md_text, .inl (cB, 300, .inl f_md_text)), (a_md_opened, .inl (cI, 9, .inl w8)), (a_md_any, .inl (cJ, 9, .inr (.inl w9))), (a_md_all, .inl (cJ, 9, .inr (.inl w10)))] H → va_D A [(a_md, .inr (5, [.int v_md_length, .ref a_md_text, .int v_md_laws, .int v_md_sayers, .long v_md_there, .long v_md_question, .ref a_md_weight, .ref a_md_says, .ref a_md_cost, .int v_md_measure, .long v_md_trace, .int v_md_readLaws, .int v_md_readSayers, .long v_md_readThere, .ref a_md_readWeight, .ref a_md_readSays, .int w3, .int w4, .int w5, .int w6, .ref a_md_opened, .int w7, .ref a_md_any, .ref a_md_all, .long v_md_said, .ref a_md_burdens, .ref a_md_best, .ref a_md_own, .ref a_md_truth])), (a_md_text, .inl (cB, 300, .inl f_md_text)), (a_md_opened, .inl (cI, 9, .inl w8)), (a_md_any, .inl (cJ, 9, .inr (.inl w9))), (a_md_all, .inl (cJ, 9, .inr (.inl w10)))] → va_S A s.heap H locs → lv_has ls 4 [(0, .ref a_md), (1, .int w2)] → (∀ r : Int32 × Int32 × Int32 × Int32 × Int32 × Int32 × Int64 × (Nat → Int32) × (Nat → Int64) × (Nat → Int64), z28 = r → r = z) → W p l e R s m args below meth c H locs 0 0 Q (F0 m 28 ls []) := by
    intro n
    induction n with
    | zero => intro w2 w3 w4 w5 w6 w7 w8 w9 w10 z28 H locs ls hf; exact absurd (show none = some z28 from hf) (by simp)
    | succ n ih =>
      intro w2 w3 w4 w5 w6 w7 w8 w9 w10 z28 H locs ls hf hP hD hS hl hkr
      rw [zl_X5_saying_28] at hf
      refine lv_iload_n hx hb dX5_saying_28 rfl (lv_at hl 1 rfl) ?_
      refine lv_if_eq (tgt := 237) hx hb dX5_saying_29 (by decide) (fun c57 => ?_) (fun c57 => ?_)
      · have hf := zk_t c57 hf
        refine lv_aload_n hx hb dX5_saying_237 rfl (lv_at hl 0 rfl) ?_
        refine va_get (ci := 5) (v := .int w5) (C := RX5) (T := TX5) (N := 29) hx hb hts inX5 hown hK hP 0 rfl rfl 18 (by decide) lk6 (fun _ h9 => h9) rfl dX5_saying_238 ?_
        refine lv_bipush (v := (38 : Int32)) hx hb dX5_saying_241 (by decide) ?_
        refine lv_icmp_ne (tgt := 251) hx hb dX5_saying_243 (by decide) (fun c28 => ?_) (fun c28 => ?_)
        · have hf := zk_f c28 hf
          refine lv_aload_n hx hb dX5_saying_251 rfl (lv_at hl 0 rfl) ?_
          refine va_get (ci := 5) (v := .int w5) (C := RX5) (T := TX5) (N := 29) hx hb hts inX5 hown hK hP 0 rfl rfl 18 (by decide) lk6 (fun _ h9 => h9) rfl dX5_saying_252 ?_
          refine lv_bipush (v := (124 : Int32)) hx hb dX5_saying_255 (by decide) ?_
          refine lv_icmp_ne (tgt := 298) hx hb dX5_saying_257 (by decide) (fun c26 => ?_) (fun c26 => ?_)
          · have hf := zk_f c26 hf
            refine lv_aload_n hx hb dX5_saying_298 rfl (lv_at hl 0 rfl) ?_
            refine va_get (ci := 5) (v := .int w5) (C := RX5) (T := TX5) (N := 29) hx hb hts inX5 hown hK hP 0 rfl rfl 18 (by decide) lk6 (fun _ h9 => h9) rfl dX5_saying_299 ?_
            refine lv_bipush (v := (41 : Int32)) hx hb dX5_saying_302 (by decide) ?_
            obtain ⟨v11, hv11, hf⟩ := zk_ob hf
            have kv11_0 : ∀ u12 : Int64 × Int32 × Int32 × Int32 × Int32 × Int32 × (Nat → Int64), v11 = Sum.inl u12 → ∀ (H : Heap) (locs : List Loc) (ls : Array Slot), va_P D vwCl [(a_md, .inr (5, [.int v_md_length, .ref a_md_text, .int v_md_laws, .int v_md_sayers, .long v_md_there, .long v_md_question, .ref a_md_weight, .ref a_md_says, .ref a_md_cost, .int v_md_measure, .long v_md_trace, .int v_md_readLaws, .int v_md_readSayers, .long v_md_readThere, .ref a_md_readWeight, .ref a_md_readSays, .int u12.2.1, .int u12.2.2.1, .int u12.2.2.2.1, .int u12.2.2.2.2.1, .ref a_md_opened, .int u12.2.2.2.2.2.1, .ref a_md_any, .ref a_md_all, .long v_md_said, .ref a_md_burdens, .ref a_md_best, .ref a_md_own, .ref a_md_truth])), (a_md_text, .inl (cB, 300, .inl f_md_text)), (a_md_opened, .inl (cI, 9, .inl w8)), (a_md_any, .inl (cJ, 9, .inr (.inl w9))), (a_md_all, .inl (cJ, 9, .inr (.inl u12.2.2.2.2.2.2)))] H → va_D A [(a_md, .inr (5, [.int v_md_length, .ref a_md_text, .int v_md_laws, .int v_md_sayers, .long v_md_there, .long v_md_question, .ref a_md_weight, .ref a_md_says, .ref a_md_cost, .int v_md_measure, .long v_md_trace, .int v_md_readLaws, .int v_md_readSayers, .long v_md_readThere, .ref a_md_readWeight, .ref a_md_readSays, .int u12.2.1, .int u12.2.2.1, .int u12.2.2.2.1, .int u12.2.2.2.2.1, .ref a_md_opened, .int u12.2.2.2.2.2.1, .ref a_md_any, .ref a_md_all, .long v_md_said, .ref a_md_burdens, .ref a_md_best, .ref a_md_own, .ref a_md_truth])), (a_md_text, .inl (cB, 300, .inl f_md_text)), (a_md_opened, .inl (cI, 9, .inl w8)), (a_md_any, .inl (cJ, 9, .inr (.inl w9))), (a_md_all, .inl (cJ, 9, .inr (.inl u12.2.2.2.2.2.2)))] → va_S A s.heap H locs → lv_has ls 4 [(0, .ref a_md), (1, .int w2), (2, .long u12.1)] → W p l e R s m args below meth c H locs 0 0 Q (F0 m 28 ls []) := by
              intro u12 hu12 H locs ls hP hD hS hl
              subst hu12
              have hf := zk_su_l hf
              exact ih w2 u12.2.1 u12.2.2.1 u12.2.2.2.1 u12.2.2.2.2.1 u12.2.2.2.2.2.1 w8 w9 u12.2.2.2.2.2.2 _ _ _ _ hf hP hD hS (lv_sub hl [0, 1] rfl) hkr
            have kv11_1 : ∀ u13 : Unit, v11 = Sum.inr u13 → ∀ (H : Heap) (locs : List Loc) (ls : Array Slot), va_P D vwCl [(a_md, .inr (5, [.int v_md_length, .ref a_md_text, .int v_md_laws, .int v_md_sayers, .long v_md_there, .long v_md_question, .ref a_md_weight, .ref a_md_says, .ref a_md_cost, .int v_md_measure, .long v_md_trace, .int v_md_readLaws, .int v_md_readSayers, .long v_md_readThere, .ref a_md_readWeight, .ref a_md_readSays, .int w3, .int w4, .int w5, .int w6, .ref a_md_opened, .int w7, .ref a_md_any, .ref a_md_all, .long v_md_said, .ref a_md_burdens, .ref a_md_best, .ref a_md_own, .ref a_md_truth])), (a_md_text, .inl (cB, 300, .inl f_md_text)), (a_md_opened, .inl (cI, 9, .inl w8)), (a_md_any, .inl (cJ, 9, .inr (.inl w9))), (a_md_all, .inl (cJ, 9, .inr (.inl w10)))] H → va_D A [(a_md, .inr (5, [.int v_md_length, .ref a_md_text, .int v_md_laws, .int v_md_sayers, .long v_md_there, .long v_md_question, .ref a_md_weight, .ref a_md_says, .ref a_md_cost, .int v_md_measure, .long v_md_trace, .int v_md_readLaws, .int v_md_readSayers, .long v_md_readThere, .ref a_md_readWeight, .ref a_md_readSays, .int w3, .int w4, .int w5, .int w6, .ref a_md_opened, .int w7, .ref a_md_any, .ref a_md_all, .long v_md_said, .ref a_md_burdens, .ref a_md_best, .ref a_md_own, .ref a_md_truth])), (a_md_text, .inl (cB, 300, .inl f_md_text)), (a_md_opened, .inl (cI, 9, .inl w8)), (a_md_any, .inl (cJ, 9, .inr (.inl w9))), (a_md_all, .inl (cJ, 9, .inr (.inl w10)))] → va_S A s.heap H locs → lv_has ls 4 [(0, .ref a_md), (1, .int w2)] → W p l e R s m args below meth c H locs 0 0 Q (F0 m 362 ls []) := by
              intro u13 hu13 H locs ls hP hD hS hl
              subst hu13
              have hf := zk_su_r hf
              refine lv_aload_n hx hb dX5_saying_362 rfl (lv_at hl 0 rfl) ?_
              refine lv_aload_n hx hb dX5_saying_363 rfl (lv_at hl 0 rfl) ?_
              refine va_get (ci := 5) (v := .ref a_md_any) (C := RX5) (T := TX5) (N := 29) hx hb hts inX5 hown hK hP 0 rfl rfl 22 (by decide) lk3 (fun _ h9 => h9) rfl dX5_saying_364 ?_
              refine lv_iconst (v := (0 : Int32)) hx hb dX5_saying_367 (by decide) ?_
              refine va_lald hx hb hK hP 3 1 rfl rfl (zk_in_s g1) dX5_saying_368 ?_
              refine lv_aload_n hx hb dX5_saying_369 rfl (lv_at hl 0 rfl) ?_
              refine va_get (ci := 5) (v := .ref a_md_all) (C := RX5) (T := TX5) (N := 29) hx hb hts inX5 hown hK hP 0 rfl rfl 23 (by decide) lk4 (fun _ h9 => h9) rfl dX5_saying_370 ?_
              refine lv_iconst (v := (0 : Int32)) hx hb dX5_saying_373 (by decide) ?_
              refine va_lald hx hb hK hP 4 1 rfl rfl (zk_in_s g1) dX5_saying_374 ?_
              refine lv_lor hx hb dX5_saying_375 ?_
              obtain ⟨y14, ey14, hf⟩ := zk_lt_s hf
              refine zk_topl ey14 ?_
              refine va_put (ci := 5) (v := .long y14) (ty := .long) (C := RX5) (T := TX5) (N := 29) hx hb hts inX5 tyX5 tyX5_ok nmX5 hown hK hP hD hS 0 rfl rfl 24 (by decide) lk7 (fun _ h9 => h9) rfl (by decide +kernel) rfl rfl (Nat.le_of_ble_eq_true rfl) dX5_saying_376 (fun H locs hP hD hS => ?_)
              have hP : va_P D vwCl [(a_md, .inr (5, [.int v_md_length, .ref a_md_text, .int v_md_laws, .int v_md_sayers, .long v_md_there, .long v_md_question, .ref a_md_weight, .ref a_md_says, .ref a_md_cost, .int v_md_measure, .long v_md_trace, .int v_md_readLaws, .int v_md_readSayers, .long v_md_readThere, .ref a_md_readWeight, .ref a_md_readSays, .int w3, .int w4, .int w5, .int w6, .ref a_md_opened, .int w7, .ref a_md_any, .ref a_md_all, .long y14, .ref a_md_burdens, .ref a_md_best, .ref a_md_own, .ref a_md_truth])), (a_md_text, .inl (cB, 300, .inl f_md_text)), (a_md_opened, .inl (cI, 9, .inl w8)), (a_md_any, .inl (cJ, 9, .inr (.inl w9))), (a_md_all, .inl (cJ, 9, .inr (.inl w10)))] H := hP
              have hD : va_D A [(a_md, .inr (5, [.int v_md_length, .ref a_md_text, .int v_md_laws, .int v_md_sayers, .long v_md_there, .long v_md_question, .ref a_md_weight, .ref a_md_says, .ref a_md_cost, .int v_md_measure, .long v_md_trace, .int v_md_readLaws, .int v_md_readSayers, .long v_md_readThere, .ref a_md_readWeight, .ref a_md_readSays, .int w3, .int w4, .int w5, .int w6, .ref a_md_opened, .int w7, .ref a_md_any, .ref a_md_all, .long y14, .ref a_md_burdens, .ref a_md_best, .ref a_md_own, .ref a_md_truth])), (a_md_text, .inl (cB, 300, .inl f_md_text)), (a_md_opened, .inl (cI, 9, .inl w8)), (a_md_any, .inl (cJ, 9, .inr (.inl w9))), (a_md_all, .inl (cJ, 9, .inr (.inl w10)))] := hD
              refine lv_aload_n hx hb dX5_saying_379 rfl (lv_at hl 0 rfl) ?_
              refine va_get (ci := 5) (v := .int w7) (C := RX5) (T := TX5) (N := 29) hx hb hts inX5 hown hK hP 0 rfl rfl 21 (by decide) lk2 (fun _ h9 => h9) rfl dX5_saying_380 ?_
              refine lv_if_le (tgt := 393) hx hb dX5_saying_383 (by decide) (fun c15 => ?_) (fun c15 => ?_)
              · have hf := zk_t c15 hf
                refine lv_iconst (v := (-1 : Int32)) hx hb dX5_saying_393 (by decide) ?_
                obtain rfl := hkr _ (Option.some.inj hf).symm
                exact hret trivial _ _ _ _ hP hD hS dX5_saying_394
              · have hf := zk_f c15 hf
                refine lv_aload_n hx hb dX5_saying_386 rfl (lv_at hl 0 rfl) ?_
                refine va_get (ci := 5) (v := .int w3) (C := RX5) (T := TX5) (N := 29) hx hb hts inX5 hown hK hP 0 rfl rfl 16 (by decide) lk8 (fun _ h9 => h9) rfl dX5_saying_387 ?_
                refine lv_goto (tgt := 394) hx hb dX5_saying_390 (by decide) ?_
                obtain rfl := hkr _ (Option.some.inj hf).symm
                exact hret trivial _ _ _ _ hP hD hS dX5_saying_394
            replace hf := hv11
            refine lv_icmp_ne (tgt := 362) hx hb dX5_saying_304 (by decide) (fun c23 => ?_) (fun c23 => ?_)
            · have hf := zk_f c23 hf
              exact kv11_1 _ (Option.some.inj hf).symm _ _ _ hP hD hS (lv_sub hl [0, 1] rfl)
            · have hf := zk_t c23 hf
              refine lv_aload_n hx hb dX5_saying_307 rfl (lv_at hl 0 rfl) ?_
              refine va_get (ci := 5) (v := .int w7) (C := RX5) (T := TX5) (N := 29) hx hb hts inX5 hown hK hP 0 rfl rfl 21 (by decide) lk2 (fun _ h9 => h9) rfl dX5_saying_308 ?_
              refine lv_if_le (tgt := 362) hx hb dX5_saying_311 (by decide) (fun c22 => ?_) (fun c22 => ?_)
              · have hf := zk_t c22 hf
                exact kv11_1 _ (Option.some.inj hf).symm _ _ _ hP hD hS (lv_sub hl [0, 1] rfl)
              · have hf := zk_f c22 hf
                refine lv_aload_n hx hb dX5_saying_314 rfl (lv_at hl 0 rfl) ?_
                refine va_get (ci := 5) (v := .ref a_md_any) (C := RX5) (T := TX5) (N := 29) hx hb hts inX5 hown hK hP 0 rfl rfl 22 (by decide) lk3 (fun _ h9 => h9) rfl dX5_saying_315 ?_
                refine lv_aload_n hx hb dX5_saying_318 rfl (lv_at hl 0 rfl) ?_
                refine va_get (ci := 5) (v := .int w7) (C := RX5) (T := TX5) (N := 29) hx hb hts inX5 hown hK hP 0 rfl rfl 21 (by decide) lk2 (fun _ h9 => h9) rfl dX5_saying_319 ?_
                obtain ⟨g16, hf⟩ := zk_gd_s hf
                refine va_lald hx hb hK hP 3 1 rfl rfl (zk_in_s g16) dX5_saying_322 ?_
                refine lv_aload_n hx hb dX5_saying_323 rfl (lv_at hl 0 rfl) ?_
                refine va_get (ci := 5) (v := .ref a_md_all) (C := RX5) (T := TX5) (N := 29) hx hb hts inX5 hown hK hP 0 rfl rfl 23 (by decide) lk4 (fun _ h9 => h9) rfl dX5_saying_324 ?_
                refine lv_aload_n hx hb dX5_saying_327 rfl (lv_at hl 0 rfl) ?_
                refine va_get (ci := 5) (v := .int w7) (C := RX5) (T := TX5) (N := 29) hx hb hts inX5 hown hK hP 0 rfl rfl 21 (by decide) lk2 (fun _ h9 => h9) rfl dX5_saying_328 ?_
                refine va_lald hx hb hK hP 4 1 rfl rfl (zk_in_s g16) dX5_saying_331 ?_
                refine lv_lor hx hb dX5_saying_332 ?_
                obtain ⟨y17, ey17, hf⟩ := zk_lt_s hf
                refine zk_topl ey17 ?_
                refine lv_lstore_n (lv' := [(2, .long y17), (0, .ref a_md), (1, .int w2)]) hx hb dX5_saying_333 rfl hl (by decide) rfl (fun ls hl => ?_)
                refine lv_aload_n hx hb dX5_saying_334 rfl (lv_at hl 1 rfl) ?_
                refine lv_dup hx hb dX5_saying_335 rfl ?_
                refine va_get (ci := 5) (v := .int w7) (C := RX5) (T := TX5) (N := 29) hx hb hts inX5 hown hK hP 0 rfl rfl 21 (by decide) lk2 (fun _ h9 => h9) rfl dX5_saying_336 ?_
                refine lv_iconst (v := (1 : Int32)) hx hb dX5_saying_339 (by decide) ?_
                refine lv_isub hx hb dX5_saying_340 ?_
                obtain ⟨y18, ey18, hf⟩ := zk_lt_s hf
                refine zk_topi ey18 ?_
                refine va_put (ci := 5) (v := .int y18) (ty := .int) (C := RX5) (T := TX5) (N := 29) hx hb hts inX5 tyX5 tyX5_ok nmX5 hown hK hP hD hS 0 rfl rfl 21 (by decide) lk2 (fun _ h9 => h9) rfl (by decide +kernel) rfl rfl (Nat.le_of_ble_eq_true rfl) dX5_saying_341 (fun H locs hP hD hS => ?_)
                have hP : va_P D vwCl [(a_md, .inr (5, [.int v_md_length, .ref a_md_text, .int v_md_laws, .int v_md_sayers, .long v_md_there, .long v_md_question, .ref a_md_weight, .ref a_md_says, .ref a_md_cost, .int v_md_measure, .long v_md_trace, .int v_md_readLaws, .int v_md_readSayers, .long v_md_readThere, .ref a_md_readWeight, .ref a_md_readSays, .int w3, .int w4, .int w5, .int w6, .ref a_md_opened, .int y18, .ref a_md_any, .ref a_md_all, .long v_md_said, .ref a_md_burdens, .ref a_md_best, .ref a_md_own, .ref a_md_truth])), (a_md_text, .inl (cB, 300, .inl f_md_text)), (a_md_opened, .inl (cI, 9, .inl w8)), (a_md_any, .inl (cJ, 9, .inr (.inl w9))), (a_md_all, .inl (cJ, 9, .inr (.inl w10)))] H := hP
                have hD : va_D A [(a_md, .inr (5, [.int v_md_length, .ref a_md_text, .int v_md_laws, .int v_md_sayers, .long v_md_there, .long v_md_question, .ref a_md_weight, .ref a_md_says, .ref a_md_cost, .int v_md_measure, .long v_md_trace, .int v_md_readLaws, .int v_md_readSayers, .long v_md_readThere, .ref a_md_readWeight, .ref a_md_readSays, .int w3, .int w4, .int w5, .int w6, .ref a_md_opened, .int y18, .ref a_md_any, .ref a_md_all, .long v_md_said, .ref a_md_burdens, .ref a_md_best, .ref a_md_own, .ref a_md_truth])), (a_md_text, .inl (cB, 300, .inl f_md_text)), (a_md_opened, .inl (cI, 9, .inl w8)), (a_md_any, .inl (cJ, 9, .inr (.inl w9))), (a_md_all, .inl (cJ, 9, .inr (.inl w10)))] := hD
                refine lv_aload_n hx hb dX5_saying_344 rfl (lv_at hl 1 rfl) ?_
                refine lv_dup hx hb dX5_saying_345 rfl ?_
                refine va_get (ci := 5) (v := .int w6) (C := RX5) (T := TX5) (N := 29) hx hb hts inX5 hown hK hP 0 rfl rfl 19 (by decide) lk0 (fun _ h9 => h9) rfl dX5_saying_346 ?_
                refine lv_iconst (v := (1 : Int32)) hx hb dX5_saying_349 (by decide) ?_
                refine lv_isub hx hb dX5_saying_350 ?_
                obtain ⟨y19, ey19, hf⟩ := zk_lt_s hf
                refine zk_topi ey19 ?_
                refine va_put (ci := 5) (v := .int y19) (ty := .int) (C := RX5) (T := TX5) (N := 29) hx hb hts inX5 tyX5 tyX5_ok nmX5 hown hK hP hD hS 0 rfl rfl 19 (by decide) lk0 (fun _ h9 => h9) rfl (by decide +kernel) rfl rfl (Nat.le_of_ble_eq_true rfl) dX5_saying_351 (fun H locs hP hD hS => ?_)
                have hP : va_P D vwCl [(a_md, .inr (5, [.int v_md_length, .ref a_md_text, .int v_md_laws, .int v_md_sayers, .long v_md_there, .long v_md_question, .ref a_md_weight, .ref a_md_says, .ref a_md_cost, .int v_md_measure, .long v_md_trace, .int v_md_readLaws, .int v_md_readSayers, .long v_md_readThere, .ref a_md_readWeight, .ref a_md_readSays, .int w3, .int w4, .int w5, .int y19, .ref a_md_opened, .int y18, .ref a_md_any, .ref a_md_all, .long v_md_said, .ref a_md_burdens, .ref a_md_best, .ref a_md_own, .ref a_md_truth])), (a_md_text, .inl (cB, 300, .inl f_md_text)), (a_md_opened, .inl (cI, 9, .inl w8)), (a_md_any, .inl (cJ, 9, .inr (.inl w9))), (a_md_all, .inl (cJ, 9, .inr (.inl w10)))] H := hP
                have hD : va_D A [(a_md, .inr (5, [.int v_md_length, .ref a_md_text, .int v_md_laws, .int v_md_sayers, .long v_md_there, .long v_md_question, .ref a_md_weight, .ref a_md_says, .ref a_md_cost, .int v_md_measure, .long v_md_trace, .int v_md_readLaws, .int v_md_readSayers, .long v_md_readThere, .ref a_md_readWeight, .ref a_md_readSays, .int w3, .int w4, .int w5, .int y19, .ref a_md_opened, .int y18, .ref a_md_any, .ref a_md_all, .long v_md_said, .ref a_md_burdens, .ref a_md_best, .ref a_md_own, .ref a_md_truth])), (a_md_text, .inl (cB, 300, .inl f_md_text)), (a_md_opened, .inl (cI, 9, .inl w8)), (a_md_any, .inl (cJ, 9, .inr (.inl w9))), (a_md_all, .inl (cJ, 9, .inr (.inl w10)))] := hD
                refine lv_aload_n hx hb dX5_saying_354 rfl (lv_at hl 1 rfl) ?_
                refine lv_lload_n hx hb dX5_saying_355 rfl (lv_at hl 0 rfl) ?_
                obtain ⟨v20, hv20, hf⟩ := zk_ob hf
                refine zk_go (wr := [(a_md_text, .inl (cB, 300, .inl f_md_text)), (a_md_any, .inl (cJ, 9, .inr (.inl w9)))]) (w2 := [(a_md, .inr (5, [.int v_md_length, .ref a_md_text, .int v_md_laws, .int v_md_sayers, .long v_md_there, .long v_md_question, .ref a_md_weight, .ref a_md_says, .ref a_md_cost, .int v_md_measure, .long v_md_trace, .int v_md_readLaws, .int v_md_readSayers, .long v_md_readThere, .ref a_md_readWeight, .ref a_md_readSays, .int w3, .int w4, .int w5, .int v20.1, .ref a_md_opened, .int y18, .ref a_md_any, .ref a_md_all, .long v_md_said, .ref a_md_burdens, .ref a_md_best, .ref a_md_own, .ref a_md_truth])), (a_md_text, .inl (cB, 300, .inl f_md_text)), (a_md_opened, .inl (cI, 9, .inl w8)), (a_md_any, .inl (cJ, 9, .inr (.inl w9))), (a_md_all, .inl (cJ, 9, .inr (.inl v20.2)))]) (zk_V (As := [.long y17]) (rest := []) hx hb hml hown hts hK hG hP hD hS hA gX5_saying_X5_ends rfl hd_X5_ends (Nat.le_trans (Nat.le_of_ble_eq_true rfl) hRf) (Nat.le_trans (Nat.le_of_ble_eq_true rfl) hRl) hcs (zc_X5_ends l D tL tO cI cJ cB cQ a_md a_md_text a_md_weight a_md_says a_md_cost a_md_readWeight a_md_readSays a_md_opened a_md_any a_md_all a_md_burdens a_md_best a_md_own a_md_truth y17 v_md_length v_md_laws v_md_sayers v_md_there v_md_question v_md_measure v_md_trace v_md_readLaws v_md_readSayers v_md_readThere w3 w4 w5 y19 y18 v_md_said w8 w10 v20 hv20) rfl rfl 0 rfl hl.1 rfl rfl (Nat.le_of_ble_eq_true rfl) dX5_saying_356 [0, 2, 4] rfl rfl) hP hD hS hA [0, 2, 4] [1, 3] [2, 0, 3, 1, 4] rfl rfl rfl (by decide) rfl rfl (fun H locs hP hD hS => ?_)
                refine lv_goto (tgt := 395) hx hb dX5_saying_359 (by decide) ?_
                refine lv_aload_n hx hb dX5_saying_395 rfl (lv_at hl 1 rfl) ?_
                obtain ⟨v21, hv21, hf⟩ := zk_ob hf
                refine zk_go (wr := [(a_md_opened, .inl (cI, 9, .inl w8)), (a_md_any, .inl (cJ, 9, .inr (.inl w9))), (a_md_all, .inl (cJ, 9, .inr (.inl v20.2)))]) (w2 := [(a_md, .inr (5, [.int v_md_length, .ref a_md_text, .int v_md_laws, .int v_md_sayers, .long v_md_there, .long v_md_question, .ref a_md_weight, .ref a_md_says, .ref a_md_cost, .int v_md_measure, .long v_md_trace, .int v_md_readLaws, .int v_md_readSayers, .long v_md_readThere, .ref a_md_readWeight, .ref a_md_readSays, .int v21.1, .int v21.2.1, .int v21.2.2, .int v20.1, .ref a_md_opened, .int y18, .ref a_md_any, .ref a_md_all, .long v_md_said, .ref a_md_burdens, .ref a_md_best, .ref a_md_own, .ref a_md_truth])), (a_md_text, .inl (cB, 300, .inl f_md_text)), (a_md_opened, .inl (cI, 9, .inl w8)), (a_md_any, .inl (cJ, 9, .inr (.inl w9))), (a_md_all, .inl (cJ, 9, .inr (.inl v20.2)))]) (zk_V (As := []) (rest := []) hx hb hml hown hts hK hG hP hD hS hA gX5_saying_X5_token rfl hd_X5_token (Nat.le_trans (Nat.le_of_ble_eq_true rfl) hRf) (Nat.le_trans (Nat.le_of_ble_eq_true rfl) hRl) hcs (zc_X5_token l D tL tO cI cJ cB cQ a_md a_md_text a_md_weight a_md_says a_md_cost a_md_readWeight a_md_readSays a_md_opened a_md_any a_md_all a_md_burdens a_md_best a_md_own a_md_truth v_md_length v_md_laws v_md_sayers v_md_there v_md_question v_md_measure v_md_trace v_md_readLaws v_md_readSayers v_md_readThere w3 w4 w5 v20.1 y18 v_md_said f_md_text v21 hv21) rfl rfl 0 rfl hl.1 rfl rfl (Nat.le_of_ble_eq_true rfl) dX5_saying_396 [0, 1] rfl rfl) hP hD hS hA [0, 1] [2, 3, 4] [3, 4, 0, 1, 2] rfl rfl rfl (by decide) rfl rfl (fun H locs hP hD hS => ?_)
                refine lv_goto (tgt := 28) hx hb dX5_saying_399 (by decide) ?_
                exact kv11_0 _ (Option.some.inj hf).symm _ _ _ hP hD hS (lv_sub hl [1, 2, 0] rfl)
          · have hf := zk_t c26 hf
            refine lv_aload_n hx hb dX5_saying_260 rfl (lv_at hl 0 rfl) ?_
            refine va_get (ci := 5) (v := .ref a_md_any) (C := RX5) (T := TX5) (N := 29) hx hb hts inX5 hown hK hP 0 rfl rfl 22 (by decide) lk3 (fun _ h9 => h9) rfl dX5_saying_261 ?_
            refine lv_aload_n hx hb dX5_saying_264 rfl (lv_at hl 0 rfl) ?_
            refine va_get (ci := 5) (v := .int w7) (C := RX5) (T := TX5) (N := 29) hx hb hts inX5 hown hK hP 0 rfl rfl 21 (by decide) lk2 (fun _ h9 => h9) rfl dX5_saying_265 ?_
            refine lv_dup2_11 hx hb dX5_saying_268 rfl rfl ?_
            obtain ⟨g24, hf⟩ := zk_gd_s hf
            refine va_lald hx hb hK hP 3 1 rfl rfl (zk_in_s g24) dX5_saying_269 ?_
            refine lv_aload_n hx hb dX5_saying_270 rfl (lv_at hl 0 rfl) ?_
            refine va_get (ci := 5) (v := .ref a_md_all) (C := RX5) (T := TX5) (N := 29) hx hb hts inX5 hown hK hP 0 rfl rfl 23 (by decide) lk4 (fun _ h9 => h9) rfl dX5_saying_271 ?_
            refine lv_aload_n hx hb dX5_saying_274 rfl (lv_at hl 0 rfl) ?_
            refine va_get (ci := 5) (v := .int w7) (C := RX5) (T := TX5) (N := 29) hx hb hts inX5 hown hK hP 0 rfl rfl 21 (by decide) lk2 (fun _ h9 => h9) rfl dX5_saying_275 ?_
            refine va_lald hx hb hK hP 4 1 rfl rfl (zk_in_s g24) dX5_saying_278 ?_
            refine lv_lor hx hb dX5_saying_279 ?_
            refine va_last hx hb hK hP hD hS 3 1 rfl rfl (zk_in_s g24) dX5_saying_280 (fun H locs hP hD hS => ?_)
            have hP : va_P D vwCl [(a_md, .inr (5, [.int v_md_length, .ref a_md_text, .int v_md_laws, .int v_md_sayers, .long v_md_there, .long v_md_question, .ref a_md_weight, .ref a_md_says, .ref a_md_cost, .int v_md_measure, .long v_md_trace, .int v_md_readLaws, .int v_md_readSayers, .long v_md_readThere, .ref a_md_readWeight, .ref a_md_readSays, .int w3, .int w4, .int w5, .int w6, .ref a_md_opened, .int w7, .ref a_md_any, .ref a_md_all, .long v_md_said, .ref a_md_burdens, .ref a_md_best, .ref a_md_own, .ref a_md_truth])), (a_md_text, .inl (cB, 300, .inl f_md_text)), (a_md_opened, .inl (cI, 9, .inl w8)), (a_md_any, .inl (cJ, 9, .inr (.inl (vp_updL w9 w7.toNatClampNeg ((w9 w7.toNatClampNeg) ||| (w10 w7.toNatClampNeg)))))), (a_md_all, .inl (cJ, 9, .inr (.inl w10)))] H := hP
            have hD : va_D A [(a_md, .inr (5, [.int v_md_length, .ref a_md_text, .int v_md_laws, .int v_md_sayers, .long v_md_there, .long v_md_question, .ref a_md_weight, .ref a_md_says, .ref a_md_cost, .int v_md_measure, .long v_md_trace, .int v_md_readLaws, .int v_md_readSayers, .long v_md_readThere, .ref a_md_readWeight, .ref a_md_readSays, .int w3, .int w4, .int w5, .int w6, .ref a_md_opened, .int w7, .ref a_md_any, .ref a_md_all, .long v_md_said, .ref a_md_burdens, .ref a_md_best, .ref a_md_own, .ref a_md_truth])), (a_md_text, .inl (cB, 300, .inl f_md_text)), (a_md_opened, .inl (cI, 9, .inl w8)), (a_md_any, .inl (cJ, 9, .inr (.inl (vp_updL w9 w7.toNatClampNeg ((w9 w7.toNatClampNeg) ||| (w10 w7.toNatClampNeg)))))), (a_md_all, .inl (cJ, 9, .inr (.inl w10)))] := hD
            refine lv_aload_n hx hb dX5_saying_281 rfl (lv_at hl 0 rfl) ?_
            refine va_get (ci := 5) (v := .ref a_md_all) (C := RX5) (T := TX5) (N := 29) hx hb hts inX5 hown hK hP 0 rfl rfl 23 (by decide) lk4 (fun _ h9 => h9) rfl dX5_saying_282 ?_
            refine lv_aload_n hx hb dX5_saying_285 rfl (lv_at hl 0 rfl) ?_
            refine va_get (ci := 5) (v := .int w7) (C := RX5) (T := TX5) (N := 29) hx hb hts inX5 hown hK hP 0 rfl rfl 21 (by decide) lk2 (fun _ h9 => h9) rfl dX5_saying_286 ?_
            refine lv_ldc2 hx hb hown lk5 dX5_saying_289 ?_
            refine va_last hx hb hK hP hD hS 4 1 rfl rfl (zk_in_s g24) dX5_saying_292 (fun H locs hP hD hS => ?_)
            have hP : va_P D vwCl [(a_md, .inr (5, [.int v_md_length, .ref a_md_text, .int v_md_laws, .int v_md_sayers, .long v_md_there, .long v_md_question, .ref a_md_weight, .ref a_md_says, .ref a_md_cost, .int v_md_measure, .long v_md_trace, .int v_md_readLaws, .int v_md_readSayers, .long v_md_readThere, .ref a_md_readWeight, .ref a_md_readSays, .int w3, .int w4, .int w5, .int w6, .ref a_md_opened, .int w7, .ref a_md_any, .ref a_md_all, .long v_md_said, .ref a_md_burdens, .ref a_md_best, .ref a_md_own, .ref a_md_truth])), (a_md_text, .inl (cB, 300, .inl f_md_text)), (a_md_opened, .inl (cI, 9, .inl w8)), (a_md_any, .inl (cJ, 9, .inr (.inl (vp_updL w9 w7.toNatClampNeg ((w9 w7.toNatClampNeg) ||| (w10 w7.toNatClampNeg)))))), (a_md_all, .inl (cJ, 9, .inr (.inl (vp_updL w10 w7.toNatClampNeg (-1 : Int64)))))] H := hP
            have hD : va_D A [(a_md, .inr (5, [.int v_md_length, .ref a_md_text, .int v_md_laws, .int v_md_sayers, .long v_md_there, .long v_md_question, .ref a_md_weight, .ref a_md_says, .ref a_md_cost, .int v_md_measure, .long v_md_trace, .int v_md_readLaws, .int v_md_readSayers, .long v_md_readThere, .ref a_md_readWeight, .ref a_md_readSays, .int w3, .int w4, .int w5, .int w6, .ref a_md_opened, .int w7, .ref a_md_any, .ref a_md_all, .long v_md_said, .ref a_md_burdens, .ref a_md_best, .ref a_md_own, .ref a_md_truth])), (a_md_text, .inl (cB, 300, .inl f_md_text)), (a_md_opened, .inl (cI, 9, .inl w8)), (a_md_any, .inl (cJ, 9, .inr (.inl (vp_updL w9 w7.toNatClampNeg ((w9 w7.toNatClampNeg) ||| (w10 w7.toNatClampNeg)))))), (a_md_all, .inl (cJ, 9, .inr (.inl (vp_updL w10 w7.toNatClampNeg (-1 : Int64)))))] := hD
            refine lv_iconst (v := (1 : Int32)) hx hb dX5_saying_293 (by decide) ?_
            refine lv_istore_n (lv' := [(1, .int (1 : Int32)), (0, .ref a_md)]) hx hb dX5_saying_294 rfl hl (by decide) rfl (fun ls hl => ?_)
            refine lv_goto (tgt := 395) hx hb dX5_saying_295 (by decide) ?_
            refine lv_aload_n hx hb dX5_saying_395 rfl (lv_at hl 1 rfl) ?_
            obtain ⟨v25, hv25, hf⟩ := zk_ob hf
            refine zk_go (wr := [(a_md_opened, .inl (cI, 9, .inl w8)), (a_md_any, .inl (cJ, 9, .inr (.inl (vp_updL w9 w7.toNatClampNeg ((w9 w7.toNatClampNeg) ||| (w10 w7.toNatClampNeg)))))), (a_md_all, .inl (cJ, 9, .inr (.inl (vp_updL w10 w7.toNatClampNeg (-1 : Int64)))))]) (w2 := [(a_md, .inr (5, [.int v_md_length, .ref a_md_text, .int v_md_laws, .int v_md_sayers, .long v_md_there, .long v_md_question, .ref a_md_weight, .ref a_md_says, .ref a_md_cost, .int v_md_measure, .long v_md_trace, .int v_md_readLaws, .int v_md_readSayers, .long v_md_readThere, .ref a_md_readWeight, .ref a_md_readSays, .int v25.1, .int v25.2.1, .int v25.2.2, .int w6, .ref a_md_opened, .int w7, .ref a_md_any, .ref a_md_all, .long v_md_said, .ref a_md_burdens, .ref a_md_best, .ref a_md_own, .ref a_md_truth])), (a_md_text, .inl (cB, 300, .inl f_md_text)), (a_md_opened, .inl (cI, 9, .inl w8)), (a_md_any, .inl (cJ, 9, .inr (.inl (vp_updL w9 w7.toNatClampNeg ((w9 w7.toNatClampNeg) ||| (w10 w7.toNatClampNeg)))))), (a_md_all, .inl (cJ, 9, .inr (.inl (vp_updL w10 w7.toNatClampNeg (-1 : Int64)))))]) (zk_V (As := []) (rest := []) hx hb hml hown hts hK hG hP hD hS hA gX5_saying_X5_token rfl hd_X5_token (Nat.le_trans (Nat.le_of_ble_eq_true rfl) hRf) (Nat.le_trans (Nat.le_of_ble_eq_true rfl) hRl) hcs (zc_X5_token l D tL tO cI cJ cB cQ a_md a_md_text a_md_weight a_md_says a_md_cost a_md_readWeight a_md_readSays a_md_opened a_md_any a_md_all a_md_burdens a_md_best a_md_own a_md_truth v_md_length v_md_laws v_md_sayers v_md_there v_md_question v_md_measure v_md_trace v_md_readLaws v_md_readSayers v_md_readThere w3 w4 w5 w6 w7 v_md_said f_md_text v25 hv25) rfl rfl 0 rfl hl.1 rfl rfl (Nat.le_of_ble_eq_true rfl) dX5_saying_396 [0, 1] rfl rfl) hP hD hS hA [0, 1] [2, 3, 4] [3, 4, 0, 1, 2] rfl rfl rfl (by decide) rfl rfl (fun H locs hP hD hS => ?_)
            refine lv_goto (tgt := 28) hx hb dX5_saying_399 (by decide) ?_
            exact ih (1 : Int32) v25.1 v25.2.1 v25.2.2 w6 w7 w8 (vp_updL w9 w7.toNatClampNeg ((w9 w7.toNatClampNeg) ||| (w10 w7.toNatClampNeg))) (vp_updL w10 w7.toNatClampNeg (-1 : Int64)) _ _ _ _ hf hP hD hS (lv_sub hl [1, 0] rfl) hkr
        · have hf := zk_t c28 hf
          refine lv_iconst (v := (1 : Int32)) hx hb dX5_saying_246 (by decide) ?_
          refine lv_istore_n (lv' := [(1, .int (1 : Int32)), (0, .ref a_md)]) hx hb dX5_saying_247 rfl hl (by decide) rfl (fun ls hl => ?_)
          refine lv_goto (tgt := 395) hx hb dX5_saying_248 (by decide) ?_
          refine lv_aload_n hx hb dX5_saying_395 rfl (lv_at hl 1 rfl) ?_
          obtain ⟨v27, hv27, hf⟩ := zk_ob hf
          refine zk_go (wr := [(a_md_opened, .inl (cI, 9, .inl w8)), (a_md_any, .inl (cJ, 9, .inr (.inl w9))), (a_md_all, .inl (cJ, 9, .inr (.inl w10)))]) (w2 := [(a_md, .inr (5, [.int v_md_length, .ref a_md_text, .int v_md_laws, .int v_md_sayers, .long v_md_there, .long v_md_question, .ref a_md_weight, .ref a_md_says, .ref a_md_cost, .int v_md_measure, .long v_md_trace, .int v_md_readLaws, .int v_md_readSayers, .long v_md_readThere, .ref a_md_readWeight, .ref a_md_readSays, .int v27.1, .int v27.2.1, .int v27.2.2, .int w6, .ref a_md_opened, .int w7, .ref a_md_any, .ref a_md_all, .long v_md_said, .ref a_md_burdens, .ref a_md_best, .ref a_md_own, .ref a_md_truth])), (a_md_text, .inl (cB, 300, .inl f_md_text)), (a_md_opened, .inl (cI, 9, .inl w8)), (a_md_any, .inl (cJ, 9, .inr (.inl w9))), (a_md_all, .inl (cJ, 9, .inr (.inl w10)))]) (zk_V (As := []) (rest := []) hx hb hml hown hts hK hG hP hD hS hA gX5_saying_X5_token rfl hd_X5_token (Nat.le_trans (Nat.le_of_ble_eq_true rfl) hRf) (Nat.le_trans (Nat.le_of_ble_eq_true rfl) hRl) hcs (zc_X5_token l D tL tO cI cJ cB cQ a_md a_md_text a_md_weight a_md_says a_md_cost a_md_readWeight a_md_readSays a_md_opened a_md_any a_md_all a_md_burdens a_md_best a_md_own a_md_truth v_md_length v_md_laws v_md_sayers v_md_there v_md_question v_md_measure v_md_trace v_md_readLaws v_md_readSayers v_md_readThere w3 w4 w5 w6 w7 v_md_said f_md_text v27 hv27) rfl rfl 0 rfl hl.1 rfl rfl (Nat.le_of_ble_eq_true rfl) dX5_saying_396 [0, 1] rfl rfl) hP hD hS hA [0, 1] [2, 3, 4] [3, 4, 0, 1, 2] rfl rfl rfl (by decide) rfl rfl (fun H locs hP hD hS => ?_)
          refine lv_goto (tgt := 28) hx hb dX5_saying_399 (by decide) ?_
          exact ih (1 : Int32) v27.1 v27.2.1 v27.2.2 w6 w7 w8 w9 w10 _ _ _ _ hf hP hD hS (lv_sub hl [1, 0] rfl) hkr
      · have hf := zk_f c57 hf
        refine lv_aload_n hx hb dX5_saying_32 rfl (lv_at hl 0 rfl) ?_
        refine va_get (ci := 5) (v := .int w5) (C := RX5) (T := TX5) (N := 29) hx hb hts inX5 hown hK hP 0 rfl rfl 18 (by decide) lk6 (fun _ h9 => h9) rfl dX5_saying_33 ?_
        refine lv_bipush (v := (33 : Int32)) hx hb dX5_saying_36 (by decide) ?_
        obtain ⟨v29, hv29, hf⟩ := zk_ob hf
        have kv29 : ∀ (H : Heap) (locs : List Loc) (ls : Array Slot), va_P D vwCl [(a_md, .inr (5, [.int v_md_length, .ref a_md_text, .int v_md_laws, .int v_md_sayers, .long v_md_there, .long v_md_question, .ref a_md_weight, .ref a_md_says, .ref a_md_cost, .int v_md_measure, .long v_md_trace, .int v_md_readLaws, .int v_md_readSayers, .long v_md_readThere, .ref a_md_readWeight, .ref a_md_readSays, .int w3, .int w4, .int w5, .int w6, .ref a_md_opened, .int w7, .ref a_md_any, .ref a_md_all, .long v_md_said, .ref a_md_burdens, .ref a_md_best, .ref a_md_own, .ref a_md_truth])), (a_md_text, .inl (cB, 300, .inl f_md_text)), (a_md_opened, .inl (cI, 9, .inl w8)), (a_md_any, .inl (cJ, 9, .inr (.inl w9))), (a_md_all, .inl (cJ, 9, .inr (.inl w10)))] H → va_D A [(a_md, .inr (5, [.int v_md_length, .ref a_md_text, .int v_md_laws, .int v_md_sayers, .long v_md_there, .long v_md_question, .ref a_md_weight, .ref a_md_says, .ref a_md_cost, .int v_md_measure, .long v_md_trace, .int v_md_readLaws, .int v_md_readSayers, .long v_md_readThere, .ref a_md_readWeight, .ref a_md_readSays, .int w3, .int w4, .int w5, .int w6, .ref a_md_opened, .int w7, .ref a_md_any, .ref a_md_all, .long v_md_said, .ref a_md_burdens, .ref a_md_best, .ref a_md_own, .ref a_md_truth])), (a_md_text, .inl (cB, 300, .inl f_md_text)), (a_md_opened, .inl (cI, 9, .inl w8)), (a_md_any, .inl (cJ, 9, .inr (.inl w9))), (a_md_all, .inl (cJ, 9, .inr (.inl w10)))] → va_S A s.heap H locs → lv_has ls 4 [(0, .ref a_md), (1, .int w2)] → W p l e R s m args below meth c H locs 0 0 Q (F0 m 55 ls [.int v29]) := by
          intro H locs ls hP hD hS hl
          refine lv_istore_n (lv' := [(2, .int v29), (0, .ref a_md), (1, .int w2)]) hx hb dX5_saying_55 rfl hl (by decide) rfl (fun ls hl => ?_)
          refine lv_aload_n hx hb dX5_saying_56 rfl (lv_at hl 1 rfl) ?_
          refine va_get (ci := 5) (v := .int w5) (C := RX5) (T := TX5) (N := 29) hx hb hts inX5 hown hK hP 0 rfl rfl 18 (by decide) lk6 (fun _ h9 => h9) rfl dX5_saying_57 ?_
          refine lv_i2l hx hb dX5_saying_60 rfl ?_
          refine lv_ldc2 hx hb hown lk9 dX5_saying_61 ?_
          refine lv_ldc2 hx hb hown lk10 dX5_saying_64 ?_
          obtain ⟨v30, hv30, hf⟩ := zk_ob hf
          refine zk_goR (zk_S (As := [.long w5.toInt64, .long (97 : Int64), .long (102 : Int64)]) (rest := []) hx hb hml hown hts hK hG hP hD hS hA gX5_saying_X5_in rfl hd_X5_in (Nat.le_trans (Nat.le_of_ble_eq_true rfl) hRf) (Nat.le_trans (Nat.le_of_ble_eq_true rfl) hRl) hcs (zc_X5_in l D tL tO cI cJ cB cQ w5.toInt64 (97 : Int64) (102 : Int64) v30 hv30) hl.1 rfl rfl (Nat.le_of_ble_eq_true rfl) dX5_saying_67 [] rfl rfl) hP hD hS hA [] rfl (fun H locs hP hS => ?_)
          obtain ⟨v31, hv31, hf⟩ := zk_ob hf
          have kv31 : ∀ (H : Heap) (locs : List Loc) (ls : Array Slot), va_P D vwCl [(a_md, .inr (5, [.int v_md_length, .ref a_md_text, .int v_md_laws, .int v_md_sayers, .long v_md_there, .long v_md_question, .ref a_md_weight, .ref a_md_says, .ref a_md_cost, .int v_md_measure, .long v_md_trace, .int v_md_readLaws, .int v_md_readSayers, .long v_md_readThere, .ref a_md_readWeight, .ref a_md_readSays, .int w3, .int w4, .int w5, .int w6, .ref a_md_opened, .int w7, .ref a_md_any, .ref a_md_all, .long v_md_said, .ref a_md_burdens, .ref a_md_best, .ref a_md_own, .ref a_md_truth])), (a_md_text, .inl (cB, 300, .inl f_md_text)), (a_md_opened, .inl (cI, 9, .inl w8)), (a_md_any, .inl (cJ, 9, .inr (.inl w9))), (a_md_all, .inl (cJ, 9, .inr (.inl w10)))] H → va_D A [(a_md, .inr (5, [.int v_md_length, .ref a_md_text, .int v_md_laws, .int v_md_sayers, .long v_md_there, .long v_md_question, .ref a_md_weight, .ref a_md_says, .ref a_md_cost, .int v_md_measure, .long v_md_trace, .int v_md_readLaws, .int v_md_readSayers, .long v_md_readThere, .ref a_md_readWeight, .ref a_md_readSays, .int w3, .int w4, .int w5, .int w6, .ref a_md_opened, .int w7, .ref a_md_any, .ref a_md_all, .long v_md_said, .ref a_md_burdens, .ref a_md_best, .ref a_md_own, .ref a_md_truth])), (a_md_text, .inl (cB, 300, .inl f_md_text)), (a_md_opened, .inl (cI, 9, .inl w8)), (a_md_any, .inl (cJ, 9, .inr (.inl w9))), (a_md_all, .inl (cJ, 9, .inr (.inl w10)))] → va_S A s.heap H locs → lv_has ls 4 [(0, .ref a_md), (1, .int w2), (2, .int v29)] → W p l e R s m args below meth c H locs 0 0 Q (F0 m 109 ls [.int v31]) := by
            intro H locs ls hP hD hS hl
            refine lv_istore_n (lv' := [(3, .int v31), (0, .ref a_md), (1, .int w2), (2, .int v29)]) hx hb dX5_saying_109 rfl hl (by decide) rfl (fun ls hl => ?_)
            refine lv_iload_n hx hb dX5_saying_110 rfl (lv_at hl 0 rfl) ?_
            refine lv_if_ne (tgt := 119) hx hb dX5_saying_111 (by decide) (fun c49 => ?_) (fun c49 => ?_)
            · have hf := zk_f c49 hf
              refine lv_iload_n hx hb dX5_saying_119 rfl (lv_at hl 3 rfl) ?_
              refine lv_if_eq (tgt := 190) hx hb dX5_saying_120 (by decide) (fun c48 => ?_) (fun c48 => ?_)
              · have hf := zk_t c48 hf
                refine lv_aload_n hx hb dX5_saying_190 rfl (lv_at hl 1 rfl) ?_
                refine lv_aload_n hx hb dX5_saying_191 rfl (lv_at hl 1 rfl) ?_
                refine va_get (ci := 5) (v := .int w5) (C := RX5) (T := TX5) (N := 29) hx hb hts inX5 hown hK hP 0 rfl rfl 18 (by decide) lk6 (fun _ h9 => h9) rfl dX5_saying_192 ?_
                refine lv_bipush (v := (48 : Int32)) hx hb dX5_saying_195 (by decide) ?_
                refine lv_icmp_ne (tgt := 204) hx hb dX5_saying_197 (by decide) (fun c40 => ?_) (fun c40 => ?_)
                · have hf := zk_f c40 hf
                  refine lv_aload_n hx hb dX5_saying_204 rfl (lv_at hl 1 rfl) ?_
                  refine va_get (ci := 5) (v := .int w5) (C := RX5) (T := TX5) (N := 29) hx hb hts inX5 hown hK hP 0 rfl rfl 18 (by decide) lk6 (fun _ h9 => h9) rfl dX5_saying_205 ?_
                  refine lv_bipush (v := (49 : Int32)) hx hb dX5_saying_208 (by decide) ?_
                  refine lv_icmp_ne (tgt := 219) hx hb dX5_saying_210 (by decide) (fun c37 => ?_) (fun c37 => ?_)
                  · have hf := zk_f c37 hf
                    refine lv_aload_n hx hb dX5_saying_219 rfl (lv_at hl 1 rfl) ?_
                    refine va_get (ci := 5) (v := .int w5) (C := RX5) (T := TX5) (N := 29) hx hb hts inX5 hown hK hP 0 rfl rfl 18 (by decide) lk6 (fun _ h9 => h9) rfl dX5_saying_220 ?_
                    refine lv_bipush (v := (97 : Int32)) hx hb dX5_saying_223 (by decide) ?_
                    refine lv_isub hx hb dX5_saying_225 ?_
                    obtain ⟨v32, hv32, hf⟩ := zk_ob hf
                    refine zk_goR (zk_S (As := [.int (w5 - (97 : Int32))]) (rest := [.ref a_md]) hx hb hml hown hts hK hG hP hD hS hA gX5_saying_X5_lettered rfl hd_X5_lettered (Nat.le_trans (Nat.le_of_ble_eq_true rfl) hRf) (Nat.le_trans (Nat.le_of_ble_eq_true rfl) hRl) hcs (zc_X5_lettered l D tL tO cI cJ cB cQ (w5 - (97 : Int32)) v32 hv32) hl.1 rfl rfl (Nat.le_of_ble_eq_true rfl) dX5_saying_226 [] rfl rfl) hP hD hS hA [] rfl (fun H locs hP hS => ?_)
                    obtain ⟨v33, hv33, hf⟩ := zk_ob hf
                    refine zk_go (wr := [(a_md_text, .inl (cB, 300, .inl f_md_text)), (a_md_any, .inl (cJ, 9, .inr (.inl w9)))]) (w2 := [(a_md, .inr (5, [.int v_md_length, .ref a_md_text, .int v_md_laws, .int v_md_sayers, .long v_md_there, .long v_md_question, .ref a_md_weight, .ref a_md_says, .ref a_md_cost, .int v_md_measure, .long v_md_trace, .int v_md_readLaws, .int v_md_readSayers, .long v_md_readThere, .ref a_md_readWeight, .ref a_md_readSays, .int w3, .int w4, .int w5, .int v33.1, .ref a_md_opened, .int w7, .ref a_md_any, .ref a_md_all, .long v_md_said, .ref a_md_burdens, .ref a_md_best, .ref a_md_own, .ref a_md_truth])), (a_md_text, .inl (cB, 300, .inl f_md_text)), (a_md_opened, .inl (cI, 9, .inl w8)), (a_md_any, .inl (cJ, 9, .inr (.inl w9))), (a_md_all, .inl (cJ, 9, .inr (.inl v33.2)))]) (zk_V (As := [.long v32]) (rest := []) hx hb hml hown hts hK hG hP hD hS hA gX5_saying_X5_ends rfl hd_X5_ends (Nat.le_trans (Nat.le_of_ble_eq_true rfl) hRf) (Nat.le_trans (Nat.le_of_ble_eq_true rfl) hRl) hcs (zc_X5_ends l D tL tO cI cJ cB cQ a_md a_md_text a_md_weight a_md_says a_md_cost a_md_readWeight a_md_readSays a_md_opened a_md_any a_md_all a_md_burdens a_md_best a_md_own a_md_truth v32 v_md_length v_md_laws v_md_sayers v_md_there v_md_question v_md_measure v_md_trace v_md_readLaws v_md_readSayers v_md_readThere w3 w4 w5 w6 w7 v_md_said w8 w10 v33 hv33) rfl rfl 0 rfl hl.1 rfl rfl (Nat.le_of_ble_eq_true rfl) dX5_saying_229 [0, 2, 4] rfl rfl) hP hD hS hA [0, 2, 4] [1, 3] [2, 0, 3, 1, 4] rfl rfl rfl (by decide) rfl rfl (fun H locs hP hD hS => ?_)
                    refine lv_iconst (v := (0 : Int32)) hx hb dX5_saying_232 (by decide) ?_
                    refine lv_istore_n (lv' := [(1, .int (0 : Int32)), (3, .int v31), (0, .ref a_md), (2, .int v29)]) hx hb dX5_saying_233 rfl hl (by decide) rfl (fun ls hl => ?_)
                    refine lv_goto (tgt := 395) hx hb dX5_saying_234 (by decide) ?_
                    refine lv_aload_n hx hb dX5_saying_395 rfl (lv_at hl 2 rfl) ?_
                    obtain ⟨v34, hv34, hf⟩ := zk_ob hf
                    refine zk_go (wr := [(a_md_opened, .inl (cI, 9, .inl w8)), (a_md_any, .inl (cJ, 9, .inr (.inl w9))), (a_md_all, .inl (cJ, 9, .inr (.inl v33.2)))]) (w2 := [(a_md, .inr (5, [.int v_md_length, .ref a_md_text, .int v_md_laws, .int v_md_sayers, .long v_md_there, .long v_md_question, .ref a_md_weight, .ref a_md_says, .ref a_md_cost, .int v_md_measure, .long v_md_trace, .int v_md_readLaws, .int v_md_readSayers, .long v_md_readThere, .ref a_md_readWeight, .ref a_md_readSays, .int v34.1, .int v34.2.1, .int v34.2.2, .int v33.1, .ref a_md_opened, .int w7, .ref a_md_any, .ref a_md_all, .long v_md_said, .ref a_md_burdens, .ref a_md_best, .ref a_md_own, .ref a_md_truth])), (a_md_text, .inl (cB, 300, .inl f_md_text)), (a_md_opened, .inl (cI, 9, .inl w8)), (a_md_any, .inl (cJ, 9, .inr (.inl w9))), (a_md_all, .inl (cJ, 9, .inr (.inl v33.2)))]) (zk_V (As := []) (rest := []) hx hb hml hown hts hK hG hP hD hS hA gX5_saying_X5_token rfl hd_X5_token (Nat.le_trans (Nat.le_of_ble_eq_true rfl) hRf) (Nat.le_trans (Nat.le_of_ble_eq_true rfl) hRl) hcs (zc_X5_token l D tL tO cI cJ cB cQ a_md a_md_text a_md_weight a_md_says a_md_cost a_md_readWeight a_md_readSays a_md_opened a_md_any a_md_all a_md_burdens a_md_best a_md_own a_md_truth v_md_length v_md_laws v_md_sayers v_md_there v_md_question v_md_measure v_md_trace v_md_readLaws v_md_readSayers v_md_readThere w3 w4 w5 v33.1 w7 v_md_said f_md_text v34 hv34) rfl rfl 0 rfl hl.1 rfl rfl (Nat.le_of_ble_eq_true rfl) dX5_saying_396 [0, 1] rfl rfl) hP hD hS hA [0, 1] [2, 3, 4] [3, 4, 0, 1, 2] rfl rfl rfl (by decide) rfl rfl (fun H locs hP hD hS => ?_)
                    refine lv_goto (tgt := 28) hx hb dX5_saying_399 (by decide) ?_
                    exact ih (0 : Int32) v34.1 v34.2.1 v34.2.2 v33.1 w7 w8 w9 v33.2 _ _ _ _ hf hP hD hS (lv_sub hl [2, 0] rfl) hkr
                  · have hf := zk_t c37 hf
                    refine lv_ldc2 hx hb hown lk5 dX5_saying_213 ?_
                    refine lv_goto (tgt := 229) hx hb dX5_saying_216 (by decide) ?_
                    obtain ⟨v35, hv35, hf⟩ := zk_ob hf
                    refine zk_go (wr := [(a_md_text, .inl (cB, 300, .inl f_md_text)), (a_md_any, .inl (cJ, 9, .inr (.inl w9)))]) (w2 := [(a_md, .inr (5, [.int v_md_length, .ref a_md_text, .int v_md_laws, .int v_md_sayers, .long v_md_there, .long v_md_question, .ref a_md_weight, .ref a_md_says, .ref a_md_cost, .int v_md_measure, .long v_md_trace, .int v_md_readLaws, .int v_md_readSayers, .long v_md_readThere, .ref a_md_readWeight, .ref a_md_readSays, .int w3, .int w4, .int w5, .int v35.1, .ref a_md_opened, .int w7, .ref a_md_any, .ref a_md_all, .long v_md_said, .ref a_md_burdens, .ref a_md_best, .ref a_md_own, .ref a_md_truth])), (a_md_text, .inl (cB, 300, .inl f_md_text)), (a_md_opened, .inl (cI, 9, .inl w8)), (a_md_any, .inl (cJ, 9, .inr (.inl w9))), (a_md_all, .inl (cJ, 9, .inr (.inl v35.2)))]) (zk_V (As := [.long (-1 : Int64)]) (rest := []) hx hb hml hown hts hK hG hP hD hS hA gX5_saying_X5_ends rfl hd_X5_ends (Nat.le_trans (Nat.le_of_ble_eq_true rfl) hRf) (Nat.le_trans (Nat.le_of_ble_eq_true rfl) hRl) hcs (zc_X5_ends l D tL tO cI cJ cB cQ a_md a_md_text a_md_weight a_md_says a_md_cost a_md_readWeight a_md_readSays a_md_opened a_md_any a_md_all a_md_burdens a_md_best a_md_own a_md_truth (-1 : Int64) v_md_length v_md_laws v_md_sayers v_md_there v_md_question v_md_measure v_md_trace v_md_readLaws v_md_readSayers v_md_readThere w3 w4 w5 w6 w7 v_md_said w8 w10 v35 hv35) rfl rfl 0 rfl hl.1 rfl rfl (Nat.le_of_ble_eq_true rfl) dX5_saying_229 [0, 2, 4] rfl rfl) hP hD hS hA [0, 2, 4] [1, 3] [2, 0, 3, 1, 4] rfl rfl rfl (by decide) rfl rfl (fun H locs hP hD hS => ?_)
                    refine lv_iconst (v := (0 : Int32)) hx hb dX5_saying_232 (by decide) ?_
                    refine lv_istore_n (lv' := [(1, .int (0 : Int32)), (3, .int v31), (0, .ref a_md), (2, .int v29)]) hx hb dX5_saying_233 rfl hl (by decide) rfl (fun ls hl => ?_)
                    refine lv_goto (tgt := 395) hx hb dX5_saying_234 (by decide) ?_
                    refine lv_aload_n hx hb dX5_saying_395 rfl (lv_at hl 2 rfl) ?_
                    obtain ⟨v36, hv36, hf⟩ := zk_ob hf
                    refine zk_go (wr := [(a_md_opened, .inl (cI, 9, .inl w8)), (a_md_any, .inl (cJ, 9, .inr (.inl w9))), (a_md_all, .inl (cJ, 9, .inr (.inl v35.2)))]) (w2 := [(a_md, .inr (5, [.int v_md_length, .ref a_md_text, .int v_md_laws, .int v_md_sayers, .long v_md_there, .long v_md_question, .ref a_md_weight, .ref a_md_says, .ref a_md_cost, .int v_md_measure, .long v_md_trace, .int v_md_readLaws, .int v_md_readSayers, .long v_md_readThere, .ref a_md_readWeight, .ref a_md_readSays, .int v36.1, .int v36.2.1, .int v36.2.2, .int v35.1, .ref a_md_opened, .int w7, .ref a_md_any, .ref a_md_all, .long v_md_said, .ref a_md_burdens, .ref a_md_best, .ref a_md_own, .ref a_md_truth])), (a_md_text, .inl (cB, 300, .inl f_md_text)), (a_md_opened, .inl (cI, 9, .inl w8)), (a_md_any, .inl (cJ, 9, .inr (.inl w9))), (a_md_all, .inl (cJ, 9, .inr (.inl v35.2)))]) (zk_V (As := []) (rest := []) hx hb hml hown hts hK hG hP hD hS hA gX5_saying_X5_token rfl hd_X5_token (Nat.le_trans (Nat.le_of_ble_eq_true rfl) hRf) (Nat.le_trans (Nat.le_of_ble_eq_true rfl) hRl) hcs (zc_X5_token l D tL tO cI cJ cB cQ a_md a_md_text a_md_weight a_md_says a_md_cost a_md_readWeight a_md_readSays a_md_opened a_md_any a_md_all a_md_burdens a_md_best a_md_own a_md_truth v_md_length v_md_laws v_md_sayers v_md_there v_md_question v_md_measure v_md_trace v_md_readLaws v_md_readSayers v_md_readThere w3 w4 w5 v35.1 w7 v_md_said f_md_text v36 hv36) rfl rfl 0 rfl hl.1 rfl rfl (Nat.le_of_ble_eq_true rfl) dX5_saying_396 [0, 1] rfl rfl) hP hD hS hA [0, 1] [2, 3, 4] [3, 4, 0, 1, 2] rfl rfl rfl (by decide) rfl rfl (fun H locs hP hD hS => ?_)
                    refine lv_goto (tgt := 28) hx hb dX5_saying_399 (by decide) ?_
                    exact ih (0 : Int32) v36.1 v36.2.1 v36.2.2 v35.1 w7 w8 w9 v35.2 _ _ _ _ hf hP hD hS (lv_sub hl [2, 0] rfl) hkr
                · have hf := zk_t c40 hf
                  refine lv_lconst (v := (0 : Int64)) hx hb dX5_saying_200 (by decide) ?_
                  refine lv_goto (tgt := 229) hx hb dX5_saying_201 (by decide) ?_
                  obtain ⟨v38, hv38, hf⟩ := zk_ob hf
                  refine zk_go (wr := [(a_md_text, .inl (cB, 300, .inl f_md_text)), (a_md_any, .inl (cJ, 9, .inr (.inl w9)))]) (w2 := [(a_md, .inr (5, [.int v_md_length, .ref a_md_text, .int v_md_laws, .int v_md_sayers, .long v_md_there, .long v_md_question, .ref a_md_weight, .ref a_md_says, .ref a_md_cost, .int v_md_measure, .long v_md_trace, .int v_md_readLaws, .int v_md_readSayers, .long v_md_readThere, .ref a_md_readWeight, .ref a_md_readSays, .int w3, .int w4, .int w5, .int v38.1, .ref a_md_opened, .int w7, .ref a_md_any, .ref a_md_all, .long v_md_said, .ref a_md_burdens, .ref a_md_best, .ref a_md_own, .ref a_md_truth])), (a_md_text, .inl (cB, 300, .inl f_md_text)), (a_md_opened, .inl (cI, 9, .inl w8)), (a_md_any, .inl (cJ, 9, .inr (.inl w9))), (a_md_all, .inl (cJ, 9, .inr (.inl v38.2)))]) (zk_V (As := [.long (0 : Int64)]) (rest := []) hx hb hml hown hts hK hG hP hD hS hA gX5_saying_X5_ends rfl hd_X5_ends (Nat.le_trans (Nat.le_of_ble_eq_true rfl) hRf) (Nat.le_trans (Nat.le_of_ble_eq_true rfl) hRl) hcs (zc_X5_ends l D tL tO cI cJ cB cQ a_md a_md_text a_md_weight a_md_says a_md_cost a_md_readWeight a_md_readSays a_md_opened a_md_any a_md_all a_md_burdens a_md_best a_md_own a_md_truth (0 : Int64) v_md_length v_md_laws v_md_sayers v_md_there v_md_question v_md_measure v_md_trace v_md_readLaws v_md_readSayers v_md_readThere w3 w4 w5 w6 w7 v_md_said w8 w10 v38 hv38) rfl rfl 0 rfl hl.1 rfl rfl (Nat.le_of_ble_eq_true rfl) dX5_saying_229 [0, 2, 4] rfl rfl) hP hD hS hA [0, 2, 4] [1, 3] [2, 0, 3, 1, 4] rfl rfl rfl (by decide) rfl rfl (fun H locs hP hD hS => ?_)
                  refine lv_iconst (v := (0 : Int32)) hx hb dX5_saying_232 (by decide) ?_
                  refine lv_istore_n (lv' := [(1, .int (0 : Int32)), (3, .int v31), (0, .ref a_md), (2, .int v29)]) hx hb dX5_saying_233 rfl hl (by decide) rfl (fun ls hl => ?_)
                  refine lv_goto (tgt := 395) hx hb dX5_saying_234 (by decide) ?_
                  refine lv_aload_n hx hb dX5_saying_395 rfl (lv_at hl 2 rfl) ?_
                  obtain ⟨v39, hv39, hf⟩ := zk_ob hf
                  refine zk_go (wr := [(a_md_opened, .inl (cI, 9, .inl w8)), (a_md_any, .inl (cJ, 9, .inr (.inl w9))), (a_md_all, .inl (cJ, 9, .inr (.inl v38.2)))]) (w2 := [(a_md, .inr (5, [.int v_md_length, .ref a_md_text, .int v_md_laws, .int v_md_sayers, .long v_md_there, .long v_md_question, .ref a_md_weight, .ref a_md_says, .ref a_md_cost, .int v_md_measure, .long v_md_trace, .int v_md_readLaws, .int v_md_readSayers, .long v_md_readThere, .ref a_md_readWeight, .ref a_md_readSays, .int v39.1, .int v39.2.1, .int v39.2.2, .int v38.1, .ref a_md_opened, .int w7, .ref a_md_any, .ref a_md_all, .long v_md_said, .ref a_md_burdens, .ref a_md_best, .ref a_md_own, .ref a_md_truth])), (a_md_text, .inl (cB, 300, .inl f_md_text)), (a_md_opened, .inl (cI, 9, .inl w8)), (a_md_any, .inl (cJ, 9, .inr (.inl w9))), (a_md_all, .inl (cJ, 9, .inr (.inl v38.2)))]) (zk_V (As := []) (rest := []) hx hb hml hown hts hK hG hP hD hS hA gX5_saying_X5_token rfl hd_X5_token (Nat.le_trans (Nat.le_of_ble_eq_true rfl) hRf) (Nat.le_trans (Nat.le_of_ble_eq_true rfl) hRl) hcs (zc_X5_token l D tL tO cI cJ cB cQ a_md a_md_text a_md_weight a_md_says a_md_cost a_md_readWeight a_md_readSays a_md_opened a_md_any a_md_all a_md_burdens a_md_best a_md_own a_md_truth v_md_length v_md_laws v_md_sayers v_md_there v_md_question v_md_measure v_md_trace v_md_readLaws v_md_readSayers v_md_readThere w3 w4 w5 v38.1 w7 v_md_said f_md_text v39 hv39) rfl rfl 0 rfl hl.1 rfl rfl (Nat.le_of_ble_eq_true rfl) dX5_saying_396 [0, 1] rfl rfl) hP hD hS hA [0, 1] [2, 3, 4] [3, 4, 0, 1, 2] rfl rfl rfl (by decide) rfl rfl (fun H locs hP hD hS => ?_)
                  refine lv_goto (tgt := 28) hx hb dX5_saying_399 (by decide) ?_
                  exact ih (0 : Int32) v39.1 v39.2.1 v39.2.2 v38.1 w7 w8 w9 v38.2 _ _ _ _ hf hP hD hS (lv_sub hl [2, 0] rfl) hkr
              · have hf := zk_f c48 hf
                refine lv_aload_n hx hb dX5_saying_123 rfl (lv_at hl 1 rfl) ?_
                refine va_get (ci := 5) (v := .ref a_md_opened) (C := RX5) (T := TX5) (N := 29) hx hb hts inX5 hown hK hP 0 rfl rfl 20 (by decide) lk11 (fun _ h9 => h9) rfl dX5_saying_124 ?_
                refine lv_aload_n hx hb dX5_saying_127 rfl (lv_at hl 1 rfl) ?_
                refine va_get (ci := 5) (v := .int w6) (C := RX5) (T := TX5) (N := 29) hx hb hts inX5 hown hK hP 0 rfl rfl 19 (by decide) lk0 (fun _ h9 => h9) rfl dX5_saying_128 ?_
                refine lv_aload_n hx hb dX5_saying_131 rfl (lv_at hl 1 rfl) ?_
                refine va_get (ci := 5) (v := .int w5) (C := RX5) (T := TX5) (N := 29) hx hb hts inX5 hown hK hP 0 rfl rfl 18 (by decide) lk6 (fun _ h9 => h9) rfl dX5_saying_132 ?_
                obtain ⟨g41, hf⟩ := zk_gd_s hf
                refine va_iast hx hb hK hP hD hS 2 0 rfl rfl (zk_in_s g41) dX5_saying_135 (fun H locs hP hD hS => ?_)
                have hP : va_P D vwCl [(a_md, .inr (5, [.int v_md_length, .ref a_md_text, .int v_md_laws, .int v_md_sayers, .long v_md_there, .long v_md_question, .ref a_md_weight, .ref a_md_says, .ref a_md_cost, .int v_md_measure, .long v_md_trace, .int v_md_readLaws, .int v_md_readSayers, .long v_md_readThere, .ref a_md_readWeight, .ref a_md_readSays, .int w3, .int w4, .int w5, .int w6, .ref a_md_opened, .int w7, .ref a_md_any, .ref a_md_all, .long v_md_said, .ref a_md_burdens, .ref a_md_best, .ref a_md_own, .ref a_md_truth])), (a_md_text, .inl (cB, 300, .inl f_md_text)), (a_md_opened, .inl (cI, 9, .inl (upd w8 w6.toNatClampNeg w5))), (a_md_any, .inl (cJ, 9, .inr (.inl w9))), (a_md_all, .inl (cJ, 9, .inr (.inl w10)))] H := hP
                have hD : va_D A [(a_md, .inr (5, [.int v_md_length, .ref a_md_text, .int v_md_laws, .int v_md_sayers, .long v_md_there, .long v_md_question, .ref a_md_weight, .ref a_md_says, .ref a_md_cost, .int v_md_measure, .long v_md_trace, .int v_md_readLaws, .int v_md_readSayers, .long v_md_readThere, .ref a_md_readWeight, .ref a_md_readSays, .int w3, .int w4, .int w5, .int w6, .ref a_md_opened, .int w7, .ref a_md_any, .ref a_md_all, .long v_md_said, .ref a_md_burdens, .ref a_md_best, .ref a_md_own, .ref a_md_truth])), (a_md_text, .inl (cB, 300, .inl f_md_text)), (a_md_opened, .inl (cI, 9, .inl (upd w8 w6.toNatClampNeg w5))), (a_md_any, .inl (cJ, 9, .inr (.inl w9))), (a_md_all, .inl (cJ, 9, .inr (.inl w10)))] := hD
                refine lv_aload_n hx hb dX5_saying_136 rfl (lv_at hl 1 rfl) ?_
                refine lv_dup hx hb dX5_saying_137 rfl ?_
                refine va_get (ci := 5) (v := .int w6) (C := RX5) (T := TX5) (N := 29) hx hb hts inX5 hown hK hP 0 rfl rfl 19 (by decide) lk0 (fun _ h9 => h9) rfl dX5_saying_138 ?_
                refine lv_iconst (v := (1 : Int32)) hx hb dX5_saying_141 (by decide) ?_
                refine lv_iadd hx hb dX5_saying_142 ?_
                obtain ⟨y42, ey42, hf⟩ := zk_lt_s hf
                refine zk_topi ey42 ?_
                refine va_put (ci := 5) (v := .int y42) (ty := .int) (C := RX5) (T := TX5) (N := 29) hx hb hts inX5 tyX5 tyX5_ok nmX5 hown hK hP hD hS 0 rfl rfl 19 (by decide) lk0 (fun _ h9 => h9) rfl (by decide +kernel) rfl rfl (Nat.le_of_ble_eq_true rfl) dX5_saying_143 (fun H locs hP hD hS => ?_)
                have hP : va_P D vwCl [(a_md, .inr (5, [.int v_md_length, .ref a_md_text, .int v_md_laws, .int v_md_sayers, .long v_md_there, .long v_md_question, .ref a_md_weight, .ref a_md_says, .ref a_md_cost, .int v_md_measure, .long v_md_trace, .int v_md_readLaws, .int v_md_readSayers, .long v_md_readThere, .ref a_md_readWeight, .ref a_md_readSays, .int w3, .int w4, .int w5, .int y42, .ref a_md_opened, .int w7, .ref a_md_any, .ref a_md_all, .long v_md_said, .ref a_md_burdens, .ref a_md_best, .ref a_md_own, .ref a_md_truth])), (a_md_text, .inl (cB, 300, .inl f_md_text)), (a_md_opened, .inl (cI, 9, .inl (upd w8 w6.toNatClampNeg w5))), (a_md_any, .inl (cJ, 9, .inr (.inl w9))), (a_md_all, .inl (cJ, 9, .inr (.inl w10)))] H := hP
                have hD : va_D A [(a_md, .inr (5, [.int v_md_length, .ref a_md_text, .int v_md_laws, .int v_md_sayers, .long v_md_there, .long v_md_question, .ref a_md_weight, .ref a_md_says, .ref a_md_cost, .int v_md_measure, .long v_md_trace, .int v_md_readLaws, .int v_md_readSayers, .long v_md_readThere, .ref a_md_readWeight, .ref a_md_readSays, .int w3, .int w4, .int w5, .int y42, .ref a_md_opened, .int w7, .ref a_md_any, .ref a_md_all, .long v_md_said, .ref a_md_burdens, .ref a_md_best, .ref a_md_own, .ref a_md_truth])), (a_md_text, .inl (cB, 300, .inl f_md_text)), (a_md_opened, .inl (cI, 9, .inl (upd w8 w6.toNatClampNeg w5))), (a_md_any, .inl (cJ, 9, .inr (.inl w9))), (a_md_all, .inl (cJ, 9, .inr (.inl w10)))] := hD
                refine lv_aload_n hx hb dX5_saying_146 rfl (lv_at hl 1 rfl) ?_
                refine va_get (ci := 5) (v := .int w5) (C := RX5) (T := TX5) (N := 29) hx hb hts inX5 hown hK hP 0 rfl rfl 18 (by decide) lk6 (fun _ h9 => h9) rfl dX5_saying_147 ?_
                refine lv_bipush (v := (40 : Int32)) hx hb dX5_saying_150 (by decide) ?_
                refine lv_icmp_ne (tgt := 234) hx hb dX5_saying_152 (by decide) (fun c47 => ?_) (fun c47 => ?_)
                · have hf := zk_f c47 hf
                  refine lv_goto (tgt := 395) hx hb dX5_saying_234 (by decide) ?_
                  refine lv_aload_n hx hb dX5_saying_395 rfl (lv_at hl 1 rfl) ?_
                  obtain ⟨v43, hv43, hf⟩ := zk_ob hf
                  refine zk_go (wr := [(a_md_opened, .inl (cI, 9, .inl (upd w8 w6.toNatClampNeg w5))), (a_md_any, .inl (cJ, 9, .inr (.inl w9))), (a_md_all, .inl (cJ, 9, .inr (.inl w10)))]) (w2 := [(a_md, .inr (5, [.int v_md_length, .ref a_md_text, .int v_md_laws, .int v_md_sayers, .long v_md_there, .long v_md_question, .ref a_md_weight, .ref a_md_says, .ref a_md_cost, .int v_md_measure, .long v_md_trace, .int v_md_readLaws, .int v_md_readSayers, .long v_md_readThere, .ref a_md_readWeight, .ref a_md_readSays, .int v43.1, .int v43.2.1, .int v43.2.2, .int y42, .ref a_md_opened, .int w7, .ref a_md_any, .ref a_md_all, .long v_md_said, .ref a_md_burdens, .ref a_md_best, .ref a_md_own, .ref a_md_truth])), (a_md_text, .inl (cB, 300, .inl f_md_text)), (a_md_opened, .inl (cI, 9, .inl (upd w8 w6.toNatClampNeg w5))), (a_md_any, .inl (cJ, 9, .inr (.inl w9))), (a_md_all, .inl (cJ, 9, .inr (.inl w10)))]) (zk_V (As := []) (rest := []) hx hb hml hown hts hK hG hP hD hS hA gX5_saying_X5_token rfl hd_X5_token (Nat.le_trans (Nat.le_of_ble_eq_true rfl) hRf) (Nat.le_trans (Nat.le_of_ble_eq_true rfl) hRl) hcs (zc_X5_token l D tL tO cI cJ cB cQ a_md a_md_text a_md_weight a_md_says a_md_cost a_md_readWeight a_md_readSays a_md_opened a_md_any a_md_all a_md_burdens a_md_best a_md_own a_md_truth v_md_length v_md_laws v_md_sayers v_md_there v_md_question v_md_measure v_md_trace v_md_readLaws v_md_readSayers v_md_readThere w3 w4 w5 y42 w7 v_md_said f_md_text v43 hv43) rfl rfl 0 rfl hl.1 rfl rfl (Nat.le_of_ble_eq_true rfl) dX5_saying_396 [0, 1] rfl rfl) hP hD hS hA [0, 1] [2, 3, 4] [3, 4, 0, 1, 2] rfl rfl rfl (by decide) rfl rfl (fun H locs hP hD hS => ?_)
                  refine lv_goto (tgt := 28) hx hb dX5_saying_399 (by decide) ?_
                  exact ih w2 v43.1 v43.2.1 v43.2.2 y42 w7 (upd w8 w6.toNatClampNeg w5) w9 w10 _ _ _ _ hf hP hD hS (lv_sub hl [1, 2] rfl) hkr
                · have hf := zk_t c47 hf
                  refine lv_aload_n hx hb dX5_saying_155 rfl (lv_at hl 1 rfl) ?_
                  refine lv_dup hx hb dX5_saying_156 rfl ?_
                  refine va_get (ci := 5) (v := .int w7) (C := RX5) (T := TX5) (N := 29) hx hb hts inX5 hown hK hP 0 rfl rfl 21 (by decide) lk2 (fun _ h9 => h9) rfl dX5_saying_157 ?_
                  refine lv_iconst (v := (1 : Int32)) hx hb dX5_saying_160 (by decide) ?_
                  refine lv_iadd hx hb dX5_saying_161 ?_
                  obtain ⟨y44, ey44, hf⟩ := zk_lt_s hf
                  refine zk_topi ey44 ?_
                  refine va_put (ci := 5) (v := .int y44) (ty := .int) (C := RX5) (T := TX5) (N := 29) hx hb hts inX5 tyX5 tyX5_ok nmX5 hown hK hP hD hS 0 rfl rfl 21 (by decide) lk2 (fun _ h9 => h9) rfl (by decide +kernel) rfl rfl (Nat.le_of_ble_eq_true rfl) dX5_saying_162 (fun H locs hP hD hS => ?_)
                  have hP : va_P D vwCl [(a_md, .inr (5, [.int v_md_length, .ref a_md_text, .int v_md_laws, .int v_md_sayers, .long v_md_there, .long v_md_question, .ref a_md_weight, .ref a_md_says, .ref a_md_cost, .int v_md_measure, .long v_md_trace, .int v_md_readLaws, .int v_md_readSayers, .long v_md_readThere, .ref a_md_readWeight, .ref a_md_readSays, .int w3, .int w4, .int w5, .int y42, .ref a_md_opened, .int y44, .ref a_md_any, .ref a_md_all, .long v_md_said, .ref a_md_burdens, .ref a_md_best, .ref a_md_own, .ref a_md_truth])), (a_md_text, .inl (cB, 300, .inl f_md_text)), (a_md_opened, .inl (cI, 9, .inl (upd w8 w6.toNatClampNeg w5))), (a_md_any, .inl (cJ, 9, .inr (.inl w9))), (a_md_all, .inl (cJ, 9, .inr (.inl w10)))] H := hP
                  have hD : va_D A [(a_md, .inr (5, [.int v_md_length, .ref a_md_text, .int v_md_laws, .int v_md_sayers, .long v_md_there, .long v_md_question, .ref a_md_weight, .ref a_md_says, .ref a_md_cost, .int v_md_measure, .long v_md_trace, .int v_md_readLaws, .int v_md_readSayers, .long v_md_readThere, .ref a_md_readWeight, .ref a_md_readSays, .int w3, .int w4, .int w5, .int y42, .ref a_md_opened, .int y44, .ref a_md_any, .ref a_md_all, .long v_md_said, .ref a_md_burdens, .ref a_md_best, .ref a_md_own, .ref a_md_truth])), (a_md_text, .inl (cB, 300, .inl f_md_text)), (a_md_opened, .inl (cI, 9, .inl (upd w8 w6.toNatClampNeg w5))), (a_md_any, .inl (cJ, 9, .inr (.inl w9))), (a_md_all, .inl (cJ, 9, .inr (.inl w10)))] := hD
                  refine lv_aload_n hx hb dX5_saying_165 rfl (lv_at hl 1 rfl) ?_
                  refine va_get (ci := 5) (v := .ref a_md_any) (C := RX5) (T := TX5) (N := 29) hx hb hts inX5 hown hK hP 0 rfl rfl 22 (by decide) lk3 (fun _ h9 => h9) rfl dX5_saying_166 ?_
                  refine lv_aload_n hx hb dX5_saying_169 rfl (lv_at hl 1 rfl) ?_
                  refine va_get (ci := 5) (v := .int y44) (C := RX5) (T := TX5) (N := 29) hx hb hts inX5 hown hK hP 0 rfl rfl 21 (by decide) lk2 (fun _ h9 => h9) rfl dX5_saying_170 ?_
                  refine lv_lconst (v := (0 : Int64)) hx hb dX5_saying_173 (by decide) ?_
                  obtain ⟨g45, hf⟩ := zk_gd_s hf
                  refine va_last hx hb hK hP hD hS 3 1 rfl rfl (zk_in_s g45) dX5_saying_174 (fun H locs hP hD hS => ?_)
                  have hP : va_P D vwCl [(a_md, .inr (5, [.int v_md_length, .ref a_md_text, .int v_md_laws, .int v_md_sayers, .long v_md_there, .long v_md_question, .ref a_md_weight, .ref a_md_says, .ref a_md_cost, .int v_md_measure, .long v_md_trace, .int v_md_readLaws, .int v_md_readSayers, .long v_md_readThere, .ref a_md_readWeight, .ref a_md_readSays, .int w3, .int w4, .int w5, .int y42, .ref a_md_opened, .int y44, .ref a_md_any, .ref a_md_all, .long v_md_said, .ref a_md_burdens, .ref a_md_best, .ref a_md_own, .ref a_md_truth])), (a_md_text, .inl (cB, 300, .inl f_md_text)), (a_md_opened, .inl (cI, 9, .inl (upd w8 w6.toNatClampNeg w5))), (a_md_any, .inl (cJ, 9, .inr (.inl (vp_updL w9 y44.toNatClampNeg (0 : Int64))))), (a_md_all, .inl (cJ, 9, .inr (.inl w10)))] H := hP
                  have hD : va_D A [(a_md, .inr (5, [.int v_md_length, .ref a_md_text, .int v_md_laws, .int v_md_sayers, .long v_md_there, .long v_md_question, .ref a_md_weight, .ref a_md_says, .ref a_md_cost, .int v_md_measure, .long v_md_trace, .int v_md_readLaws, .int v_md_readSayers, .long v_md_readThere, .ref a_md_readWeight, .ref a_md_readSays, .int w3, .int w4, .int w5, .int y42, .ref a_md_opened, .int y44, .ref a_md_any, .ref a_md_all, .long v_md_said, .ref a_md_burdens, .ref a_md_best, .ref a_md_own, .ref a_md_truth])), (a_md_text, .inl (cB, 300, .inl f_md_text)), (a_md_opened, .inl (cI, 9, .inl (upd w8 w6.toNatClampNeg w5))), (a_md_any, .inl (cJ, 9, .inr (.inl (vp_updL w9 y44.toNatClampNeg (0 : Int64))))), (a_md_all, .inl (cJ, 9, .inr (.inl w10)))] := hD
                  refine lv_aload_n hx hb dX5_saying_175 rfl (lv_at hl 1 rfl) ?_
                  refine va_get (ci := 5) (v := .ref a_md_all) (C := RX5) (T := TX5) (N := 29) hx hb hts inX5 hown hK hP 0 rfl rfl 23 (by decide) lk4 (fun _ h9 => h9) rfl dX5_saying_176 ?_
                  refine lv_aload_n hx hb dX5_saying_179 rfl (lv_at hl 1 rfl) ?_
                  refine va_get (ci := 5) (v := .int y44) (C := RX5) (T := TX5) (N := 29) hx hb hts inX5 hown hK hP 0 rfl rfl 21 (by decide) lk2 (fun _ h9 => h9) rfl dX5_saying_180 ?_
                  refine lv_ldc2 hx hb hown lk5 dX5_saying_183 ?_
                  refine va_last hx hb hK hP hD hS 4 1 rfl rfl (zk_in_s g45) dX5_saying_186 (fun H locs hP hD hS => ?_)
                  have hP : va_P D vwCl [(a_md, .inr (5, [.int v_md_length, .ref a_md_text, .int v_md_laws, .int v_md_sayers, .long v_md_there, .long v_md_question, .ref a_md_weight, .ref a_md_says, .ref a_md_cost, .int v_md_measure, .long v_md_trace, .int v_md_readLaws, .int v_md_readSayers, .long v_md_readThere, .ref a_md_readWeight, .ref a_md_readSays, .int w3, .int w4, .int w5, .int y42, .ref a_md_opened, .int y44, .ref a_md_any, .ref a_md_all, .long v_md_said, .ref a_md_burdens, .ref a_md_best, .ref a_md_own, .ref a_md_truth])), (a_md_text, .inl (cB, 300, .inl f_md_text)), (a_md_opened, .inl (cI, 9, .inl (upd w8 w6.toNatClampNeg w5))), (a_md_any, .inl (cJ, 9, .inr (.inl (vp_updL w9 y44.toNatClampNeg (0 : Int64))))), (a_md_all, .inl (cJ, 9, .inr (.inl (vp_updL w10 y44.toNatClampNeg (-1 : Int64)))))] H := hP
                  have hD : va_D A [(a_md, .inr (5, [.int v_md_length, .ref a_md_text, .int v_md_laws, .int v_md_sayers, .long v_md_there, .long v_md_question, .ref a_md_weight, .ref a_md_says, .ref a_md_cost, .int v_md_measure, .long v_md_trace, .int v_md_readLaws, .int v_md_readSayers, .long v_md_readThere, .ref a_md_readWeight, .ref a_md_readSays, .int w3, .int w4, .int w5, .int y42, .ref a_md_opened, .int y44, .ref a_md_any, .ref a_md_all, .long v_md_said, .ref a_md_burdens, .ref a_md_best, .ref a_md_own, .ref a_md_truth])), (a_md_text, .inl (cB, 300, .inl f_md_text)), (a_md_opened, .inl (cI, 9, .inl (upd w8 w6.toNatClampNeg w5))), (a_md_any, .inl (cJ, 9, .inr (.inl (vp_updL w9 y44.toNatClampNeg (0 : Int64))))), (a_md_all, .inl (cJ, 9, .inr (.inl (vp_updL w10 y44.toNatClampNeg (-1 : Int64)))))] := hD
                  refine lv_goto (tgt := 234) hx hb dX5_saying_187 (by decide) ?_
                  refine lv_goto (tgt := 395) hx hb dX5_saying_234 (by decide) ?_
                  refine lv_aload_n hx hb dX5_saying_395 rfl (lv_at hl 1 rfl) ?_
                  obtain ⟨v46, hv46, hf⟩ := zk_ob hf
                  refine zk_go (wr := [(a_md_opened, .inl (cI, 9, .inl (upd w8 w6.toNatClampNeg w5))), (a_md_any, .inl (cJ, 9, .inr (.inl (vp_updL w9 y44.toNatClampNeg (0 : Int64))))), (a_md_all, .inl (cJ, 9, .inr (.inl (vp_updL w10 y44.toNatClampNeg (-1 : Int64)))))]) (w2 := [(a_md, .inr (5, [.int v_md_length, .ref a_md_text, .int v_md_laws, .int v_md_sayers, .long v_md_there, .long v_md_question, .ref a_md_weight, .ref a_md_says, .ref a_md_cost, .int v_md_measure, .long v_md_trace, .int v_md_readLaws, .int v_md_readSayers, .long v_md_readThere, .ref a_md_readWeight, .ref a_md_readSays, .int v46.1, .int v46.2.1, .int v46.2.2, .int y42, .ref a_md_opened, .int y44, .ref a_md_any, .ref a_md_all, .long v_md_said, .ref a_md_burdens, .ref a_md_best, .ref a_md_own, .ref a_md_truth])), (a_md_text, .inl (cB, 300, .inl f_md_text)), (a_md_opened, .inl (cI, 9, .inl (upd w8 w6.toNatClampNeg w5))), (a_md_any, .inl (cJ, 9, .inr (.inl (vp_updL w9 y44.toNatClampNeg (0 : Int64))))), (a_md_all, .inl (cJ, 9, .inr (.inl (vp_updL w10 y44.toNatClampNeg (-1 : Int64)))))]) (zk_V (As := []) (rest := []) hx hb hml hown hts hK hG hP hD hS hA gX5_saying_X5_token rfl hd_X5_token (Nat.le_trans (Nat.le_of_ble_eq_true rfl) hRf) (Nat.le_trans (Nat.le_of_ble_eq_true rfl) hRl) hcs (zc_X5_token l D tL tO cI cJ cB cQ a_md a_md_text a_md_weight a_md_says a_md_cost a_md_readWeight a_md_readSays a_md_opened a_md_any a_md_all a_md_burdens a_md_best a_md_own a_md_truth v_md_length v_md_laws v_md_sayers v_md_there v_md_question v_md_measure v_md_trace v_md_readLaws v_md_readSayers v_md_readThere w3 w4 w5 y42 y44 v_md_said f_md_text v46 hv46) rfl rfl 0 rfl hl.1 rfl rfl (Nat.le_of_ble_eq_true rfl) dX5_saying_396 [0, 1] rfl rfl) hP hD hS hA [0, 1] [2, 3, 4] [3, 4, 0, 1, 2] rfl rfl rfl (by decide) rfl rfl (fun H locs hP hD hS => ?_)
                  refine lv_goto (tgt := 28) hx hb dX5_saying_399 (by decide) ?_
                  exact ih w2 v46.1 v46.2.1 v46.2.2 y42 y44 (upd w8 w6.toNatClampNeg w5) (vp_updL w9 y44.toNatClampNeg (0 : Int64)) (vp_updL w10 y44.toNatClampNeg (-1 : Int64)) _ _ _ _ hf hP hD hS (lv_sub hl [1, 2] rfl) hkr
            · have hf := zk_t c49 hf
              refine lv_aload_n hx hb dX5_saying_114 rfl (lv_at hl 1 rfl) ?_
              refine va_get (ci := 5) (v := .int w3) (C := RX5) (T := TX5) (N := 29) hx hb hts inX5 hown hK hP 0 rfl rfl 16 (by decide) lk8 (fun _ h9 => h9) rfl dX5_saying_115 ?_
              obtain rfl := hkr _ (Option.some.inj hf).symm
              exact hret trivial _ _ _ _ hP hD hS dX5_saying_118
          replace hf := hv31
          refine lv_if_ne (tgt := 104) hx hb dX5_saying_70 (by decide) (fun c54 => ?_) (fun c54 => ?_)
          · have hf := zk_f c54 hf
            refine lv_iconst (v := (1 : Int32)) hx hb dX5_saying_104 (by decide) ?_
            refine lv_goto (tgt := 109) hx hb dX5_saying_105 (by decide) ?_
            obtain rfl := Option.some.inj hf
            exact kv31 _ _ _ hP hD hS (lv_sub hl [1, 2, 0] rfl)
          · have hf := zk_t c54 hf
            refine lv_aload_n hx hb dX5_saying_73 rfl (lv_at hl 1 rfl) ?_
            refine va_get (ci := 5) (v := .int w5) (C := RX5) (T := TX5) (N := 29) hx hb hts inX5 hown hK hP 0 rfl rfl 18 (by decide) lk6 (fun _ h9 => h9) rfl dX5_saying_74 ?_
            refine lv_bipush (v := (48 : Int32)) hx hb dX5_saying_77 (by decide) ?_
            refine lv_icmp_eq (tgt := 104) hx hb dX5_saying_79 (by decide) (fun c53 => ?_) (fun c53 => ?_)
            · have hf := zk_t c53 hf
              refine lv_iconst (v := (1 : Int32)) hx hb dX5_saying_104 (by decide) ?_
              refine lv_goto (tgt := 109) hx hb dX5_saying_105 (by decide) ?_
              obtain rfl := Option.some.inj hf
              exact kv31 _ _ _ hP hD hS (lv_sub hl [1, 2, 0] rfl)
            · have hf := zk_f c53 hf
              refine lv_aload_n hx hb dX5_saying_82 rfl (lv_at hl 1 rfl) ?_
              refine va_get (ci := 5) (v := .int w5) (C := RX5) (T := TX5) (N := 29) hx hb hts inX5 hown hK hP 0 rfl rfl 18 (by decide) lk6 (fun _ h9 => h9) rfl dX5_saying_83 ?_
              refine lv_bipush (v := (49 : Int32)) hx hb dX5_saying_86 (by decide) ?_
              refine lv_icmp_eq (tgt := 104) hx hb dX5_saying_88 (by decide) (fun c52 => ?_) (fun c52 => ?_)
              · have hf := zk_t c52 hf
                refine lv_iconst (v := (1 : Int32)) hx hb dX5_saying_104 (by decide) ?_
                refine lv_goto (tgt := 109) hx hb dX5_saying_105 (by decide) ?_
                obtain rfl := Option.some.inj hf
                exact kv31 _ _ _ hP hD hS (lv_sub hl [1, 2, 0] rfl)
              · have hf := zk_f c52 hf
                refine lv_iload_n hx hb dX5_saying_91 rfl (lv_at hl 0 rfl) ?_
                refine lv_if_eq (tgt := 108) hx hb dX5_saying_92 (by decide) (fun c51 => ?_) (fun c51 => ?_)
                · have hf := zk_t c51 hf
                  refine lv_iconst (v := (0 : Int32)) hx hb dX5_saying_108 (by decide) ?_
                  obtain rfl := Option.some.inj hf
                  exact kv31 _ _ _ hP hD hS (lv_sub hl [1, 2, 0] rfl)
                · have hf := zk_f c51 hf
                  refine lv_aload_n hx hb dX5_saying_95 rfl (lv_at hl 1 rfl) ?_
                  refine va_get (ci := 5) (v := .int w6) (C := RX5) (T := TX5) (N := 29) hx hb hts inX5 hown hK hP 0 rfl rfl 19 (by decide) lk0 (fun _ h9 => h9) rfl dX5_saying_96 ?_
                  refine lv_bipush (v := (8 : Int32)) hx hb dX5_saying_99 (by decide) ?_
                  refine lv_icmp_ge (tgt := 108) hx hb dX5_saying_101 (by decide) (fun c50 => ?_) (fun c50 => ?_)
                  · have hf := zk_t c50 hf
                    refine lv_iconst (v := (0 : Int32)) hx hb dX5_saying_108 (by decide) ?_
                    obtain rfl := Option.some.inj hf
                    exact kv31 _ _ _ hP hD hS (lv_sub hl [1, 2, 0] rfl)
                  · have hf := zk_f c50 hf
                    refine lv_iconst (v := (1 : Int32)) hx hb dX5_saying_104 (by decide) ?_
                    refine lv_goto (tgt := 109) hx hb dX5_saying_105 (by decide) ?_
                    obtain rfl := Option.some.inj hf
                    exact kv31 _ _ _ hP hD hS (lv_sub hl [1, 2, 0] rfl)
        replace hf := hv29
        refine lv_icmp_eq (tgt := 50) hx hb dX5_saying_38 (by decide) (fun c56 => ?_) (fun c56 => ?_)
        · have hf := zk_t c56 hf
          refine lv_iconst (v := (1 : Int32)) hx hb dX5_saying_50 (by decide) ?_
          refine lv_goto (tgt := 55) hx hb dX5_saying_51 (by decide) ?_
          obtain rfl := Option.some.inj hf
          exact kv29 _ _ _ hP hD hS (lv_sub hl [0, 1] rfl)
        · have hf := zk_f c56 hf
          refine lv_aload_n hx hb dX5_saying_41 rfl (lv_at hl 0 rfl) ?_
          refine va_get (ci := 5) (v := .int w5) (C := RX5) (T := TX5) (N := 29) hx hb hts inX5 hown hK hP 0 rfl rfl 18 (by decide) lk6 (fun _ h9 => h9) rfl dX5_saying_42 ?_
          refine lv_bipush (v := (40 : Int32)) hx hb dX5_saying_45 (by decide) ?_
          refine lv_icmp_ne (tgt := 54) hx hb dX5_saying_47 (by decide) (fun c55 => ?_) (fun c55 => ?_)
          · have hf := zk_f c55 hf
            refine lv_iconst (v := (0 : Int32)) hx hb dX5_saying_54 (by decide) ?_
            obtain rfl := Option.some.inj hf
            exact kv29 _ _ _ hP hD hS (lv_sub hl [0, 1] rfl)
          · have hf := zk_t c55 hf
            refine lv_iconst (v := (1 : Int32)) hx hb dX5_saying_50 (by decide) ?_
            refine lv_goto (tgt := 55) hx hb dX5_saying_51 (by decide) ?_
            obtain rfl := Option.some.inj hf
            exact kv29 _ _ _ hP hD hS (lv_sub hl [0, 1] rfl)
  obtain ⟨v58, hv58, hf⟩ := zk_ob hf
  refine lp28 zk_F (1 : Int32) v_md_begin v_md_end v_md_sort (0 : Int32) (0 : Int32) f_md_opened (vp_updL f_md_any (0 : Int32).toNatClampNeg (0 : Int64)) (vp_updL f_md_all (0 : Int32).toNatClampNeg (-1 : Int64)) v58 _ _ _ hv58 hP hD hS (lv_sub hl [1, 0] rfl) ?_
  · intro r59 hr59
    subst hr59
    exact Option.some.inj hf
def zl_X5_fault_26 (v_md_length : Int32) (f_md_text : Nat → Int32) : Nat → (Int32) → (Int32) → (Int64) → (Int32) → (Int32) → (Int32) → (Int32) → (Int32) → (Int64) → (Nat → Int32) → (Nat → Int64) → (Nat → Int32) → (Nat → Int64) → (Nat → Int64) → Option ((Int32 × Int32 × Int64 × Int32 × Int32 × Int32 × Int32 × Int32 × Int64 × (Nat → Int32) × (Nat → Int64) × (Nat → Int32) × (Nat → Int64) × (Nat → Int64)) ⊕ (Int32 × Int32 × Int32 × Int64 × Int32 × Int32 × Int32 × Int32 × Int32 × Int64 × (Nat → Int32) × (Nat → Int64) × (Nat → Int32) × (Nat → Int64) × (Nat → Int64)))
  | 0, _, _, _, _, _, _, _, _, _, _, _, _, _, _ => none
  | n + 1, w2, w3, w4, w5, w6, w7, w8, w9, w10, w11, w12, w13, w14, w15 =>
    if w7 = 0 then
    some (Sum.inl (w2, w3, w4, w5, w6, w7, w8, w9, w10, w11, w12, w13, w14, w15))
    else
    (if w7 = (76 : Int32) then
    some (1 : Int32)
    else
    some (0 : Int32)).bind (fun v16 =>
    (if v16 = 0 then
    if w7 = (83 : Int32) then
    if w3 < (7 : Int32) then
    some (Sum.inl ())
    else
    some (Sum.inr (w5, w2, w3, w4, w5, w6, w7, w8, w9, w10, w11, w12, w13, w14, w15))
    else
    some (Sum.inr (w5, w2, w3, w4, w5, w6, w7, w8, w9, w10, w11, w12, w13, w14, w15))
    else
    if (3 : Int32) ≤ w2 then
    some (Sum.inr (w5, w2, w3, w4, w5, w6, w7, w8, w9, w10, w11, w12, w13, w14, w15))
    else
    some (Sum.inl ())).bind (fun v17 =>
    zk_su v17
    (fun u18 =>
    (zf_X5_token v_md_length w6 f_md_text).bind (fun v19 =>
    (if v16 = 0 then
    (zf_X5_in v19.2.2.toInt64 (49 : Int64) (57 : Int64)).bind (fun v32 =>
    if v32 = 0 then
    some (Sum.inr (v19.1, w2, w3, w4, v19.1, v19.2.1, v19.2.2, w8, w9, w10, w11, w12, w13, w14, w15))
    else
    zk_gd (zk_in w3 7)
    ((zf_X5_token v_md_length v19.2.1 f_md_text).bind (fun v34 =>
    some (Sum.inl (v34.1, v34.2.1, v34.2.2, upd w11 w3.toNatClampNeg (v19.2.2 - (48 : Int32)))))))
    else
    some (Sum.inl (v19.1, v19.2.1, v19.2.2, w11))).bind (fun v20 =>
    zk_su v20
    (fun u21 =>
    (zf_X5_saying v_md_length u21.1 u21.2.1 u21.2.2.1 w10 f_md_text w13 w14 w15).bind (fun v22 =>
    if 0 ≤ v22.1 then
    some (Sum.inr (v22.2.1, w2, w3, w4, v22.2.1, v22.2.2.1, v22.2.2.2.1, v22.2.2.2.2.1, v22.2.2.2.2.2.1, v22.2.2.2.2.2.2.1, u21.2.2.2, w12, v22.2.2.2.2.2.2.2.1, v22.2.2.2.2.2.2.2.2.1, v22.2.2.2.2.2.2.2.2.2))
    else
    if v22.2.2.2.1 = (59 : Int32) then
    if v16 = 0 then
    zk_gd (zk_in w3 7)
    (zk_lt (w3 + (1 : Int32)) (fun y24 =>
    (zf_X5_token v_md_length v22.2.2.1 f_md_text).bind (fun v25 =>
    zl_X5_fault_26 v_md_length f_md_text n w2 y24 w4 v25.1 v25.2.1 v25.2.2 v22.2.2.2.2.1 v22.2.2.2.2.2.1 v22.2.2.2.2.2.2.1 u21.2.2.2 (vp_updL w12 w3.toNatClampNeg v22.2.2.2.2.2.2.1) v22.2.2.2.2.2.2.2.1 v22.2.2.2.2.2.2.2.2.1 v22.2.2.2.2.2.2.2.2.2)))
    else
    zk_lt (w4 &&& v22.2.2.2.2.2.2.1) (fun y26 =>
    zk_lt (w2 + (1 : Int32)) (fun y27 =>
    (zf_X5_token v_md_length v22.2.2.1 f_md_text).bind (fun v28 =>
    zl_X5_fault_26 v_md_length f_md_text n y27 w3 y26 v28.1 v28.2.1 v28.2.2 v22.2.2.2.2.1 v22.2.2.2.2.2.1 v22.2.2.2.2.2.2.1 u21.2.2.2 w12 v22.2.2.2.2.2.2.2.1 v22.2.2.2.2.2.2.2.2.1 v22.2.2.2.2.2.2.2.2.2)))
    else
    some (Sum.inr (v22.2.1, w2, w3, w4, v22.2.1, v22.2.2.1, v22.2.2.2.1, v22.2.2.2.2.1, v22.2.2.2.2.2.1, v22.2.2.2.2.2.2.1, u21.2.2.2, w12, v22.2.2.2.2.2.2.2.1, v22.2.2.2.2.2.2.2.2.1, v22.2.2.2.2.2.2.2.2.2))))
    (fun r37 => some (Sum.inr r37)))))
    (fun r42 => some (Sum.inr r42))))
def zf_X5_fault (v_md_length : Int32) (v_md_open : Int32) (v_md_level : Int32) (v_md_said : Int64) (f_md_text : Nat → Int32) (f_md_readWeight : Nat → Int32) (f_md_readSays : Nat → Int64) (f_md_opened : Nat → Int32) (f_md_any : Nat → Int64) (f_md_all : Nat → Int64) : Option (Int32 × Int32 × Int32 × Int64 × Int32 × Int32 × Int32 × Int32 × Int32 × Int64 × (Nat → Int32) × (Nat → Int64) × (Nat → Int32) × (Nat → Int64) × (Nat → Int64)) :=
  (zf_X5_token v_md_length (0 : Int32) f_md_text).bind (fun v1 =>
  (zl_X5_fault_26 v_md_length f_md_text zk_F (0 : Int32) (0 : Int32) (-1 : Int64) v1.1 v1.2.1 v1.2.2 v_md_open v_md_level v_md_said f_md_readWeight f_md_readSays f_md_opened f_md_any f_md_all).bind (fun v45 =>
  zk_su v45
  (fun u46 =>
  some ((-1 : Int32), u46.1, u46.2.1, u46.2.2.1, u46.2.2.2.1, u46.2.2.2.2.1, u46.2.2.2.2.2.1, u46.2.2.2.2.2.2.1, u46.2.2.2.2.2.2.2.1, u46.2.2.2.2.2.2.2.2.1, u46.2.2.2.2.2.2.2.2.2.1, u46.2.2.2.2.2.2.2.2.2.2.1, u46.2.2.2.2.2.2.2.2.2.2.2.1, u46.2.2.2.2.2.2.2.2.2.2.2.2.1, u46.2.2.2.2.2.2.2.2.2.2.2.2.2))
  (fun r47 => some r47)))
theorem hd_X5_fault : yX5_fault.cls = RX5 ∧ yX5_fault.cls ≠ "java/lang/invoke/MethodHandle" ∧ yX5_fault.cls ≠ "java/lang/invoke/VarHandle" ∧ (parseMethodDescriptor yX5_fault.desc).map (fun d => d.parameters.length) = some 0 := by decide +kernel
set_option maxHeartbeats 4000000 in
set_option maxRecDepth 100000 in
theorem zc_X5_fault (l : Launch) (D : va_G) (tL tO : Nat) (cI cJ cB cQ : ClassId) (a_md a_md_text a_md_weight a_md_says a_md_cost a_md_readWeight a_md_readSays a_md_opened a_md_any a_md_all a_md_burdens a_md_best a_md_own a_md_truth : Nat) (v_md_length : Int32) (v_md_laws : Int32) (v_md_sayers : Int32) (v_md_there : Int64) (v_md_question : Int64) (v_md_measure : Int32) (v_md_trace : Int64) (v_md_readLaws : Int32) (v_md_readSayers : Int32) (v_md_readThere : Int64) (v_md_begin : Int32) (v_md_end : Int32) (v_md_sort : Int32) (v_md_open : Int32) (v_md_level : Int32) (v_md_said : Int64) (f_md_text : Nat → Int32) (f_md_readWeight : Nat → Int32) (f_md_readSays : Nat → Int64) (f_md_opened : Nat → Int32) (f_md_any : Nat → Int64) (f_md_all : Nat → Int64) (z : Int32 × Int32 × Int32 × Int64 × Int32 × Int32 × Int32 × Int32 × Int32 × Int64 × (Nat → Int32) × (Nat → Int64) × (Nat → Int32) × (Nat → Int64) × (Nat → Int64)) (hf : zf_X5_fault v_md_length v_md_open v_md_level v_md_said f_md_text f_md_readWeight f_md_readSays f_md_opened f_md_any f_md_all = some z) : zk_CT l D tL tO (zk_ty cI cJ cB cQ) yX5_fault wsX5_fault 4 91 [.ref a_md] (some (.int z.1)) [(a_md, .inr (5, [.int v_md_length, .ref a_md_text, .int v_md_laws, .int v_md_sayers, .long v_md_there, .long v_md_question, .ref a_md_weight, .ref a_md_says, .ref a_md_cost, .int v_md_measure, .long v_md_trace, .int v_md_readLaws, .int v_md_readSayers, .long v_md_readThere, .ref a_md_readWeight, .ref a_md_readSays, .int v_md_begin, .int v_md_end, .int v_md_sort, .int v_md_open, .ref a_md_opened, .int v_md_level, .ref a_md_any, .ref a_md_all, .long v_md_said, .ref a_md_burdens, .ref a_md_best, .ref a_md_own, .ref a_md_truth])), (a_md_text, .inl (cB, 300, .inl f_md_text)), (a_md_readWeight, .inl (cI, 7, .inl f_md_readWeight)), (a_md_readSays, .inl (cJ, 7, .inr (.inl f_md_readSays))), (a_md_opened, .inl (cI, 9, .inl f_md_opened)), (a_md_any, .inl (cJ, 9, .inr (.inl f_md_any))), (a_md_all, .inl (cJ, 9, .inr (.inl f_md_all)))] [(a_md, .inr (5, [.int v_md_length, .ref a_md_text, .int v_md_laws, .int v_md_sayers, .long v_md_there, .long v_md_question, .ref a_md_weight, .ref a_md_says, .ref a_md_cost, .int v_md_measure, .long v_md_trace, .int z.2.1, .int z.2.2.1, .long z.2.2.2.1, .ref a_md_readWeight, .ref a_md_readSays, .int z.2.2.2.2.1, .int z.2.2.2.2.2.1, .int z.2.2.2.2.2.2.1, .int z.2.2.2.2.2.2.2.1, .ref a_md_opened, .int z.2.2.2.2.2.2.2.2.1, .ref a_md_any, .ref a_md_all, .long z.2.2.2.2.2.2.2.2.2.1, .ref a_md_burdens, .ref a_md_best, .ref a_md_own, .ref a_md_truth])), (a_md_text, .inl (cB, 300, .inl f_md_text)), (a_md_readWeight, .inl (cI, 7, .inl z.2.2.2.2.2.2.2.2.2.2.1)), (a_md_readSays, .inl (cJ, 7, .inr (.inl z.2.2.2.2.2.2.2.2.2.2.2.1))), (a_md_opened, .inl (cI, 9, .inl z.2.2.2.2.2.2.2.2.2.2.2.2.1)), (a_md_any, .inl (cJ, 9, .inr (.inl z.2.2.2.2.2.2.2.2.2.2.2.2.2.1))), (a_md_all, .inl (cJ, 9, .inr (.inl z.2.2.2.2.2.2.2.2.2.2.2.2.2.2)))] := by
  refine zk_of_i (cc := cX5_fault) (maxL := 3) (by decide) rfl (Nat.le_of_ble_eq_true rfl) ?_
  intro p e R s m args below meth c A Q ls hx hb hml hRf hRl hts hown hP hK hD hA hS hG hl hret
  have hl : lv_has ls 3 [(0, .ref a_md)] := hl
  have hown : s.vm.findClass RX5 = some m.cls := hown
  have hcs : 0 ≤ R.cells ∧ 0 ≤ R.slots := ⟨Nat.zero_le _, Nat.zero_le _⟩
  have lk0 := hts (.fieldLink RX5 121 "SayingsMergedModel" "readLaws" "I") (by decide +kernel)
  have inX5 : ∀ w ∈ wsX50, w ∈ wsX5_fault := by decide +kernel
  have lk2 := hts (.fieldLink RX5 124 "SayingsMergedModel" "readSayers" "I") (by decide +kernel)
  have lk3 := hts (.constantLong RX5 13 (-1)) (by decide +kernel)
  have lk4 := hts (.fieldLink RX5 127 "SayingsMergedModel" "readThere" "J") (by decide +kernel)
  have lk5 := hts (.fieldLink RX5 78 "SayingsMergedModel" "end" "I") (by decide +kernel)
  have lk6 := hts (.fieldLink RX5 84 "SayingsMergedModel" "sort" "I") (by decide +kernel)
  have lk7 := hts (.fieldLink RX5 81 "SayingsMergedModel" "begin" "I") (by decide +kernel)
  have lk8 := hts (.fieldLink RX5 36 "SayingsMergedModel" "readSays" "[J") (by decide +kernel)
  have lk9 := hts (.fieldLink RX5 115 "SayingsMergedModel" "said" "J") (by decide +kernel)
  have lk10 := hts (.constantLong RX5 130 (49)) (by decide +kernel)
  have lk11 := hts (.constantLong RX5 97 (57)) (by decide +kernel)
  have lk12 := hts (.fieldLink RX5 33 "SayingsMergedModel" "readWeight" "[I") (by decide +kernel)
  unfold zf_X5_fault at hf
  refine lv_aload_n hx hb dX5_fault_0 rfl (lv_at hl 0 rfl) ?_
  refine lv_iconst (v := (0 : Int32)) hx hb dX5_fault_1 (by decide) ?_
  refine va_put (ci := 5) (v := .int (0 : Int32)) (ty := .int) (C := RX5) (T := TX5) (N := 29) hx hb hts inX5 tyX5 tyX5_ok nmX5 hown hK hP hD hS 0 rfl rfl 11 (by decide) lk0 (fun _ h9 => h9) rfl (by decide +kernel) rfl rfl (Nat.le_of_ble_eq_true rfl) dX5_fault_2 (fun H locs hP hD hS => ?_)
  have hP : va_P D vwCl [(a_md, .inr (5, [.int v_md_length, .ref a_md_text, .int v_md_laws, .int v_md_sayers, .long v_md_there, .long v_md_question, .ref a_md_weight, .ref a_md_says, .ref a_md_cost, .int v_md_measure, .long v_md_trace, .int (0 : Int32), .int v_md_readSayers, .long v_md_readThere, .ref a_md_readWeight, .ref a_md_readSays, .int v_md_begin, .int v_md_end, .int v_md_sort, .int v_md_open, .ref a_md_opened, .int v_md_level, .ref a_md_any, .ref a_md_all, .long v_md_said, .ref a_md_burdens, .ref a_md_best, .ref a_md_own, .ref a_md_truth])), (a_md_text, .inl (cB, 300, .inl f_md_text)), (a_md_readWeight, .inl (cI, 7, .inl f_md_readWeight)), (a_md_readSays, .inl (cJ, 7, .inr (.inl f_md_readSays))), (a_md_opened, .inl (cI, 9, .inl f_md_opened)), (a_md_any, .inl (cJ, 9, .inr (.inl f_md_any))), (a_md_all, .inl (cJ, 9, .inr (.inl f_md_all)))] H := hP
  have hD : va_D A [(a_md, .inr (5, [.int v_md_length, .ref a_md_text, .int v_md_laws, .int v_md_sayers, .long v_md_there, .long v_md_question, .ref a_md_weight, .ref a_md_says, .ref a_md_cost, .int v_md_measure, .long v_md_trace, .int (0 : Int32), .int v_md_readSayers, .long v_md_readThere, .ref a_md_readWeight, .ref a_md_readSays, .int v_md_begin, .int v_md_end, .int v_md_sort, .int v_md_open, .ref a_md_opened, .int v_md_level, .ref a_md_any, .ref a_md_all, .long v_md_said, .ref a_md_burdens, .ref a_md_best, .ref a_md_own, .ref a_md_truth])), (a_md_text, .inl (cB, 300, .inl f_md_text)), (a_md_readWeight, .inl (cI, 7, .inl f_md_readWeight)), (a_md_readSays, .inl (cJ, 7, .inr (.inl f_md_readSays))), (a_md_opened, .inl (cI, 9, .inl f_md_opened)), (a_md_any, .inl (cJ, 9, .inr (.inl f_md_any))), (a_md_all, .inl (cJ, 9, .inr (.inl f_md_all)))] := hD
  refine lv_aload_n hx hb dX5_fault_5 rfl (lv_at hl 0 rfl) ?_
  refine lv_iconst (v := (0 : Int32)) hx hb dX5_fault_6 (by decide) ?_
  refine va_put (ci := 5) (v := .int (0 : Int32)) (ty := .int) (C := RX5) (T := TX5) (N := 29) hx hb hts inX5 tyX5 tyX5_ok nmX5 hown hK hP hD hS 0 rfl rfl 12 (by decide) lk2 (fun _ h9 => h9) rfl (by decide +kernel) rfl rfl (Nat.le_of_ble_eq_true rfl) dX5_fault_7 (fun H locs hP hD hS => ?_)
  have hP : va_P D vwCl [(a_md, .inr (5, [.int v_md_length, .ref a_md_text, .int v_md_laws, .int v_md_sayers, .long v_md_there, .long v_md_question, .ref a_md_weight, .ref a_md_says, .ref a_md_cost, .int v_md_measure, .long v_md_trace, .int (0 : Int32), .int (0 : Int32), .long v_md_readThere, .ref a_md_readWeight, .ref a_md_readSays, .int v_md_begin, .int v_md_end, .int v_md_sort, .int v_md_open, .ref a_md_opened, .int v_md_level, .ref a_md_any, .ref a_md_all, .long v_md_said, .ref a_md_burdens, .ref a_md_best, .ref a_md_own, .ref a_md_truth])), (a_md_text, .inl (cB, 300, .inl f_md_text)), (a_md_readWeight, .inl (cI, 7, .inl f_md_readWeight)), (a_md_readSays, .inl (cJ, 7, .inr (.inl f_md_readSays))), (a_md_opened, .inl (cI, 9, .inl f_md_opened)), (a_md_any, .inl (cJ, 9, .inr (.inl f_md_any))), (a_md_all, .inl (cJ, 9, .inr (.inl f_md_all)))] H := hP
  have hD : va_D A [(a_md, .inr (5, [.int v_md_length, .ref a_md_text, .int v_md_laws, .int v_md_sayers, .long v_md_there, .long v_md_question, .ref a_md_weight, .ref a_md_says, .ref a_md_cost, .int v_md_measure, .long v_md_trace, .int (0 : Int32), .int (0 : Int32), .long v_md_readThere, .ref a_md_readWeight, .ref a_md_readSays, .int v_md_begin, .int v_md_end, .int v_md_sort, .int v_md_open, .ref a_md_opened, .int v_md_level, .ref a_md_any, .ref a_md_all, .long v_md_said, .ref a_md_burdens, .ref a_md_best, .ref a_md_own, .ref a_md_truth])), (a_md_text, .inl (cB, 300, .inl f_md_text)), (a_md_readWeight, .inl (cI, 7, .inl f_md_readWeight)), (a_md_readSays, .inl (cJ, 7, .inr (.inl f_md_readSays))), (a_md_opened, .inl (cI, 9, .inl f_md_opened)), (a_md_any, .inl (cJ, 9, .inr (.inl f_md_any))), (a_md_all, .inl (cJ, 9, .inr (.inl f_md_all)))] := hD
  refine lv_aload_n hx hb dX5_fault_10 rfl (lv_at hl 0 rfl) ?_
  refine lv_ldc2 hx hb hown lk3 dX5_fault_11 ?_
  refine va_put (ci := 5) (v := .long (-1 : Int64)) (ty := .long) (C := RX5) (T := TX5) (N := 29) hx hb hts inX5 tyX5 tyX5_ok nmX5 hown hK hP hD hS 0 rfl rfl 13 (by decide) lk4 (fun _ h9 => h9) rfl (by decide +kernel) rfl rfl (Nat.le_of_ble_eq_true rfl) dX5_fault_14 (fun H locs hP hD hS => ?_)
  have hP : va_P D vwCl [(a_md, .inr (5, [.int v_md_length, .ref a_md_text, .int v_md_laws, .int v_md_sayers, .long v_md_there, .long v_md_question, .ref a_md_weight, .ref a_md_says, .ref a_md_cost, .int v_md_measure, .long v_md_trace, .int (0 : Int32), .int (0 : Int32), .long (-1 : Int64), .ref a_md_readWeight, .ref a_md_readSays, .int v_md_begin, .int v_md_end, .int v_md_sort, .int v_md_open, .ref a_md_opened, .int v_md_level, .ref a_md_any, .ref a_md_all, .long v_md_said, .ref a_md_burdens, .ref a_md_best, .ref a_md_own, .ref a_md_truth])), (a_md_text, .inl (cB, 300, .inl f_md_text)), (a_md_readWeight, .inl (cI, 7, .inl f_md_readWeight)), (a_md_readSays, .inl (cJ, 7, .inr (.inl f_md_readSays))), (a_md_opened, .inl (cI, 9, .inl f_md_opened)), (a_md_any, .inl (cJ, 9, .inr (.inl f_md_any))), (a_md_all, .inl (cJ, 9, .inr (.inl f_md_all)))] H := hP
  have hD : va_D A [(a_md, .inr (5, [.int v_md_length, .ref a_md_text, .int v_md_laws, .int v_md_sayers, .long v_md_there, .long v_md_question, .ref a_md_weight, .ref a_md_says, .ref a_md_cost, .int v_md_measure, .long v_md_trace, .int (0 : Int32), .int (0 : Int32), .long (-1 : Int64), .ref a_md_readWeight, .ref a_md_readSays, .int v_md_begin, .int v_md_end, .int v_md_sort, .int v_md_open, .ref a_md_opened, .int v_md_level, .ref a_md_any, .ref a_md_all, .long v_md_said, .ref a_md_burdens, .ref a_md_best, .ref a_md_own, .ref a_md_truth])), (a_md_text, .inl (cB, 300, .inl f_md_text)), (a_md_readWeight, .inl (cI, 7, .inl f_md_readWeight)), (a_md_readSays, .inl (cJ, 7, .inr (.inl f_md_readSays))), (a_md_opened, .inl (cI, 9, .inl f_md_opened)), (a_md_any, .inl (cJ, 9, .inr (.inl f_md_any))), (a_md_all, .inl (cJ, 9, .inr (.inl f_md_all)))] := hD
  refine lv_aload_n hx hb dX5_fault_17 rfl (lv_at hl 0 rfl) ?_
  refine lv_iconst (v := (0 : Int32)) hx hb dX5_fault_18 (by decide) ?_
  refine va_put (ci := 5) (v := .int (0 : Int32)) (ty := .int) (C := RX5) (T := TX5) (N := 29) hx hb hts inX5 tyX5 tyX5_ok nmX5 hown hK hP hD hS 0 rfl rfl 17 (by decide) lk5 (fun _ h9 => h9) rfl (by decide +kernel) rfl rfl (Nat.le_of_ble_eq_true rfl) dX5_fault_19 (fun H locs hP hD hS => ?_)
  have hP : va_P D vwCl [(a_md, .inr (5, [.int v_md_length, .ref a_md_text, .int v_md_laws, .int v_md_sayers, .long v_md_there, .long v_md_question, .ref a_md_weight, .ref a_md_says, .ref a_md_cost, .int v_md_measure, .long v_md_trace, .int (0 : Int32), .int (0 : Int32), .long (-1 : Int64), .ref a_md_readWeight, .ref a_md_readSays, .int v_md_begin, .int (0 : Int32), .int v_md_sort, .int v_md_open, .ref a_md_opened, .int v_md_level, .ref a_md_any, .ref a_md_all, .long v_md_said, .ref a_md_burdens, .ref a_md_best, .ref a_md_own, .ref a_md_truth])), (a_md_text, .inl (cB, 300, .inl f_md_text)), (a_md_readWeight, .inl (cI, 7, .inl f_md_readWeight)), (a_md_readSays, .inl (cJ, 7, .inr (.inl f_md_readSays))), (a_md_opened, .inl (cI, 9, .inl f_md_opened)), (a_md_any, .inl (cJ, 9, .inr (.inl f_md_any))), (a_md_all, .inl (cJ, 9, .inr (.inl f_md_all)))] H := hP
  have hD : va_D A [(a_md, .inr (5, [.int v_md_length, .ref a_md_text, .int v_md_laws, .int v_md_sayers, .long v_md_there, .long v_md_question, .ref a_md_weight, .ref a_md_says, .ref a_md_cost, .int v_md_measure, .long v_md_trace, .int (0 : Int32), .int (0 : Int32), .long (-1 : Int64), .ref a_md_readWeight, .ref a_md_readSays, .int v_md_begin, .int (0 : Int32), .int v_md_sort, .int v_md_open, .ref a_md_opened, .int v_md_level, .ref a_md_any, .ref a_md_all, .long v_md_said, .ref a_md_burdens, .ref a_md_best, .ref a_md_own, .ref a_md_truth])), (a_md_text, .inl (cB, 300, .inl f_md_text)), (a_md_readWeight, .inl (cI, 7, .inl f_md_readWeight)), (a_md_readSays, .inl (cJ, 7, .inr (.inl f_md_readSays))), (a_md_opened, .inl (cI, 9, .inl f_md_opened)), (a_md_any, .inl (cJ, 9, .inr (.inl f_md_any))), (a_md_all, .inl (cJ, 9, .inr (.inl f_md_all)))] := hD
  refine lv_aload_n hx hb dX5_fault_22 rfl (lv_at hl 0 rfl) ?_
  obtain ⟨v1, hv1, hf⟩ := zk_ob hf
  refine zk_go (wr := [(a_md_readWeight, .inl (cI, 7, .inl f_md_readWeight)), (a_md_readSays, .inl (cJ, 7, .inr (.inl f_md_readSays))), (a_md_opened, .inl (cI, 9, .inl f_md_opened)), (a_md_any, .inl (cJ, 9, .inr (.inl f_md_any))), (a_md_all, .inl (cJ, 9, .inr (.inl f_md_all)))]) (w2 := [(a_md, .inr (5, [.int v_md_length, .ref a_md_text, .int v_md_laws, .int v_md_sayers, .long v_md_there, .long v_md_question, .ref a_md_weight, .ref a_md_says, .ref a_md_cost, .int v_md_measure, .long v_md_trace, .int (0 : Int32), .int (0 : Int32), .long (-1 : Int64), .ref a_md_readWeight, .ref a_md_readSays, .int v1.1, .int v1.2.1, .int v1.2.2, .int v_md_open, .ref a_md_opened, .int v_md_level, .ref a_md_any, .ref a_md_all, .long v_md_said, .ref a_md_burdens, .ref a_md_best, .ref a_md_own, .ref a_md_truth])), (a_md_text, .inl (cB, 300, .inl f_md_text)), (a_md_readWeight, .inl (cI, 7, .inl f_md_readWeight)), (a_md_readSays, .inl (cJ, 7, .inr (.inl f_md_readSays))), (a_md_opened, .inl (cI, 9, .inl f_md_opened)), (a_md_any, .inl (cJ, 9, .inr (.inl f_md_any))), (a_md_all, .inl (cJ, 9, .inr (.inl f_md_all)))]) (zk_V (As := []) (rest := []) hx hb hml hown hts hK hG hP hD hS hA gX5_fault_X5_token rfl hd_X5_token (Nat.le_trans (Nat.le_of_ble_eq_true rfl) hRf) (Nat.le_trans (Nat.le_of_ble_eq_true rfl) hRl) hcs (zc_X5_token l D tL tO cI cJ cB cQ a_md a_md_text a_md_weight a_md_says a_md_cost a_md_readWeight a_md_readSays a_md_opened a_md_any a_md_all a_md_burdens a_md_best a_md_own a_md_truth v_md_length v_md_laws v_md_sayers v_md_there v_md_question v_md_measure v_md_trace (0 : Int32) (0 : Int32) (-1 : Int64) v_md_begin (0 : Int32) v_md_sort v_md_open v_md_level v_md_said f_md_text v1 hv1) rfl rfl 0 rfl hl.1 rfl rfl (Nat.le_of_ble_eq_true rfl) dX5_fault_23 [0, 1] rfl rfl) hP hD hS hA [0, 1] [2, 3, 4, 5, 6] [5, 6, 0, 1, 2, 3, 4] rfl rfl rfl (by decide) rfl rfl (fun H locs hP hD hS => ?_)
  have lp26 : ∀ (n : Nat) (w2 : Int32) (w3 : Int32) (w4 : Int64) (w5 : Int32) (w6 : Int32) (w7 : Int32) (w8 : Int32) (w9 : Int32) (w10 : Int64) (w11 : Nat → Int32) (w12 : Nat → Int64) (w13 : Nat → Int32) (w14 : Nat → Int64) (w15 : Nat → Int64) (z26 : (Int32 × Int32 × Int64 × Int32 × Int32 × Int32 × Int32 × Int32 × Int64 × (Nat → Int32) × (Nat → Int64) × (Nat → Int32) × (Nat → Int64) × (Nat → Int64)) ⊕ (Int32 × Int32 × Int32 × Int64 × Int32 × Int32 × Int32 × Int32 × Int32 × Int64 × (Nat → Int32) × (Nat → Int64) × (Nat → Int32) × (Nat → Int64) × (Nat → Int64))) (H : Heap) (locs : List Loc) (ls : Array Slot), zl_X5_fault_26 v_md_length f_md_text n w2 w3 w4 w5 w6 w7 w8 w9 w10 w11 w12 w13 w14 w15 = some z26 → va_P D vwCl [(a_md, .inr (5, [.int v_md_length, .ref a_md_text, .int v_md_laws, .int v_md_sayers, .long v_md_there, .long v_md_question, .ref a_md_weight, .ref a_md_says, .ref a_md_cost, .int v_md_measure, .long v_md_trace, .int w2, .int w3, .long w4, .ref a_md_readWeight, .ref a_md_readSays, .int w5, .int w6, .int w7, .int w8, .ref a_md_opened, .int w9, .ref a_md_any, .ref a_md_all, .long w10, .ref a_md_burdens, .ref a_md_best, .ref a_md_own, .ref a_md_truth])), (a_md_text, .inl (cB, 300, .inl f_md_text)), (a_md_readWeight, .inl (cI, 7, .inl w11)), (a_md_readSays, .inl (cJ, 7, .inr (.inl w12))), (a_md_opened, .inl (cI, 9, .inl w13)), (a_md_any, .inl (cJ, 9, .inr (.inl w14))), (a_md_all, .inl (cJ, 9, .inr (.inl w15)))] H → va_D A [(a_md, .inr (5, [.int v_md_length, .ref a_md_text, .int v_md_laws, .int v_md_sayers, .long v_md_there, .long v_md_question, .ref a_md_weight, .ref a_md_says, .ref a_md_cost, .int v_md_measure, .long v_md_trace, .int w2, .int w3, .long w4, .ref a_md_readWeight, .ref a_md_readSays, .int w5, .int w6, .int w7, .int w8, .ref a_md_opened, .int w9, .ref a_md_any, .ref a_md_all, .long w10, .ref a_md_burdens, .ref a_md_best, .ref a_md_own, .ref a_md_truth])), (a_md_text, .inl (cB, 300, .inl f_md_text)), (a_md_readWeight, .inl (cI, 7, .inl w11)), (a_md_readSays, .inl (cJ, 7, .inr (.inl w12))), (a_md_opened, .inl (cI, 9, .inl w13)), (a_md_any, .inl (cJ, 9, .inr (.inl w14))), (a_md_all, .inl (cJ, 9, .inr (.inl w15)))] → va_S A s.heap H locs → lv_has ls 3 [(0, .ref a_md)] → (∀ u : Int32 × Int32 × Int64 × Int32 × Int32 × Int32 × Int32 × Int32 × Int64 × (Nat → Int32) × (Nat → Int64) × (Nat → Int32) × (Nat → Int64) × (Nat → Int64), z26 = Sum.inl u → ∀ (H : Heap) (locs : List Loc) (ls : Array Slot), va_P D vwCl [(a_md, .inr (5, [.int v_md_length, .ref a_md_text, .int v_md_laws, .int v_md_sayers, .long v_md_there, .long v_md_question, .ref a_md_weight, .ref a_md_says, .ref a_md_cost, .int v_md_measure, .long v_md_trace, .int u.1, .int u.2.1, .long u.2.2.1, .ref a_md_readWeight, .ref a_md_readSays, .int u.2.2.2.1, .int u.2.2.2.2.1, .int u.2.2.2.2.2.1, .int u.2.2.2.2.2.2.1, .ref a_md_opened, .int u.2.2.2.2.2.2.2.1, .ref a_md_any, .ref a_md_all, .long u.2.2.2.2.2.2.2.2.1, .ref a_md_burdens, .ref a_md_best, .ref a_md_own, .ref a_md_truth])), (a_md_text, .inl (cB, 300, .inl f_md_text)), (a_md_readWeight, .inl (cI, 7, .inl u.2.2.2.2.2.2.2.2.2.1)), (a_md_readSays, .inl (cJ, 7, .inr (.inl u.2.2.2.2.2.2.2.2.2.2.1))), (a_md_opened, .inl (cI, 9, .inl u.2.2.2.2.2.2.2.2.2.2.2.1)), (a_md_any, .inl (cJ, 9, .inr (.inl u.2.2.2.2.2.2.2.2.2.2.2.2.1))), (a_md_all, .inl (cJ, 9, .inr (.inl u.2.2.2.2.2.2.2.2.2.2.2.2.2)))] H → va_D A [(a_md, .inr (5, [.int v_md_length, .ref a_md_text, .int v_md_laws, .int v_md_sayers, .long v_md_there, .long v_md_question, .ref a_md_weight, .ref a_md_says, .ref a_md_cost, .int v_md_measure, .long v_md_trace, .int u.1, .int u.2.1, .long u.2.2.1, .ref a_md_readWeight, .ref a_md_readSays, .int u.2.2.2.1, .int u.2.2.2.2.1, .int u.2.2.2.2.2.1, .int u.2.2.2.2.2.2.1, .ref a_md_opened, .int u.2.2.2.2.2.2.2.1, .ref a_md_any, .ref a_md_all, .long u.2.2.2.2.2.2.2.2.1, .ref a_md_burdens, .ref a_md_best, .ref a_md_own, .ref a_md_truth])), (a_md_text, .inl (cB, 300, .inl f_md_text)), (a_md_readWeight, .inl (cI, 7, .inl u.2.2.2.2.2.2.2.2.2.1)), (a_md_readSays, .inl (cJ, 7, .inr (.inl u.2.2.2.2.2.2.2.2.2.2.1))), (a_md_opened, .inl (cI, 9, .inl u.2.2.2.2.2.2.2.2.2.2.2.1)), (a_md_any, .inl (cJ, 9, .inr (.inl u.2.2.2.2.2.2.2.2.2.2.2.2.1))), (a_md_all, .inl (cJ, 9, .inr (.inl u.2.2.2.2.2.2.2.2.2.2.2.2.2)))] → va_S A s.heap H locs → lv_has ls 3 [(0, .ref a_md)] → W p l e R s m args below meth c H locs 0 0 Q (F0 m 219 ls [])) → (∀ r : Int32 × Int32 × Int32 × Int64 × Int32 × Int32 × Int32 × Int32 × Int32 × Int64 × (Nat → Int32) × (Nat → Int64) × (Nat → Int32) × (Nat → Int64) × (Nat → Int64), z26 = Sum.inr r → r = z) → W p l e R s m args below meth c H locs 0 0 Q (F0 m 26 ls []) := by
    intro n
    induction n with
    | zero => intro w2 w3 w4 w5 w6 w7 w8 w9 w10 w11 w12 w13 w14 w15 z26 H locs ls hf; exact absurd (show none = some z26 from hf) (by simp)
    | succ n ih =>
      intro w2 w3 w4 w5 w6 w7 w8 w9 w10 w11 w12 w13 w14 w15 z26 H locs ls hf hP hD hS hl hk hkr
      rw [zl_X5_fault_26] at hf
      refine lv_aload_n hx hb dX5_fault_26 rfl (lv_at hl 0 rfl) ?_
      refine va_get (ci := 5) (v := .int w7) (C := RX5) (T := TX5) (N := 29) hx hb hts inX5 hown hK hP 0 rfl rfl 18 (by decide) lk6 (fun _ h9 => h9) rfl dX5_fault_27 ?_
      refine lv_if_eq (tgt := 219) hx hb dX5_fault_30 (by decide) (fun c44 => ?_) (fun c44 => ?_)
      · have hf := zk_t c44 hf
        exact hk _ (Option.some.inj hf).symm _ _ _ hP hD hS (lv_sub hl [0] rfl)
      · have hf := zk_f c44 hf
        refine lv_aload_n hx hb dX5_fault_33 rfl (lv_at hl 0 rfl) ?_
        refine va_get (ci := 5) (v := .int w7) (C := RX5) (T := TX5) (N := 29) hx hb hts inX5 hown hK hP 0 rfl rfl 18 (by decide) lk6 (fun _ h9 => h9) rfl dX5_fault_34 ?_
        refine lv_bipush (v := (76 : Int32)) hx hb dX5_fault_37 (by decide) ?_
        obtain ⟨v16, hv16, hf⟩ := zk_ob hf
        have kv16 : ∀ (H : Heap) (locs : List Loc) (ls : Array Slot), va_P D vwCl [(a_md, .inr (5, [.int v_md_length, .ref a_md_text, .int v_md_laws, .int v_md_sayers, .long v_md_there, .long v_md_question, .ref a_md_weight, .ref a_md_says, .ref a_md_cost, .int v_md_measure, .long v_md_trace, .int w2, .int w3, .long w4, .ref a_md_readWeight, .ref a_md_readSays, .int w5, .int w6, .int w7, .int w8, .ref a_md_opened, .int w9, .ref a_md_any, .ref a_md_all, .long w10, .ref a_md_burdens, .ref a_md_best, .ref a_md_own, .ref a_md_truth])), (a_md_text, .inl (cB, 300, .inl f_md_text)), (a_md_readWeight, .inl (cI, 7, .inl w11)), (a_md_readSays, .inl (cJ, 7, .inr (.inl w12))), (a_md_opened, .inl (cI, 9, .inl w13)), (a_md_any, .inl (cJ, 9, .inr (.inl w14))), (a_md_all, .inl (cJ, 9, .inr (.inl w15)))] H → va_D A [(a_md, .inr (5, [.int v_md_length, .ref a_md_text, .int v_md_laws, .int v_md_sayers, .long v_md_there, .long v_md_question, .ref a_md_weight, .ref a_md_says, .ref a_md_cost, .int v_md_measure, .long v_md_trace, .int w2, .int w3, .long w4, .ref a_md_readWeight, .ref a_md_readSays, .int w5, .int w6, .int w7, .int w8, .ref a_md_opened, .int w9, .ref a_md_any, .ref a_md_all, .long w10, .ref a_md_burdens, .ref a_md_best, .ref a_md_own, .ref a_md_truth])), (a_md_text, .inl (cB, 300, .inl f_md_text)), (a_md_readWeight, .inl (cI, 7, .inl w11)), (a_md_readSays, .inl (cJ, 7, .inr (.inl w12))), (a_md_opened, .inl (cI, 9, .inl w13)), (a_md_any, .inl (cJ, 9, .inr (.inl w14))), (a_md_all, .inl (cJ, 9, .inr (.inl w15)))] → va_S A s.heap H locs → lv_has ls 3 [(0, .ref a_md)] → W p l e R s m args below meth c H locs 0 0 Q (F0 m 47 ls [.int v16]) := by
          intro H locs ls hP hD hS hl
          refine lv_istore_n (lv' := [(1, .int v16), (0, .ref a_md)]) hx hb dX5_fault_47 rfl hl (by decide) rfl (fun ls hl => ?_)
          refine lv_iload_n hx hb dX5_fault_48 rfl (lv_at hl 0 rfl) ?_
          obtain ⟨v17, hv17, hf⟩ := zk_ob hf
          have kv17_0 : ∀ u18 : Unit, v17 = Sum.inl u18 → ∀ (H : Heap) (locs : List Loc) (ls : Array Slot), va_P D vwCl [(a_md, .inr (5, [.int v_md_length, .ref a_md_text, .int v_md_laws, .int v_md_sayers, .long v_md_there, .long v_md_question, .ref a_md_weight, .ref a_md_says, .ref a_md_cost, .int v_md_measure, .long v_md_trace, .int w2, .int w3, .long w4, .ref a_md_readWeight, .ref a_md_readSays, .int w5, .int w6, .int w7, .int w8, .ref a_md_opened, .int w9, .ref a_md_any, .ref a_md_all, .long w10, .ref a_md_burdens, .ref a_md_best, .ref a_md_own, .ref a_md_truth])), (a_md_text, .inl (cB, 300, .inl f_md_text)), (a_md_readWeight, .inl (cI, 7, .inl w11)), (a_md_readSays, .inl (cJ, 7, .inr (.inl w12))), (a_md_opened, .inl (cI, 9, .inl w13)), (a_md_any, .inl (cJ, 9, .inr (.inl w14))), (a_md_all, .inl (cJ, 9, .inr (.inl w15)))] H → va_D A [(a_md, .inr (5, [.int v_md_length, .ref a_md_text, .int v_md_laws, .int v_md_sayers, .long v_md_there, .long v_md_question, .ref a_md_weight, .ref a_md_says, .ref a_md_cost, .int v_md_measure, .long v_md_trace, .int w2, .int w3, .long w4, .ref a_md_readWeight, .ref a_md_readSays, .int w5, .int w6, .int w7, .int w8, .ref a_md_opened, .int w9, .ref a_md_any, .ref a_md_all, .long w10, .ref a_md_burdens, .ref a_md_best, .ref a_md_own, .ref a_md_truth])), (a_md_text, .inl (cB, 300, .inl f_md_text)), (a_md_readWeight, .inl (cI, 7, .inl w11)), (a_md_readSays, .inl (cJ, 7, .inr (.inl w12))), (a_md_opened, .inl (cI, 9, .inl w13)), (a_md_any, .inl (cJ, 9, .inr (.inl w14))), (a_md_all, .inl (cJ, 9, .inr (.inl w15)))] → va_S A s.heap H locs → lv_has ls 3 [(0, .ref a_md), (1, .int v16)] → W p l e R s m args below meth c H locs 0 0 Q (F0 m 86 ls []) := by
            intro u18 hu18 H locs ls hP hD hS hl
            subst hu18
            have hf := zk_su_l hf
            refine lv_aload_n hx hb dX5_fault_86 rfl (lv_at hl 0 rfl) ?_
            obtain ⟨v19, hv19, hf⟩ := zk_ob hf
            refine zk_go (wr := [(a_md_readWeight, .inl (cI, 7, .inl w11)), (a_md_readSays, .inl (cJ, 7, .inr (.inl w12))), (a_md_opened, .inl (cI, 9, .inl w13)), (a_md_any, .inl (cJ, 9, .inr (.inl w14))), (a_md_all, .inl (cJ, 9, .inr (.inl w15)))]) (w2 := [(a_md, .inr (5, [.int v_md_length, .ref a_md_text, .int v_md_laws, .int v_md_sayers, .long v_md_there, .long v_md_question, .ref a_md_weight, .ref a_md_says, .ref a_md_cost, .int v_md_measure, .long v_md_trace, .int w2, .int w3, .long w4, .ref a_md_readWeight, .ref a_md_readSays, .int v19.1, .int v19.2.1, .int v19.2.2, .int w8, .ref a_md_opened, .int w9, .ref a_md_any, .ref a_md_all, .long w10, .ref a_md_burdens, .ref a_md_best, .ref a_md_own, .ref a_md_truth])), (a_md_text, .inl (cB, 300, .inl f_md_text)), (a_md_readWeight, .inl (cI, 7, .inl w11)), (a_md_readSays, .inl (cJ, 7, .inr (.inl w12))), (a_md_opened, .inl (cI, 9, .inl w13)), (a_md_any, .inl (cJ, 9, .inr (.inl w14))), (a_md_all, .inl (cJ, 9, .inr (.inl w15)))]) (zk_V (As := []) (rest := []) hx hb hml hown hts hK hG hP hD hS hA gX5_fault_X5_token rfl hd_X5_token (Nat.le_trans (Nat.le_of_ble_eq_true rfl) hRf) (Nat.le_trans (Nat.le_of_ble_eq_true rfl) hRl) hcs (zc_X5_token l D tL tO cI cJ cB cQ a_md a_md_text a_md_weight a_md_says a_md_cost a_md_readWeight a_md_readSays a_md_opened a_md_any a_md_all a_md_burdens a_md_best a_md_own a_md_truth v_md_length v_md_laws v_md_sayers v_md_there v_md_question v_md_measure v_md_trace w2 w3 w4 w5 w6 w7 w8 w9 w10 f_md_text v19 hv19) rfl rfl 0 rfl hl.1 rfl rfl (Nat.le_of_ble_eq_true rfl) dX5_fault_87 [0, 1] rfl rfl) hP hD hS hA [0, 1] [2, 3, 4, 5, 6] [5, 6, 0, 1, 2, 3, 4] rfl rfl rfl (by decide) rfl rfl (fun H locs hP hD hS => ?_)
            refine lv_iload_n hx hb dX5_fault_90 rfl (lv_at hl 1 rfl) ?_
            obtain ⟨v20, hv20, hf⟩ := zk_ob hf
            have kv20_0 : ∀ u21 : Int32 × Int32 × Int32 × (Nat → Int32), v20 = Sum.inl u21 → ∀ (H : Heap) (locs : List Loc) (ls : Array Slot), va_P D vwCl [(a_md, .inr (5, [.int v_md_length, .ref a_md_text, .int v_md_laws, .int v_md_sayers, .long v_md_there, .long v_md_question, .ref a_md_weight, .ref a_md_says, .ref a_md_cost, .int v_md_measure, .long v_md_trace, .int w2, .int w3, .long w4, .ref a_md_readWeight, .ref a_md_readSays, .int u21.1, .int u21.2.1, .int u21.2.2.1, .int w8, .ref a_md_opened, .int w9, .ref a_md_any, .ref a_md_all, .long w10, .ref a_md_burdens, .ref a_md_best, .ref a_md_own, .ref a_md_truth])), (a_md_text, .inl (cB, 300, .inl f_md_text)), (a_md_readWeight, .inl (cI, 7, .inl u21.2.2.2)), (a_md_readSays, .inl (cJ, 7, .inr (.inl w12))), (a_md_opened, .inl (cI, 9, .inl w13)), (a_md_any, .inl (cJ, 9, .inr (.inl w14))), (a_md_all, .inl (cJ, 9, .inr (.inl w15)))] H → va_D A [(a_md, .inr (5, [.int v_md_length, .ref a_md_text, .int v_md_laws, .int v_md_sayers, .long v_md_there, .long v_md_question, .ref a_md_weight, .ref a_md_says, .ref a_md_cost, .int v_md_measure, .long v_md_trace, .int w2, .int w3, .long w4, .ref a_md_readWeight, .ref a_md_readSays, .int u21.1, .int u21.2.1, .int u21.2.2.1, .int w8, .ref a_md_opened, .int w9, .ref a_md_any, .ref a_md_all, .long w10, .ref a_md_burdens, .ref a_md_best, .ref a_md_own, .ref a_md_truth])), (a_md_text, .inl (cB, 300, .inl f_md_text)), (a_md_readWeight, .inl (cI, 7, .inl u21.2.2.2)), (a_md_readSays, .inl (cJ, 7, .inr (.inl w12))), (a_md_opened, .inl (cI, 9, .inl w13)), (a_md_any, .inl (cJ, 9, .inr (.inl w14))), (a_md_all, .inl (cJ, 9, .inr (.inl w15)))] → va_S A s.heap H locs → lv_has ls 3 [(0, .ref a_md), (1, .int v16)] → W p l e R s m args below meth c H locs 0 0 Q (F0 m 136 ls []) := by
              intro u21 hu21 H locs ls hP hD hS hl
              subst hu21
              have hf := zk_su_l hf
              refine lv_aload_n hx hb dX5_fault_136 rfl (lv_at hl 0 rfl) ?_
              obtain ⟨v22, hv22, hf⟩ := zk_ob hf
              refine zk_go (wr := [(a_md_readWeight, .inl (cI, 7, .inl u21.2.2.2)), (a_md_readSays, .inl (cJ, 7, .inr (.inl w12)))]) (w2 := [(a_md, .inr (5, [.int v_md_length, .ref a_md_text, .int v_md_laws, .int v_md_sayers, .long v_md_there, .long v_md_question, .ref a_md_weight, .ref a_md_says, .ref a_md_cost, .int v_md_measure, .long v_md_trace, .int w2, .int w3, .long w4, .ref a_md_readWeight, .ref a_md_readSays, .int v22.2.1, .int v22.2.2.1, .int v22.2.2.2.1, .int v22.2.2.2.2.1, .ref a_md_opened, .int v22.2.2.2.2.2.1, .ref a_md_any, .ref a_md_all, .long v22.2.2.2.2.2.2.1, .ref a_md_burdens, .ref a_md_best, .ref a_md_own, .ref a_md_truth])), (a_md_text, .inl (cB, 300, .inl f_md_text)), (a_md_readWeight, .inl (cI, 7, .inl u21.2.2.2)), (a_md_readSays, .inl (cJ, 7, .inr (.inl w12))), (a_md_opened, .inl (cI, 9, .inl v22.2.2.2.2.2.2.2.1)), (a_md_any, .inl (cJ, 9, .inr (.inl v22.2.2.2.2.2.2.2.2.1))), (a_md_all, .inl (cJ, 9, .inr (.inl v22.2.2.2.2.2.2.2.2.2)))]) (zk_V (As := []) (rest := []) hx hb hml hown hts hK hG hP hD hS hA gX5_fault_X5_saying rfl hd_X5_saying (Nat.le_trans (Nat.le_of_ble_eq_true rfl) hRf) (Nat.le_trans (Nat.le_of_ble_eq_true rfl) hRl) hcs (zc_X5_saying l D tL tO cI cJ cB cQ a_md a_md_text a_md_weight a_md_says a_md_cost a_md_readWeight a_md_readSays a_md_opened a_md_any a_md_all a_md_burdens a_md_best a_md_own a_md_truth v_md_length v_md_laws v_md_sayers v_md_there v_md_question v_md_measure v_md_trace w2 w3 w4 u21.1 u21.2.1 u21.2.2.1 w8 w9 w10 f_md_text w13 w14 w15 v22 hv22) rfl rfl 0 rfl hl.1 rfl rfl (Nat.le_of_ble_eq_true rfl) dX5_fault_137 [0, 1, 4, 5, 6] rfl rfl) hP hD hS hA [0, 1, 4, 5, 6] [2, 3] [2, 3, 0, 1, 4, 5, 6] rfl rfl rfl (by decide) rfl rfl (fun H locs hP hD hS => ?_)
              refine lv_istore_n (lv' := [(2, .int v22.1), (0, .ref a_md), (1, .int v16)]) hx hb dX5_fault_140 rfl hl (by decide) rfl (fun ls hl => ?_)
              refine lv_iload_n hx hb dX5_fault_141 rfl (lv_at hl 0 rfl) ?_
              refine lv_if_ge (tgt := 154) hx hb dX5_fault_142 (by decide) (fun c31 => ?_) (fun c31 => ?_)
              · have hf := zk_t c31 hf
                refine lv_aload_n hx hb dX5_fault_154 rfl (lv_at hl 1 rfl) ?_
                refine va_get (ci := 5) (v := .int v22.2.1) (C := RX5) (T := TX5) (N := 29) hx hb hts inX5 hown hK hP 0 rfl rfl 16 (by decide) lk7 (fun _ h9 => h9) rfl dX5_fault_155 ?_
                obtain rfl := hkr _ (Option.some.inj hf).symm
                exact hret trivial _ _ _ _ hP hD hS dX5_fault_158
              · have hf := zk_f c31 hf
                refine lv_aload_n hx hb dX5_fault_145 rfl (lv_at hl 1 rfl) ?_
                refine va_get (ci := 5) (v := .int v22.2.2.2.1) (C := RX5) (T := TX5) (N := 29) hx hb hts inX5 hown hK hP 0 rfl rfl 18 (by decide) lk6 (fun _ h9 => h9) rfl dX5_fault_146 ?_
                refine lv_bipush (v := (59 : Int32)) hx hb dX5_fault_149 (by decide) ?_
                refine lv_icmp_eq (tgt := 159) hx hb dX5_fault_151 (by decide) (fun c30 => ?_) (fun c30 => ?_)
                · have hf := zk_t c30 hf
                  refine lv_iload_n hx hb dX5_fault_159 rfl (lv_at hl 2 rfl) ?_
                  refine lv_if_eq (tgt := 189) hx hb dX5_fault_160 (by decide) (fun c29 => ?_) (fun c29 => ?_)
                  · have hf := zk_t c29 hf
                    refine lv_aload_n hx hb dX5_fault_189 rfl (lv_at hl 1 rfl) ?_
                    refine va_get (ci := 5) (v := .ref a_md_readSays) (C := RX5) (T := TX5) (N := 29) hx hb hts inX5 hown hK hP 0 rfl rfl 15 (by decide) lk8 (fun _ h9 => h9) rfl dX5_fault_190 ?_
                    refine lv_aload_n hx hb dX5_fault_193 rfl (lv_at hl 1 rfl) ?_
                    refine va_get (ci := 5) (v := .int w3) (C := RX5) (T := TX5) (N := 29) hx hb hts inX5 hown hK hP 0 rfl rfl 12 (by decide) lk2 (fun _ h9 => h9) rfl dX5_fault_194 ?_
                    refine lv_aload_n hx hb dX5_fault_197 rfl (lv_at hl 1 rfl) ?_
                    refine va_get (ci := 5) (v := .long v22.2.2.2.2.2.2.1) (C := RX5) (T := TX5) (N := 29) hx hb hts inX5 hown hK hP 0 rfl rfl 24 (by decide) lk9 (fun _ h9 => h9) rfl dX5_fault_198 ?_
                    obtain ⟨g23, hf⟩ := zk_gd_s hf
                    refine va_last hx hb hK hP hD hS 3 1 rfl rfl (zk_in_s g23) dX5_fault_201 (fun H locs hP hD hS => ?_)
                    have hP : va_P D vwCl [(a_md, .inr (5, [.int v_md_length, .ref a_md_text, .int v_md_laws, .int v_md_sayers, .long v_md_there, .long v_md_question, .ref a_md_weight, .ref a_md_says, .ref a_md_cost, .int v_md_measure, .long v_md_trace, .int w2, .int w3, .long w4, .ref a_md_readWeight, .ref a_md_readSays, .int v22.2.1, .int v22.2.2.1, .int v22.2.2.2.1, .int v22.2.2.2.2.1, .ref a_md_opened, .int v22.2.2.2.2.2.1, .ref a_md_any, .ref a_md_all, .long v22.2.2.2.2.2.2.1, .ref a_md_burdens, .ref a_md_best, .ref a_md_own, .ref a_md_truth])), (a_md_text, .inl (cB, 300, .inl f_md_text)), (a_md_readWeight, .inl (cI, 7, .inl u21.2.2.2)), (a_md_readSays, .inl (cJ, 7, .inr (.inl (vp_updL w12 w3.toNatClampNeg v22.2.2.2.2.2.2.1)))), (a_md_opened, .inl (cI, 9, .inl v22.2.2.2.2.2.2.2.1)), (a_md_any, .inl (cJ, 9, .inr (.inl v22.2.2.2.2.2.2.2.2.1))), (a_md_all, .inl (cJ, 9, .inr (.inl v22.2.2.2.2.2.2.2.2.2)))] H := hP
                    have hD : va_D A [(a_md, .inr (5, [.int v_md_length, .ref a_md_text, .int v_md_laws, .int v_md_sayers, .long v_md_there, .long v_md_question, .ref a_md_weight, .ref a_md_says, .ref a_md_cost, .int v_md_measure, .long v_md_trace, .int w2, .int w3, .long w4, .ref a_md_readWeight, .ref a_md_readSays, .int v22.2.1, .int v22.2.2.1, .int v22.2.2.2.1, .int v22.2.2.2.2.1, .ref a_md_opened, .int v22.2.2.2.2.2.1, .ref a_md_any, .ref a_md_all, .long v22.2.2.2.2.2.2.1, .ref a_md_burdens, .ref a_md_best, .ref a_md_own, .ref a_md_truth])), (a_md_text, .inl (cB, 300, .inl f_md_text)), (a_md_readWeight, .inl (cI, 7, .inl u21.2.2.2)), (a_md_readSays, .inl (cJ, 7, .inr (.inl (vp_updL w12 w3.toNatClampNeg v22.2.2.2.2.2.2.1)))), (a_md_opened, .inl (cI, 9, .inl v22.2.2.2.2.2.2.2.1)), (a_md_any, .inl (cJ, 9, .inr (.inl v22.2.2.2.2.2.2.2.2.1))), (a_md_all, .inl (cJ, 9, .inr (.inl v22.2.2.2.2.2.2.2.2.2)))] := hD
                    refine lv_aload_n hx hb dX5_fault_202 rfl (lv_at hl 1 rfl) ?_
                    refine lv_dup hx hb dX5_fault_203 rfl ?_
                    refine va_get (ci := 5) (v := .int w3) (C := RX5) (T := TX5) (N := 29) hx hb hts inX5 hown hK hP 0 rfl rfl 12 (by decide) lk2 (fun _ h9 => h9) rfl dX5_fault_204 ?_
                    refine lv_iconst (v := (1 : Int32)) hx hb dX5_fault_207 (by decide) ?_
                    refine lv_iadd hx hb dX5_fault_208 ?_
                    obtain ⟨y24, ey24, hf⟩ := zk_lt_s hf
                    refine zk_topi ey24 ?_
                    refine va_put (ci := 5) (v := .int y24) (ty := .int) (C := RX5) (T := TX5) (N := 29) hx hb hts inX5 tyX5 tyX5_ok nmX5 hown hK hP hD hS 0 rfl rfl 12 (by decide) lk2 (fun _ h9 => h9) rfl (by decide +kernel) rfl rfl (Nat.le_of_ble_eq_true rfl) dX5_fault_209 (fun H locs hP hD hS => ?_)
                    have hP : va_P D vwCl [(a_md, .inr (5, [.int v_md_length, .ref a_md_text, .int v_md_laws, .int v_md_sayers, .long v_md_there, .long v_md_question, .ref a_md_weight, .ref a_md_says, .ref a_md_cost, .int v_md_measure, .long v_md_trace, .int w2, .int y24, .long w4, .ref a_md_readWeight, .ref a_md_readSays, .int v22.2.1, .int v22.2.2.1, .int v22.2.2.2.1, .int v22.2.2.2.2.1, .ref a_md_opened, .int v22.2.2.2.2.2.1, .ref a_md_any, .ref a_md_all, .long v22.2.2.2.2.2.2.1, .ref a_md_burdens, .ref a_md_best, .ref a_md_own, .ref a_md_truth])), (a_md_text, .inl (cB, 300, .inl f_md_text)), (a_md_readWeight, .inl (cI, 7, .inl u21.2.2.2)), (a_md_readSays, .inl (cJ, 7, .inr (.inl (vp_updL w12 w3.toNatClampNeg v22.2.2.2.2.2.2.1)))), (a_md_opened, .inl (cI, 9, .inl v22.2.2.2.2.2.2.2.1)), (a_md_any, .inl (cJ, 9, .inr (.inl v22.2.2.2.2.2.2.2.2.1))), (a_md_all, .inl (cJ, 9, .inr (.inl v22.2.2.2.2.2.2.2.2.2)))] H := hP
                    have hD : va_D A [(a_md, .inr (5, [.int v_md_length, .ref a_md_text, .int v_md_laws, .int v_md_sayers, .long v_md_there, .long v_md_question, .ref a_md_weight, .ref a_md_says, .ref a_md_cost, .int v_md_measure, .long v_md_trace, .int w2, .int y24, .long w4, .ref a_md_readWeight, .ref a_md_readSays, .int v22.2.1, .int v22.2.2.1, .int v22.2.2.2.1, .int v22.2.2.2.2.1, .ref a_md_opened, .int v22.2.2.2.2.2.1, .ref a_md_any, .ref a_md_all, .long v22.2.2.2.2.2.2.1, .ref a_md_burdens, .ref a_md_best, .ref a_md_own, .ref a_md_truth])), (a_md_text, .inl (cB, 300, .inl f_md_text)), (a_md_readWeight, .inl (cI, 7, .inl u21.2.2.2)), (a_md_readSays, .inl (cJ, 7, .inr (.inl (vp_updL w12 w3.toNatClampNeg v22.2.2.2.2.2.2.1)))), (a_md_opened, .inl (cI, 9, .inl v22.2.2.2.2.2.2.2.1)), (a_md_any, .inl (cJ, 9, .inr (.inl v22.2.2.2.2.2.2.2.2.1))), (a_md_all, .inl (cJ, 9, .inr (.inl v22.2.2.2.2.2.2.2.2.2)))] := hD
                    refine lv_aload_n hx hb dX5_fault_212 rfl (lv_at hl 1 rfl) ?_
                    obtain ⟨v25, hv25, hf⟩ := zk_ob hf
                    refine zk_go (wr := [(a_md_readWeight, .inl (cI, 7, .inl u21.2.2.2)), (a_md_readSays, .inl (cJ, 7, .inr (.inl (vp_updL w12 w3.toNatClampNeg v22.2.2.2.2.2.2.1)))), (a_md_opened, .inl (cI, 9, .inl v22.2.2.2.2.2.2.2.1)), (a_md_any, .inl (cJ, 9, .inr (.inl v22.2.2.2.2.2.2.2.2.1))), (a_md_all, .inl (cJ, 9, .inr (.inl v22.2.2.2.2.2.2.2.2.2)))]) (w2 := [(a_md, .inr (5, [.int v_md_length, .ref a_md_text, .int v_md_laws, .int v_md_sayers, .long v_md_there, .long v_md_question, .ref a_md_weight, .ref a_md_says, .ref a_md_cost, .int v_md_measure, .long v_md_trace, .int w2, .int y24, .long w4, .ref a_md_readWeight, .ref a_md_readSays, .int v25.1, .int v25.2.1, .int v25.2.2, .int v22.2.2.2.2.1, .ref a_md_opened, .int v22.2.2.2.2.2.1, .ref a_md_any, .ref a_md_all, .long v22.2.2.2.2.2.2.1, .ref a_md_burdens, .ref a_md_best, .ref a_md_own, .ref a_md_truth])), (a_md_text, .inl (cB, 300, .inl f_md_text)), (a_md_readWeight, .inl (cI, 7, .inl u21.2.2.2)), (a_md_readSays, .inl (cJ, 7, .inr (.inl (vp_updL w12 w3.toNatClampNeg v22.2.2.2.2.2.2.1)))), (a_md_opened, .inl (cI, 9, .inl v22.2.2.2.2.2.2.2.1)), (a_md_any, .inl (cJ, 9, .inr (.inl v22.2.2.2.2.2.2.2.2.1))), (a_md_all, .inl (cJ, 9, .inr (.inl v22.2.2.2.2.2.2.2.2.2)))]) (zk_V (As := []) (rest := []) hx hb hml hown hts hK hG hP hD hS hA gX5_fault_X5_token rfl hd_X5_token (Nat.le_trans (Nat.le_of_ble_eq_true rfl) hRf) (Nat.le_trans (Nat.le_of_ble_eq_true rfl) hRl) hcs (zc_X5_token l D tL tO cI cJ cB cQ a_md a_md_text a_md_weight a_md_says a_md_cost a_md_readWeight a_md_readSays a_md_opened a_md_any a_md_all a_md_burdens a_md_best a_md_own a_md_truth v_md_length v_md_laws v_md_sayers v_md_there v_md_question v_md_measure v_md_trace w2 y24 w4 v22.2.1 v22.2.2.1 v22.2.2.2.1 v22.2.2.2.2.1 v22.2.2.2.2.2.1 v22.2.2.2.2.2.2.1 f_md_text v25 hv25) rfl rfl 0 rfl hl.1 rfl rfl (Nat.le_of_ble_eq_true rfl) dX5_fault_213 [0, 1] rfl rfl) hP hD hS hA [0, 1] [2, 3, 4, 5, 6] [5, 6, 0, 1, 2, 3, 4] rfl rfl rfl (by decide) rfl rfl (fun H locs hP hD hS => ?_)
                    refine lv_goto (tgt := 26) hx hb dX5_fault_216 (by decide) ?_
                    exact ih w2 y24 w4 v25.1 v25.2.1 v25.2.2 v22.2.2.2.2.1 v22.2.2.2.2.2.1 v22.2.2.2.2.2.2.1 u21.2.2.2 (vp_updL w12 w3.toNatClampNeg v22.2.2.2.2.2.2.1) v22.2.2.2.2.2.2.2.1 v22.2.2.2.2.2.2.2.2.1 v22.2.2.2.2.2.2.2.2.2 _ _ _ _ hf hP hD hS (lv_sub hl [1] rfl) hk hkr
                  · have hf := zk_f c29 hf
                    refine lv_aload_n hx hb dX5_fault_163 rfl (lv_at hl 1 rfl) ?_
                    refine lv_dup hx hb dX5_fault_164 rfl ?_
                    refine va_get (ci := 5) (v := .long w4) (C := RX5) (T := TX5) (N := 29) hx hb hts inX5 hown hK hP 0 rfl rfl 13 (by decide) lk4 (fun _ h9 => h9) rfl dX5_fault_165 ?_
                    refine lv_aload_n hx hb dX5_fault_168 rfl (lv_at hl 1 rfl) ?_
                    refine va_get (ci := 5) (v := .long v22.2.2.2.2.2.2.1) (C := RX5) (T := TX5) (N := 29) hx hb hts inX5 hown hK hP 0 rfl rfl 24 (by decide) lk9 (fun _ h9 => h9) rfl dX5_fault_169 ?_
                    refine lv_land hx hb dX5_fault_172 ?_
                    obtain ⟨y26, ey26, hf⟩ := zk_lt_s hf
                    refine zk_topl ey26 ?_
                    refine va_put (ci := 5) (v := .long y26) (ty := .long) (C := RX5) (T := TX5) (N := 29) hx hb hts inX5 tyX5 tyX5_ok nmX5 hown hK hP hD hS 0 rfl rfl 13 (by decide) lk4 (fun _ h9 => h9) rfl (by decide +kernel) rfl rfl (Nat.le_of_ble_eq_true rfl) dX5_fault_173 (fun H locs hP hD hS => ?_)
                    have hP : va_P D vwCl [(a_md, .inr (5, [.int v_md_length, .ref a_md_text, .int v_md_laws, .int v_md_sayers, .long v_md_there, .long v_md_question, .ref a_md_weight, .ref a_md_says, .ref a_md_cost, .int v_md_measure, .long v_md_trace, .int w2, .int w3, .long y26, .ref a_md_readWeight, .ref a_md_readSays, .int v22.2.1, .int v22.2.2.1, .int v22.2.2.2.1, .int v22.2.2.2.2.1, .ref a_md_opened, .int v22.2.2.2.2.2.1, .ref a_md_any, .ref a_md_all, .long v22.2.2.2.2.2.2.1, .ref a_md_burdens, .ref a_md_best, .ref a_md_own, .ref a_md_truth])), (a_md_text, .inl (cB, 300, .inl f_md_text)), (a_md_readWeight, .inl (cI, 7, .inl u21.2.2.2)), (a_md_readSays, .inl (cJ, 7, .inr (.inl w12))), (a_md_opened, .inl (cI, 9, .inl v22.2.2.2.2.2.2.2.1)), (a_md_any, .inl (cJ, 9, .inr (.inl v22.2.2.2.2.2.2.2.2.1))), (a_md_all, .inl (cJ, 9, .inr (.inl v22.2.2.2.2.2.2.2.2.2)))] H := hP
                    have hD : va_D A [(a_md, .inr (5, [.int v_md_length, .ref a_md_text, .int v_md_laws, .int v_md_sayers, .long v_md_there, .long v_md_question, .ref a_md_weight, .ref a_md_says, .ref a_md_cost, .int v_md_measure, .long v_md_trace, .int w2, .int w3, .long y26, .ref a_md_readWeight, .ref a_md_readSays, .int v22.2.1, .int v22.2.2.1, .int v22.2.2.2.1, .int v22.2.2.2.2.1, .ref a_md_opened, .int v22.2.2.2.2.2.1, .ref a_md_any, .ref a_md_all, .long v22.2.2.2.2.2.2.1, .ref a_md_burdens, .ref a_md_best, .ref a_md_own, .ref a_md_truth])), (a_md_text, .inl (cB, 300, .inl f_md_text)), (a_md_readWeight, .inl (cI, 7, .inl u21.2.2.2)), (a_md_readSays, .inl (cJ, 7, .inr (.inl w12))), (a_md_opened, .inl (cI, 9, .inl v22.2.2.2.2.2.2.2.1)), (a_md_any, .inl (cJ, 9, .inr (.inl v22.2.2.2.2.2.2.2.2.1))), (a_md_all, .inl (cJ, 9, .inr (.inl v22.2.2.2.2.2.2.2.2.2)))] := hD
                    refine lv_aload_n hx hb dX5_fault_176 rfl (lv_at hl 1 rfl) ?_
                    refine lv_dup hx hb dX5_fault_177 rfl ?_
                    refine va_get (ci := 5) (v := .int w2) (C := RX5) (T := TX5) (N := 29) hx hb hts inX5 hown hK hP 0 rfl rfl 11 (by decide) lk0 (fun _ h9 => h9) rfl dX5_fault_178 ?_
                    refine lv_iconst (v := (1 : Int32)) hx hb dX5_fault_181 (by decide) ?_
                    refine lv_iadd hx hb dX5_fault_182 ?_
                    obtain ⟨y27, ey27, hf⟩ := zk_lt_s hf
                    refine zk_topi ey27 ?_
                    refine va_put (ci := 5) (v := .int y27) (ty := .int) (C := RX5) (T := TX5) (N := 29) hx hb hts inX5 tyX5 tyX5_ok nmX5 hown hK hP hD hS 0 rfl rfl 11 (by decide) lk0 (fun _ h9 => h9) rfl (by decide +kernel) rfl rfl (Nat.le_of_ble_eq_true rfl) dX5_fault_183 (fun H locs hP hD hS => ?_)
                    have hP : va_P D vwCl [(a_md, .inr (5, [.int v_md_length, .ref a_md_text, .int v_md_laws, .int v_md_sayers, .long v_md_there, .long v_md_question, .ref a_md_weight, .ref a_md_says, .ref a_md_cost, .int v_md_measure, .long v_md_trace, .int y27, .int w3, .long y26, .ref a_md_readWeight, .ref a_md_readSays, .int v22.2.1, .int v22.2.2.1, .int v22.2.2.2.1, .int v22.2.2.2.2.1, .ref a_md_opened, .int v22.2.2.2.2.2.1, .ref a_md_any, .ref a_md_all, .long v22.2.2.2.2.2.2.1, .ref a_md_burdens, .ref a_md_best, .ref a_md_own, .ref a_md_truth])), (a_md_text, .inl (cB, 300, .inl f_md_text)), (a_md_readWeight, .inl (cI, 7, .inl u21.2.2.2)), (a_md_readSays, .inl (cJ, 7, .inr (.inl w12))), (a_md_opened, .inl (cI, 9, .inl v22.2.2.2.2.2.2.2.1)), (a_md_any, .inl (cJ, 9, .inr (.inl v22.2.2.2.2.2.2.2.2.1))), (a_md_all, .inl (cJ, 9, .inr (.inl v22.2.2.2.2.2.2.2.2.2)))] H := hP
                    have hD : va_D A [(a_md, .inr (5, [.int v_md_length, .ref a_md_text, .int v_md_laws, .int v_md_sayers, .long v_md_there, .long v_md_question, .ref a_md_weight, .ref a_md_says, .ref a_md_cost, .int v_md_measure, .long v_md_trace, .int y27, .int w3, .long y26, .ref a_md_readWeight, .ref a_md_readSays, .int v22.2.1, .int v22.2.2.1, .int v22.2.2.2.1, .int v22.2.2.2.2.1, .ref a_md_opened, .int v22.2.2.2.2.2.1, .ref a_md_any, .ref a_md_all, .long v22.2.2.2.2.2.2.1, .ref a_md_burdens, .ref a_md_best, .ref a_md_own, .ref a_md_truth])), (a_md_text, .inl (cB, 300, .inl f_md_text)), (a_md_readWeight, .inl (cI, 7, .inl u21.2.2.2)), (a_md_readSays, .inl (cJ, 7, .inr (.inl w12))), (a_md_opened, .inl (cI, 9, .inl v22.2.2.2.2.2.2.2.1)), (a_md_any, .inl (cJ, 9, .inr (.inl v22.2.2.2.2.2.2.2.2.1))), (a_md_all, .inl (cJ, 9, .inr (.inl v22.2.2.2.2.2.2.2.2.2)))] := hD
                    refine lv_goto (tgt := 212) hx hb dX5_fault_186 (by decide) ?_
                    refine lv_aload_n hx hb dX5_fault_212 rfl (lv_at hl 1 rfl) ?_
                    obtain ⟨v28, hv28, hf⟩ := zk_ob hf
                    refine zk_go (wr := [(a_md_readWeight, .inl (cI, 7, .inl u21.2.2.2)), (a_md_readSays, .inl (cJ, 7, .inr (.inl w12))), (a_md_opened, .inl (cI, 9, .inl v22.2.2.2.2.2.2.2.1)), (a_md_any, .inl (cJ, 9, .inr (.inl v22.2.2.2.2.2.2.2.2.1))), (a_md_all, .inl (cJ, 9, .inr (.inl v22.2.2.2.2.2.2.2.2.2)))]) (w2 := [(a_md, .inr (5, [.int v_md_length, .ref a_md_text, .int v_md_laws, .int v_md_sayers, .long v_md_there, .long v_md_question, .ref a_md_weight, .ref a_md_says, .ref a_md_cost, .int v_md_measure, .long v_md_trace, .int y27, .int w3, .long y26, .ref a_md_readWeight, .ref a_md_readSays, .int v28.1, .int v28.2.1, .int v28.2.2, .int v22.2.2.2.2.1, .ref a_md_opened, .int v22.2.2.2.2.2.1, .ref a_md_any, .ref a_md_all, .long v22.2.2.2.2.2.2.1, .ref a_md_burdens, .ref a_md_best, .ref a_md_own, .ref a_md_truth])), (a_md_text, .inl (cB, 300, .inl f_md_text)), (a_md_readWeight, .inl (cI, 7, .inl u21.2.2.2)), (a_md_readSays, .inl (cJ, 7, .inr (.inl w12))), (a_md_opened, .inl (cI, 9, .inl v22.2.2.2.2.2.2.2.1)), (a_md_any, .inl (cJ, 9, .inr (.inl v22.2.2.2.2.2.2.2.2.1))), (a_md_all, .inl (cJ, 9, .inr (.inl v22.2.2.2.2.2.2.2.2.2)))]) (zk_V (As := []) (rest := []) hx hb hml hown hts hK hG hP hD hS hA gX5_fault_X5_token rfl hd_X5_token (Nat.le_trans (Nat.le_of_ble_eq_true rfl) hRf) (Nat.le_trans (Nat.le_of_ble_eq_true rfl) hRl) hcs (zc_X5_token l D tL tO cI cJ cB cQ a_md a_md_text a_md_weight a_md_says a_md_cost a_md_readWeight a_md_readSays a_md_opened a_md_any a_md_all a_md_burdens a_md_best a_md_own a_md_truth v_md_length v_md_laws v_md_sayers v_md_there v_md_question v_md_measure v_md_trace y27 w3 y26 v22.2.1 v22.2.2.1 v22.2.2.2.1 v22.2.2.2.2.1 v22.2.2.2.2.2.1 v22.2.2.2.2.2.2.1 f_md_text v28 hv28) rfl rfl 0 rfl hl.1 rfl rfl (Nat.le_of_ble_eq_true rfl) dX5_fault_213 [0, 1] rfl rfl) hP hD hS hA [0, 1] [2, 3, 4, 5, 6] [5, 6, 0, 1, 2, 3, 4] rfl rfl rfl (by decide) rfl rfl (fun H locs hP hD hS => ?_)
                    refine lv_goto (tgt := 26) hx hb dX5_fault_216 (by decide) ?_
                    exact ih y27 w3 y26 v28.1 v28.2.1 v28.2.2 v22.2.2.2.2.1 v22.2.2.2.2.2.1 v22.2.2.2.2.2.2.1 u21.2.2.2 w12 v22.2.2.2.2.2.2.2.1 v22.2.2.2.2.2.2.2.2.1 v22.2.2.2.2.2.2.2.2.2 _ _ _ _ hf hP hD hS (lv_sub hl [1] rfl) hk hkr
                · have hf := zk_f c30 hf
                  refine lv_aload_n hx hb dX5_fault_154 rfl (lv_at hl 1 rfl) ?_
                  refine va_get (ci := 5) (v := .int v22.2.1) (C := RX5) (T := TX5) (N := 29) hx hb hts inX5 hown hK hP 0 rfl rfl 16 (by decide) lk7 (fun _ h9 => h9) rfl dX5_fault_155 ?_
                  obtain rfl := hkr _ (Option.some.inj hf).symm
                  exact hret trivial _ _ _ _ hP hD hS dX5_fault_158
            have kv20_r : ∀ r37 : Int32 × Int32 × Int32 × Int64 × Int32 × Int32 × Int32 × Int32 × Int32 × Int64 × (Nat → Int32) × (Nat → Int64) × (Nat → Int32) × (Nat → Int64) × (Nat → Int64), v20 = Sum.inr r37 → r37 = z := by
              intro r37 hr37
              subst hr37
              have hf := zk_su_r hf
              exact hkr _ (Option.some.inj hf).symm
            replace hf := hv20
            refine lv_if_ne (tgt := 136) hx hb dX5_fault_91 (by decide) (fun c36 => ?_) (fun c36 => ?_)
            · have hf := zk_f c36 hf
              exact kv20_0 _ (Option.some.inj hf).symm _ _ _ hP hD hS (lv_sub hl [0, 1] rfl)
            · have hf := zk_t c36 hf
              refine lv_aload_n hx hb dX5_fault_94 rfl (lv_at hl 0 rfl) ?_
              refine va_get (ci := 5) (v := .int v19.2.2) (C := RX5) (T := TX5) (N := 29) hx hb hts inX5 hown hK hP 0 rfl rfl 18 (by decide) lk6 (fun _ h9 => h9) rfl dX5_fault_95 ?_
              refine lv_i2l hx hb dX5_fault_98 rfl ?_
              refine lv_ldc2 hx hb hown lk10 dX5_fault_99 ?_
              refine lv_ldc2 hx hb hown lk11 dX5_fault_102 ?_
              obtain ⟨v32, hv32, hf⟩ := zk_ob hf
              refine zk_goR (zk_S (As := [.long v19.2.2.toInt64, .long (49 : Int64), .long (57 : Int64)]) (rest := []) hx hb hml hown hts hK hG hP hD hS hA gX5_fault_X5_in rfl hd_X5_in (Nat.le_trans (Nat.le_of_ble_eq_true rfl) hRf) (Nat.le_trans (Nat.le_of_ble_eq_true rfl) hRl) hcs (zc_X5_in l D tL tO cI cJ cB cQ v19.2.2.toInt64 (49 : Int64) (57 : Int64) v32 hv32) hl.1 rfl rfl (Nat.le_of_ble_eq_true rfl) dX5_fault_105 [] rfl rfl) hP hD hS hA [] rfl (fun H locs hP hS => ?_)
              refine lv_if_ne (tgt := 116) hx hb dX5_fault_108 (by decide) (fun c35 => ?_) (fun c35 => ?_)
              · have hf := zk_f c35 hf
                refine lv_aload_n hx hb dX5_fault_116 rfl (lv_at hl 0 rfl) ?_
                refine va_get (ci := 5) (v := .ref a_md_readWeight) (C := RX5) (T := TX5) (N := 29) hx hb hts inX5 hown hK hP 0 rfl rfl 14 (by decide) lk12 (fun _ h9 => h9) rfl dX5_fault_117 ?_
                refine lv_aload_n hx hb dX5_fault_120 rfl (lv_at hl 0 rfl) ?_
                refine va_get (ci := 5) (v := .int w3) (C := RX5) (T := TX5) (N := 29) hx hb hts inX5 hown hK hP 0 rfl rfl 12 (by decide) lk2 (fun _ h9 => h9) rfl dX5_fault_121 ?_
                refine lv_aload_n hx hb dX5_fault_124 rfl (lv_at hl 0 rfl) ?_
                refine va_get (ci := 5) (v := .int v19.2.2) (C := RX5) (T := TX5) (N := 29) hx hb hts inX5 hown hK hP 0 rfl rfl 18 (by decide) lk6 (fun _ h9 => h9) rfl dX5_fault_125 ?_
                refine lv_bipush (v := (48 : Int32)) hx hb dX5_fault_128 (by decide) ?_
                refine lv_isub hx hb dX5_fault_130 ?_
                obtain ⟨g33, hf⟩ := zk_gd_s hf
                refine va_iast hx hb hK hP hD hS 2 0 rfl rfl (zk_in_s g33) dX5_fault_131 (fun H locs hP hD hS => ?_)
                have hP : va_P D vwCl [(a_md, .inr (5, [.int v_md_length, .ref a_md_text, .int v_md_laws, .int v_md_sayers, .long v_md_there, .long v_md_question, .ref a_md_weight, .ref a_md_says, .ref a_md_cost, .int v_md_measure, .long v_md_trace, .int w2, .int w3, .long w4, .ref a_md_readWeight, .ref a_md_readSays, .int v19.1, .int v19.2.1, .int v19.2.2, .int w8, .ref a_md_opened, .int w9, .ref a_md_any, .ref a_md_all, .long w10, .ref a_md_burdens, .ref a_md_best, .ref a_md_own, .ref a_md_truth])), (a_md_text, .inl (cB, 300, .inl f_md_text)), (a_md_readWeight, .inl (cI, 7, .inl (upd w11 w3.toNatClampNeg (v19.2.2 - (48 : Int32))))), (a_md_readSays, .inl (cJ, 7, .inr (.inl w12))), (a_md_opened, .inl (cI, 9, .inl w13)), (a_md_any, .inl (cJ, 9, .inr (.inl w14))), (a_md_all, .inl (cJ, 9, .inr (.inl w15)))] H := hP
                have hD : va_D A [(a_md, .inr (5, [.int v_md_length, .ref a_md_text, .int v_md_laws, .int v_md_sayers, .long v_md_there, .long v_md_question, .ref a_md_weight, .ref a_md_says, .ref a_md_cost, .int v_md_measure, .long v_md_trace, .int w2, .int w3, .long w4, .ref a_md_readWeight, .ref a_md_readSays, .int v19.1, .int v19.2.1, .int v19.2.2, .int w8, .ref a_md_opened, .int w9, .ref a_md_any, .ref a_md_all, .long w10, .ref a_md_burdens, .ref a_md_best, .ref a_md_own, .ref a_md_truth])), (a_md_text, .inl (cB, 300, .inl f_md_text)), (a_md_readWeight, .inl (cI, 7, .inl (upd w11 w3.toNatClampNeg (v19.2.2 - (48 : Int32))))), (a_md_readSays, .inl (cJ, 7, .inr (.inl w12))), (a_md_opened, .inl (cI, 9, .inl w13)), (a_md_any, .inl (cJ, 9, .inr (.inl w14))), (a_md_all, .inl (cJ, 9, .inr (.inl w15)))] := hD
                refine lv_aload_n hx hb dX5_fault_132 rfl (lv_at hl 0 rfl) ?_
                obtain ⟨v34, hv34, hf⟩ := zk_ob hf
                refine zk_go (wr := [(a_md_readWeight, .inl (cI, 7, .inl (upd w11 w3.toNatClampNeg (v19.2.2 - (48 : Int32))))), (a_md_readSays, .inl (cJ, 7, .inr (.inl w12))), (a_md_opened, .inl (cI, 9, .inl w13)), (a_md_any, .inl (cJ, 9, .inr (.inl w14))), (a_md_all, .inl (cJ, 9, .inr (.inl w15)))]) (w2 := [(a_md, .inr (5, [.int v_md_length, .ref a_md_text, .int v_md_laws, .int v_md_sayers, .long v_md_there, .long v_md_question, .ref a_md_weight, .ref a_md_says, .ref a_md_cost, .int v_md_measure, .long v_md_trace, .int w2, .int w3, .long w4, .ref a_md_readWeight, .ref a_md_readSays, .int v34.1, .int v34.2.1, .int v34.2.2, .int w8, .ref a_md_opened, .int w9, .ref a_md_any, .ref a_md_all, .long w10, .ref a_md_burdens, .ref a_md_best, .ref a_md_own, .ref a_md_truth])), (a_md_text, .inl (cB, 300, .inl f_md_text)), (a_md_readWeight, .inl (cI, 7, .inl (upd w11 w3.toNatClampNeg (v19.2.2 - (48 : Int32))))), (a_md_readSays, .inl (cJ, 7, .inr (.inl w12))), (a_md_opened, .inl (cI, 9, .inl w13)), (a_md_any, .inl (cJ, 9, .inr (.inl w14))), (a_md_all, .inl (cJ, 9, .inr (.inl w15)))]) (zk_V (As := []) (rest := []) hx hb hml hown hts hK hG hP hD hS hA gX5_fault_X5_token rfl hd_X5_token (Nat.le_trans (Nat.le_of_ble_eq_true rfl) hRf) (Nat.le_trans (Nat.le_of_ble_eq_true rfl) hRl) hcs (zc_X5_token l D tL tO cI cJ cB cQ a_md a_md_text a_md_weight a_md_says a_md_cost a_md_readWeight a_md_readSays a_md_opened a_md_any a_md_all a_md_burdens a_md_best a_md_own a_md_truth v_md_length v_md_laws v_md_sayers v_md_there v_md_question v_md_measure v_md_trace w2 w3 w4 v19.1 v19.2.1 v19.2.2 w8 w9 w10 f_md_text v34 hv34) rfl rfl 0 rfl hl.1 rfl rfl (Nat.le_of_ble_eq_true rfl) dX5_fault_133 [0, 1] rfl rfl) hP hD hS hA [0, 1] [2, 3, 4, 5, 6] [5, 6, 0, 1, 2, 3, 4] rfl rfl rfl (by decide) rfl rfl (fun H locs hP hD hS => ?_)
                exact kv20_0 _ (Option.some.inj hf).symm _ _ _ hP hD hS (lv_sub hl [0, 1] rfl)
              · have hf := zk_t c35 hf
                refine lv_aload_n hx hb dX5_fault_111 rfl (lv_at hl 0 rfl) ?_
                refine va_get (ci := 5) (v := .int v19.1) (C := RX5) (T := TX5) (N := 29) hx hb hts inX5 hown hK hP 0 rfl rfl 16 (by decide) lk7 (fun _ h9 => h9) rfl dX5_fault_112 ?_
                obtain rfl := kv20_r _ (Option.some.inj hf).symm
                exact hret trivial _ _ _ _ hP hD hS dX5_fault_115
          have kv17_r : ∀ r42 : Int32 × Int32 × Int32 × Int64 × Int32 × Int32 × Int32 × Int32 × Int32 × Int64 × (Nat → Int32) × (Nat → Int64) × (Nat → Int32) × (Nat → Int64) × (Nat → Int64), v17 = Sum.inr r42 → r42 = z := by
            intro r42 hr42
            subst hr42
            have hf := zk_su_r hf
            exact hkr _ (Option.some.inj hf).symm
          replace hf := hv17
          refine lv_if_eq (tgt := 63) hx hb dX5_fault_49 (by decide) (fun c41 => ?_) (fun c41 => ?_)
          · have hf := zk_t c41 hf
            refine lv_aload_n hx hb dX5_fault_63 rfl (lv_at hl 1 rfl) ?_
            refine va_get (ci := 5) (v := .int w7) (C := RX5) (T := TX5) (N := 29) hx hb hts inX5 hown hK hP 0 rfl rfl 18 (by decide) lk6 (fun _ h9 => h9) rfl dX5_fault_64 ?_
            refine lv_bipush (v := (83 : Int32)) hx hb dX5_fault_67 (by decide) ?_
            refine lv_icmp_ne (tgt := 81) hx hb dX5_fault_69 (by decide) (fun c39 => ?_) (fun c39 => ?_)
            · have hf := zk_f c39 hf
              refine lv_aload_n hx hb dX5_fault_81 rfl (lv_at hl 1 rfl) ?_
              refine va_get (ci := 5) (v := .int w5) (C := RX5) (T := TX5) (N := 29) hx hb hts inX5 hown hK hP 0 rfl rfl 16 (by decide) lk7 (fun _ h9 => h9) rfl dX5_fault_82 ?_
              obtain rfl := kv17_r _ (Option.some.inj hf).symm
              exact hret trivial _ _ _ _ hP hD hS dX5_fault_85
            · have hf := zk_t c39 hf
              refine lv_aload_n hx hb dX5_fault_72 rfl (lv_at hl 1 rfl) ?_
              refine va_get (ci := 5) (v := .int w3) (C := RX5) (T := TX5) (N := 29) hx hb hts inX5 hown hK hP 0 rfl rfl 12 (by decide) lk2 (fun _ h9 => h9) rfl dX5_fault_73 ?_
              refine lv_bipush (v := (7 : Int32)) hx hb dX5_fault_76 (by decide) ?_
              refine lv_icmp_lt (tgt := 86) hx hb dX5_fault_78 (by decide) (fun c38 => ?_) (fun c38 => ?_)
              · have hf := zk_t c38 hf
                exact kv17_0 _ (Option.some.inj hf).symm _ _ _ hP hD hS (lv_sub hl [1, 0] rfl)
              · have hf := zk_f c38 hf
                refine lv_aload_n hx hb dX5_fault_81 rfl (lv_at hl 1 rfl) ?_
                refine va_get (ci := 5) (v := .int w5) (C := RX5) (T := TX5) (N := 29) hx hb hts inX5 hown hK hP 0 rfl rfl 16 (by decide) lk7 (fun _ h9 => h9) rfl dX5_fault_82 ?_
                obtain rfl := kv17_r _ (Option.some.inj hf).symm
                exact hret trivial _ _ _ _ hP hD hS dX5_fault_85
          · have hf := zk_f c41 hf
            refine lv_aload_n hx hb dX5_fault_52 rfl (lv_at hl 1 rfl) ?_
            refine va_get (ci := 5) (v := .int w2) (C := RX5) (T := TX5) (N := 29) hx hb hts inX5 hown hK hP 0 rfl rfl 11 (by decide) lk0 (fun _ h9 => h9) rfl dX5_fault_53 ?_
            refine lv_iconst (v := (3 : Int32)) hx hb dX5_fault_56 (by decide) ?_
            refine lv_icmp_ge (tgt := 81) hx hb dX5_fault_57 (by decide) (fun c40 => ?_) (fun c40 => ?_)
            · have hf := zk_t c40 hf
              refine lv_aload_n hx hb dX5_fault_81 rfl (lv_at hl 1 rfl) ?_
              refine va_get (ci := 5) (v := .int w5) (C := RX5) (T := TX5) (N := 29) hx hb hts inX5 hown hK hP 0 rfl rfl 16 (by decide) lk7 (fun _ h9 => h9) rfl dX5_fault_82 ?_
              obtain rfl := kv17_r _ (Option.some.inj hf).symm
              exact hret trivial _ _ _ _ hP hD hS dX5_fault_85
            · have hf := zk_f c40 hf
              refine lv_goto (tgt := 86) hx hb dX5_fault_60 (by decide) ?_
              exact kv17_0 _ (Option.some.inj hf).symm _ _ _ hP hD hS (lv_sub hl [1, 0] rfl)
        replace hf := hv16
        refine lv_icmp_ne (tgt := 46) hx hb dX5_fault_39 (by decide) (fun c43 => ?_) (fun c43 => ?_)
        · have hf := zk_f c43 hf
          refine lv_iconst (v := (0 : Int32)) hx hb dX5_fault_46 (by decide) ?_
          obtain rfl := Option.some.inj hf
          exact kv16 _ _ _ hP hD hS (lv_sub hl [0] rfl)
        · have hf := zk_t c43 hf
          refine lv_iconst (v := (1 : Int32)) hx hb dX5_fault_42 (by decide) ?_
          refine lv_goto (tgt := 47) hx hb dX5_fault_43 (by decide) ?_
          obtain rfl := Option.some.inj hf
          exact kv16 _ _ _ hP hD hS (lv_sub hl [0] rfl)
  obtain ⟨v45, hv45, hf⟩ := zk_ob hf
  refine lp26 zk_F (0 : Int32) (0 : Int32) (-1 : Int64) v1.1 v1.2.1 v1.2.2 v_md_open v_md_level v_md_said f_md_readWeight f_md_readSays f_md_opened f_md_any f_md_all v45 _ _ _ hv45 hP hD hS (lv_sub hl [0] rfl) ?_ ?_
  · intro u46 hu46 H locs ls hP hD hS hl
    subst hu46
    have hf := zk_su_l hf
    refine lv_iconst (v := (-1 : Int32)) hx hb dX5_fault_219 (by decide) ?_
    obtain rfl := Option.some.inj hf
    exact hret trivial _ _ _ _ hP hD hS dX5_fault_220
  · intro r47 hr47
    subst hr47
    have hf := zk_su_r hf
    exact Option.some.inj hf
def zl_X5_tell_40 (v1 : Int32 × Int32 × Int32 × Int64 × Int32 × Int32 × Int32 × Int32 × Int32 × Int64 × (Nat → Int32) × (Nat → Int64) × (Nat → Int32) × (Nat → Int64) × (Nat → Int64)) : Nat → (Int32) → (Nat → Int32) → (Nat → Int64) → Option (Int32 × (Nat → Int32) × (Nat → Int64))
  | 0, _, _, _ => none
  | n + 1, w2, w3, w4 =>
    if v1.2.2.1 ≤ w2 then
    some (w2, w3, w4)
    else
    zk_gd (zk_in w2 7)
    (zk_lt (w2 + 1) (fun y6 =>
    zl_X5_tell_40 v1 n y6 (upd w3 w2.toNatClampNeg (v1.2.2.2.2.2.2.2.2.2.2.1 w2.toNatClampNeg)) (vp_updL w4 w2.toNatClampNeg (v1.2.2.2.2.2.2.2.2.2.2.2.1 w2.toNatClampNeg))))
def zf_X5_tell (v_md_length : Int32) (v_md_laws : Int32) (v_md_sayers : Int32) (v_md_there : Int64) (v_md_open : Int32) (v_md_level : Int32) (v_md_said : Int64) (f_md_text : Nat → Int32) (f_md_weight : Nat → Int32) (f_md_says : Nat → Int64) (f_md_readWeight : Nat → Int32) (f_md_readSays : Nat → Int64) (f_md_opened : Nat → Int32) (f_md_any : Nat → Int64) (f_md_all : Nat → Int64) : Option (Int32 × Int32 × Int32 × Int32 × Int64 × Int32 × Int32 × Int64 × Int32 × Int32 × Int32 × Int32 × Int32 × Int64 × (Nat → Int32) × (Nat → Int64) × (Nat → Int32) × (Nat → Int64) × (Nat → Int32) × (Nat → Int64) × (Nat → Int64)) :=
  (zf_X5_fault v_md_length v_md_open v_md_level v_md_said f_md_text f_md_readWeight f_md_readSays f_md_opened f_md_any f_md_all).bind (fun v1 =>
  if v1.1 < 0 then
  (zl_X5_tell_40 v1 zk_F (0 : Int32) f_md_weight f_md_says).bind (fun v8 =>
  some (v1.2.1 + v1.2.2.1, (0 : Int32), v1.2.1, v1.2.2.1, v1.2.2.2.1, v1.2.1, v1.2.2.1, v1.2.2.2.1, v1.2.2.2.2.1, v1.2.2.2.2.2.1, v1.2.2.2.2.2.2.1, v1.2.2.2.2.2.2.2.1, v1.2.2.2.2.2.2.2.2.1, v1.2.2.2.2.2.2.2.2.2.1, v8.2.1, v8.2.2, v1.2.2.2.2.2.2.2.2.2.2.1, v1.2.2.2.2.2.2.2.2.2.2.2.1, v1.2.2.2.2.2.2.2.2.2.2.2.2.1, v1.2.2.2.2.2.2.2.2.2.2.2.2.2.1, v1.2.2.2.2.2.2.2.2.2.2.2.2.2.2))
  else
  some ((-10 : Int32) - v1.1, v_md_length, v_md_laws, v_md_sayers, v_md_there, v1.2.1, v1.2.2.1, v1.2.2.2.1, v1.2.2.2.2.1, v1.2.2.2.2.2.1, v1.2.2.2.2.2.2.1, v1.2.2.2.2.2.2.2.1, v1.2.2.2.2.2.2.2.2.1, v1.2.2.2.2.2.2.2.2.2.1, f_md_weight, f_md_says, v1.2.2.2.2.2.2.2.2.2.2.1, v1.2.2.2.2.2.2.2.2.2.2.2.1, v1.2.2.2.2.2.2.2.2.2.2.2.2.1, v1.2.2.2.2.2.2.2.2.2.2.2.2.2.1, v1.2.2.2.2.2.2.2.2.2.2.2.2.2.2))
theorem hd_X5_tell : yX5_tell.cls = RX5 ∧ yX5_tell.cls ≠ "java/lang/invoke/MethodHandle" ∧ yX5_tell.cls ≠ "java/lang/invoke/VarHandle" ∧ (parseMethodDescriptor yX5_tell.desc).map (fun d => d.parameters.length) = some 0 := by decide +kernel
set_option maxHeartbeats 4000000 in
set_option maxRecDepth 100000 in
theorem zc_X5_tell (l : Launch) (D : va_G) (tL tO : Nat) (cI cJ cB cQ : ClassId) (a_md a_md_text a_md_weight a_md_says a_md_cost a_md_readWeight a_md_readSays a_md_opened a_md_any a_md_all a_md_burdens a_md_best a_md_own a_md_truth : Nat) (v_md_length : Int32) (v_md_laws : Int32) (v_md_sayers : Int32) (v_md_there : Int64) (v_md_question : Int64) (v_md_measure : Int32) (v_md_trace : Int64) (v_md_readLaws : Int32) (v_md_readSayers : Int32) (v_md_readThere : Int64) (v_md_begin : Int32) (v_md_end : Int32) (v_md_sort : Int32) (v_md_open : Int32) (v_md_level : Int32) (v_md_said : Int64) (f_md_text : Nat → Int32) (f_md_weight : Nat → Int32) (f_md_says : Nat → Int64) (f_md_readWeight : Nat → Int32) (f_md_readSays : Nat → Int64) (f_md_opened : Nat → Int32) (f_md_any : Nat → Int64) (f_md_all : Nat → Int64) (z : Int32 × Int32 × Int32 × Int32 × Int64 × Int32 × Int32 × Int64 × Int32 × Int32 × Int32 × Int32 × Int32 × Int64 × (Nat → Int32) × (Nat → Int64) × (Nat → Int32) × (Nat → Int64) × (Nat → Int32) × (Nat → Int64) × (Nat → Int64)) (hf : zf_X5_tell v_md_length v_md_laws v_md_sayers v_md_there v_md_open v_md_level v_md_said f_md_text f_md_weight f_md_says f_md_readWeight f_md_readSays f_md_opened f_md_any f_md_all = some z) : zk_CT l D tL tO (zk_ty cI cJ cB cQ) yX5_tell wsX5_tell 5 113 [.ref a_md] (some (.int z.1)) [(a_md, .inr (5, [.int v_md_length, .ref a_md_text, .int v_md_laws, .int v_md_sayers, .long v_md_there, .long v_md_question, .ref a_md_weight, .ref a_md_says, .ref a_md_cost, .int v_md_measure, .long v_md_trace, .int v_md_readLaws, .int v_md_readSayers, .long v_md_readThere, .ref a_md_readWeight, .ref a_md_readSays, .int v_md_begin, .int v_md_end, .int v_md_sort, .int v_md_open, .ref a_md_opened, .int v_md_level, .ref a_md_any, .ref a_md_all, .long v_md_said, .ref a_md_burdens, .ref a_md_best, .ref a_md_own, .ref a_md_truth])), (a_md_text, .inl (cB, 300, .inl f_md_text)), (a_md_weight, .inl (cI, 7, .inl f_md_weight)), (a_md_says, .inl (cJ, 7, .inr (.inl f_md_says))), (a_md_readWeight, .inl (cI, 7, .inl f_md_readWeight)), (a_md_readSays, .inl (cJ, 7, .inr (.inl f_md_readSays))), (a_md_opened, .inl (cI, 9, .inl f_md_opened)), (a_md_any, .inl (cJ, 9, .inr (.inl f_md_any))), (a_md_all, .inl (cJ, 9, .inr (.inl f_md_all)))] [(a_md, .inr (5, [.int z.2.1, .ref a_md_text, .int z.2.2.1, .int z.2.2.2.1, .long z.2.2.2.2.1, .long v_md_question, .ref a_md_weight, .ref a_md_says, .ref a_md_cost, .int v_md_measure, .long v_md_trace, .int z.2.2.2.2.2.1, .int z.2.2.2.2.2.2.1, .long z.2.2.2.2.2.2.2.1, .ref a_md_readWeight, .ref a_md_readSays, .int z.2.2.2.2.2.2.2.2.1, .int z.2.2.2.2.2.2.2.2.2.1, .int z.2.2.2.2.2.2.2.2.2.2.1, .int z.2.2.2.2.2.2.2.2.2.2.2.1, .ref a_md_opened, .int z.2.2.2.2.2.2.2.2.2.2.2.2.1, .ref a_md_any, .ref a_md_all, .long z.2.2.2.2.2.2.2.2.2.2.2.2.2.1, .ref a_md_burdens, .ref a_md_best, .ref a_md_own, .ref a_md_truth])), (a_md_text, .inl (cB, 300, .inl f_md_text)), (a_md_weight, .inl (cI, 7, .inl z.2.2.2.2.2.2.2.2.2.2.2.2.2.2.1)), (a_md_says, .inl (cJ, 7, .inr (.inl z.2.2.2.2.2.2.2.2.2.2.2.2.2.2.2.1))), (a_md_readWeight, .inl (cI, 7, .inl z.2.2.2.2.2.2.2.2.2.2.2.2.2.2.2.2.1)), (a_md_readSays, .inl (cJ, 7, .inr (.inl z.2.2.2.2.2.2.2.2.2.2.2.2.2.2.2.2.2.1))), (a_md_opened, .inl (cI, 9, .inl z.2.2.2.2.2.2.2.2.2.2.2.2.2.2.2.2.2.2.1)), (a_md_any, .inl (cJ, 9, .inr (.inl z.2.2.2.2.2.2.2.2.2.2.2.2.2.2.2.2.2.2.2.1))), (a_md_all, .inl (cJ, 9, .inr (.inl z.2.2.2.2.2.2.2.2.2.2.2.2.2.2.2.2.2.2.2.2)))] := by
  refine zk_of_i (cc := cX5_tell) (maxL := 3) (by decide) rfl (Nat.le_of_ble_eq_true rfl) ?_
  intro p e R s m args below meth c A Q ls hx hb hml hRf hRl hts hown hP hK hD hA hS hG hl hret
  have hl : lv_has ls 3 [(0, .ref a_md)] := hl
  have hown : s.vm.findClass RX5 = some m.cls := hown
  have hcs : 0 ≤ R.cells ∧ 0 ≤ R.slots := ⟨Nat.zero_le _, Nat.zero_le _⟩
  have lk0 := hts (.fieldLink RX5 121 "SayingsMergedModel" "readLaws" "I") (by decide +kernel)
  have inX5 : ∀ w ∈ wsX50, w ∈ wsX5_tell := by decide +kernel
  have lk2 := hts (.fieldLink RX5 139 "SayingsMergedModel" "laws" "I") (by decide +kernel)
  have lk3 := hts (.fieldLink RX5 124 "SayingsMergedModel" "readSayers" "I") (by decide +kernel)
  have lk4 := hts (.fieldLink RX5 142 "SayingsMergedModel" "sayers" "I") (by decide +kernel)
  have lk5 := hts (.fieldLink RX5 127 "SayingsMergedModel" "readThere" "J") (by decide +kernel)
  have lk6 := hts (.fieldLink RX5 15 "SayingsMergedModel" "there" "J") (by decide +kernel)
  have lk7 := hts (.fieldLink RX5 22 "SayingsMergedModel" "weight" "[I") (by decide +kernel)
  have lk8 := hts (.fieldLink RX5 33 "SayingsMergedModel" "readWeight" "[I") (by decide +kernel)
  have lk9 := hts (.fieldLink RX5 26 "SayingsMergedModel" "says" "[J") (by decide +kernel)
  have lk10 := hts (.fieldLink RX5 36 "SayingsMergedModel" "readSays" "[J") (by decide +kernel)
  have lk11 := hts (.fieldLink RX5 70 "SayingsMergedModel" "length" "I") (by decide +kernel)
  unfold zf_X5_tell at hf
  refine lv_aload_n hx hb dX5_tell_0 rfl (lv_at hl 0 rfl) ?_
  obtain ⟨v1, hv1, hf⟩ := zk_ob hf
  refine zk_go (wr := [(a_md_weight, .inl (cI, 7, .inl f_md_weight)), (a_md_says, .inl (cJ, 7, .inr (.inl f_md_says)))]) (w2 := [(a_md, .inr (5, [.int v_md_length, .ref a_md_text, .int v_md_laws, .int v_md_sayers, .long v_md_there, .long v_md_question, .ref a_md_weight, .ref a_md_says, .ref a_md_cost, .int v_md_measure, .long v_md_trace, .int v1.2.1, .int v1.2.2.1, .long v1.2.2.2.1, .ref a_md_readWeight, .ref a_md_readSays, .int v1.2.2.2.2.1, .int v1.2.2.2.2.2.1, .int v1.2.2.2.2.2.2.1, .int v1.2.2.2.2.2.2.2.1, .ref a_md_opened, .int v1.2.2.2.2.2.2.2.2.1, .ref a_md_any, .ref a_md_all, .long v1.2.2.2.2.2.2.2.2.2.1, .ref a_md_burdens, .ref a_md_best, .ref a_md_own, .ref a_md_truth])), (a_md_text, .inl (cB, 300, .inl f_md_text)), (a_md_weight, .inl (cI, 7, .inl f_md_weight)), (a_md_says, .inl (cJ, 7, .inr (.inl f_md_says))), (a_md_readWeight, .inl (cI, 7, .inl v1.2.2.2.2.2.2.2.2.2.2.1)), (a_md_readSays, .inl (cJ, 7, .inr (.inl v1.2.2.2.2.2.2.2.2.2.2.2.1))), (a_md_opened, .inl (cI, 9, .inl v1.2.2.2.2.2.2.2.2.2.2.2.2.1)), (a_md_any, .inl (cJ, 9, .inr (.inl v1.2.2.2.2.2.2.2.2.2.2.2.2.2.1))), (a_md_all, .inl (cJ, 9, .inr (.inl v1.2.2.2.2.2.2.2.2.2.2.2.2.2.2)))]) (zk_V (As := []) (rest := []) hx hb hml hown hts hK hG hP hD hS hA gX5_tell_X5_fault rfl hd_X5_fault (Nat.le_trans (Nat.le_of_ble_eq_true rfl) hRf) (Nat.le_trans (Nat.le_of_ble_eq_true rfl) hRl) hcs (zc_X5_fault l D tL tO cI cJ cB cQ a_md a_md_text a_md_weight a_md_says a_md_cost a_md_readWeight a_md_readSays a_md_opened a_md_any a_md_all a_md_burdens a_md_best a_md_own a_md_truth v_md_length v_md_laws v_md_sayers v_md_there v_md_question v_md_measure v_md_trace v_md_readLaws v_md_readSayers v_md_readThere v_md_begin v_md_end v_md_sort v_md_open v_md_level v_md_said f_md_text f_md_readWeight f_md_readSays f_md_opened f_md_any f_md_all v1 hv1) rfl rfl 0 rfl hl.1 rfl rfl (Nat.le_of_ble_eq_true rfl) dX5_tell_1 [0, 1, 4, 5, 6, 7, 8] rfl rfl) hP hD hS hA [0, 1, 4, 5, 6, 7, 8] [2, 3] [2, 3, 0, 1, 4, 5, 6, 7, 8] rfl rfl rfl (by decide) rfl rfl (fun H locs hP hD hS => ?_)
  refine lv_istore_n (lv' := [(1, .int v1.1), (0, .ref a_md)]) hx hb dX5_tell_4 rfl hl (by decide) rfl (fun ls hl => ?_)
  refine lv_iload_n hx hb dX5_tell_5 rfl (lv_at hl 0 rfl) ?_
  refine lv_if_lt (tgt := 14) hx hb dX5_tell_6 (by decide) (fun c9 => ?_) (fun c9 => ?_)
  · have hf := zk_t c9 hf
    refine lv_aload_n hx hb dX5_tell_14 rfl (lv_at hl 1 rfl) ?_
    refine lv_aload_n hx hb dX5_tell_15 rfl (lv_at hl 1 rfl) ?_
    refine va_get (ci := 5) (v := .int v1.2.1) (C := RX5) (T := TX5) (N := 29) hx hb hts inX5 hown hK hP 0 rfl rfl 11 (by decide) lk0 (fun _ h9 => h9) rfl dX5_tell_16 ?_
    refine va_put (ci := 5) (v := .int v1.2.1) (ty := .int) (C := RX5) (T := TX5) (N := 29) hx hb hts inX5 tyX5 tyX5_ok nmX5 hown hK hP hD hS 0 rfl rfl 2 (by decide) lk2 (fun _ h9 => h9) rfl (by decide +kernel) rfl rfl (Nat.le_of_ble_eq_true rfl) dX5_tell_19 (fun H locs hP hD hS => ?_)
    have hP : va_P D vwCl [(a_md, .inr (5, [.int v_md_length, .ref a_md_text, .int v1.2.1, .int v_md_sayers, .long v_md_there, .long v_md_question, .ref a_md_weight, .ref a_md_says, .ref a_md_cost, .int v_md_measure, .long v_md_trace, .int v1.2.1, .int v1.2.2.1, .long v1.2.2.2.1, .ref a_md_readWeight, .ref a_md_readSays, .int v1.2.2.2.2.1, .int v1.2.2.2.2.2.1, .int v1.2.2.2.2.2.2.1, .int v1.2.2.2.2.2.2.2.1, .ref a_md_opened, .int v1.2.2.2.2.2.2.2.2.1, .ref a_md_any, .ref a_md_all, .long v1.2.2.2.2.2.2.2.2.2.1, .ref a_md_burdens, .ref a_md_best, .ref a_md_own, .ref a_md_truth])), (a_md_text, .inl (cB, 300, .inl f_md_text)), (a_md_weight, .inl (cI, 7, .inl f_md_weight)), (a_md_says, .inl (cJ, 7, .inr (.inl f_md_says))), (a_md_readWeight, .inl (cI, 7, .inl v1.2.2.2.2.2.2.2.2.2.2.1)), (a_md_readSays, .inl (cJ, 7, .inr (.inl v1.2.2.2.2.2.2.2.2.2.2.2.1))), (a_md_opened, .inl (cI, 9, .inl v1.2.2.2.2.2.2.2.2.2.2.2.2.1)), (a_md_any, .inl (cJ, 9, .inr (.inl v1.2.2.2.2.2.2.2.2.2.2.2.2.2.1))), (a_md_all, .inl (cJ, 9, .inr (.inl v1.2.2.2.2.2.2.2.2.2.2.2.2.2.2)))] H := hP
    have hD : va_D A [(a_md, .inr (5, [.int v_md_length, .ref a_md_text, .int v1.2.1, .int v_md_sayers, .long v_md_there, .long v_md_question, .ref a_md_weight, .ref a_md_says, .ref a_md_cost, .int v_md_measure, .long v_md_trace, .int v1.2.1, .int v1.2.2.1, .long v1.2.2.2.1, .ref a_md_readWeight, .ref a_md_readSays, .int v1.2.2.2.2.1, .int v1.2.2.2.2.2.1, .int v1.2.2.2.2.2.2.1, .int v1.2.2.2.2.2.2.2.1, .ref a_md_opened, .int v1.2.2.2.2.2.2.2.2.1, .ref a_md_any, .ref a_md_all, .long v1.2.2.2.2.2.2.2.2.2.1, .ref a_md_burdens, .ref a_md_best, .ref a_md_own, .ref a_md_truth])), (a_md_text, .inl (cB, 300, .inl f_md_text)), (a_md_weight, .inl (cI, 7, .inl f_md_weight)), (a_md_says, .inl (cJ, 7, .inr (.inl f_md_says))), (a_md_readWeight, .inl (cI, 7, .inl v1.2.2.2.2.2.2.2.2.2.2.1)), (a_md_readSays, .inl (cJ, 7, .inr (.inl v1.2.2.2.2.2.2.2.2.2.2.2.1))), (a_md_opened, .inl (cI, 9, .inl v1.2.2.2.2.2.2.2.2.2.2.2.2.1)), (a_md_any, .inl (cJ, 9, .inr (.inl v1.2.2.2.2.2.2.2.2.2.2.2.2.2.1))), (a_md_all, .inl (cJ, 9, .inr (.inl v1.2.2.2.2.2.2.2.2.2.2.2.2.2.2)))] := hD
    refine lv_aload_n hx hb dX5_tell_22 rfl (lv_at hl 1 rfl) ?_
    refine lv_aload_n hx hb dX5_tell_23 rfl (lv_at hl 1 rfl) ?_
    refine va_get (ci := 5) (v := .int v1.2.2.1) (C := RX5) (T := TX5) (N := 29) hx hb hts inX5 hown hK hP 0 rfl rfl 12 (by decide) lk3 (fun _ h9 => h9) rfl dX5_tell_24 ?_
    refine va_put (ci := 5) (v := .int v1.2.2.1) (ty := .int) (C := RX5) (T := TX5) (N := 29) hx hb hts inX5 tyX5 tyX5_ok nmX5 hown hK hP hD hS 0 rfl rfl 3 (by decide) lk4 (fun _ h9 => h9) rfl (by decide +kernel) rfl rfl (Nat.le_of_ble_eq_true rfl) dX5_tell_27 (fun H locs hP hD hS => ?_)
    have hP : va_P D vwCl [(a_md, .inr (5, [.int v_md_length, .ref a_md_text, .int v1.2.1, .int v1.2.2.1, .long v_md_there, .long v_md_question, .ref a_md_weight, .ref a_md_says, .ref a_md_cost, .int v_md_measure, .long v_md_trace, .int v1.2.1, .int v1.2.2.1, .long v1.2.2.2.1, .ref a_md_readWeight, .ref a_md_readSays, .int v1.2.2.2.2.1, .int v1.2.2.2.2.2.1, .int v1.2.2.2.2.2.2.1, .int v1.2.2.2.2.2.2.2.1, .ref a_md_opened, .int v1.2.2.2.2.2.2.2.2.1, .ref a_md_any, .ref a_md_all, .long v1.2.2.2.2.2.2.2.2.2.1, .ref a_md_burdens, .ref a_md_best, .ref a_md_own, .ref a_md_truth])), (a_md_text, .inl (cB, 300, .inl f_md_text)), (a_md_weight, .inl (cI, 7, .inl f_md_weight)), (a_md_says, .inl (cJ, 7, .inr (.inl f_md_says))), (a_md_readWeight, .inl (cI, 7, .inl v1.2.2.2.2.2.2.2.2.2.2.1)), (a_md_readSays, .inl (cJ, 7, .inr (.inl v1.2.2.2.2.2.2.2.2.2.2.2.1))), (a_md_opened, .inl (cI, 9, .inl v1.2.2.2.2.2.2.2.2.2.2.2.2.1)), (a_md_any, .inl (cJ, 9, .inr (.inl v1.2.2.2.2.2.2.2.2.2.2.2.2.2.1))), (a_md_all, .inl (cJ, 9, .inr (.inl v1.2.2.2.2.2.2.2.2.2.2.2.2.2.2)))] H := hP
    have hD : va_D A [(a_md, .inr (5, [.int v_md_length, .ref a_md_text, .int v1.2.1, .int v1.2.2.1, .long v_md_there, .long v_md_question, .ref a_md_weight, .ref a_md_says, .ref a_md_cost, .int v_md_measure, .long v_md_trace, .int v1.2.1, .int v1.2.2.1, .long v1.2.2.2.1, .ref a_md_readWeight, .ref a_md_readSays, .int v1.2.2.2.2.1, .int v1.2.2.2.2.2.1, .int v1.2.2.2.2.2.2.1, .int v1.2.2.2.2.2.2.2.1, .ref a_md_opened, .int v1.2.2.2.2.2.2.2.2.1, .ref a_md_any, .ref a_md_all, .long v1.2.2.2.2.2.2.2.2.2.1, .ref a_md_burdens, .ref a_md_best, .ref a_md_own, .ref a_md_truth])), (a_md_text, .inl (cB, 300, .inl f_md_text)), (a_md_weight, .inl (cI, 7, .inl f_md_weight)), (a_md_says, .inl (cJ, 7, .inr (.inl f_md_says))), (a_md_readWeight, .inl (cI, 7, .inl v1.2.2.2.2.2.2.2.2.2.2.1)), (a_md_readSays, .inl (cJ, 7, .inr (.inl v1.2.2.2.2.2.2.2.2.2.2.2.1))), (a_md_opened, .inl (cI, 9, .inl v1.2.2.2.2.2.2.2.2.2.2.2.2.1)), (a_md_any, .inl (cJ, 9, .inr (.inl v1.2.2.2.2.2.2.2.2.2.2.2.2.2.1))), (a_md_all, .inl (cJ, 9, .inr (.inl v1.2.2.2.2.2.2.2.2.2.2.2.2.2.2)))] := hD
    refine lv_aload_n hx hb dX5_tell_30 rfl (lv_at hl 1 rfl) ?_
    refine lv_aload_n hx hb dX5_tell_31 rfl (lv_at hl 1 rfl) ?_
    refine va_get (ci := 5) (v := .long v1.2.2.2.1) (C := RX5) (T := TX5) (N := 29) hx hb hts inX5 hown hK hP 0 rfl rfl 13 (by decide) lk5 (fun _ h9 => h9) rfl dX5_tell_32 ?_
    refine va_put (ci := 5) (v := .long v1.2.2.2.1) (ty := .long) (C := RX5) (T := TX5) (N := 29) hx hb hts inX5 tyX5 tyX5_ok nmX5 hown hK hP hD hS 0 rfl rfl 4 (by decide) lk6 (fun _ h9 => h9) rfl (by decide +kernel) rfl rfl (Nat.le_of_ble_eq_true rfl) dX5_tell_35 (fun H locs hP hD hS => ?_)
    have hP : va_P D vwCl [(a_md, .inr (5, [.int v_md_length, .ref a_md_text, .int v1.2.1, .int v1.2.2.1, .long v1.2.2.2.1, .long v_md_question, .ref a_md_weight, .ref a_md_says, .ref a_md_cost, .int v_md_measure, .long v_md_trace, .int v1.2.1, .int v1.2.2.1, .long v1.2.2.2.1, .ref a_md_readWeight, .ref a_md_readSays, .int v1.2.2.2.2.1, .int v1.2.2.2.2.2.1, .int v1.2.2.2.2.2.2.1, .int v1.2.2.2.2.2.2.2.1, .ref a_md_opened, .int v1.2.2.2.2.2.2.2.2.1, .ref a_md_any, .ref a_md_all, .long v1.2.2.2.2.2.2.2.2.2.1, .ref a_md_burdens, .ref a_md_best, .ref a_md_own, .ref a_md_truth])), (a_md_text, .inl (cB, 300, .inl f_md_text)), (a_md_weight, .inl (cI, 7, .inl f_md_weight)), (a_md_says, .inl (cJ, 7, .inr (.inl f_md_says))), (a_md_readWeight, .inl (cI, 7, .inl v1.2.2.2.2.2.2.2.2.2.2.1)), (a_md_readSays, .inl (cJ, 7, .inr (.inl v1.2.2.2.2.2.2.2.2.2.2.2.1))), (a_md_opened, .inl (cI, 9, .inl v1.2.2.2.2.2.2.2.2.2.2.2.2.1)), (a_md_any, .inl (cJ, 9, .inr (.inl v1.2.2.2.2.2.2.2.2.2.2.2.2.2.1))), (a_md_all, .inl (cJ, 9, .inr (.inl v1.2.2.2.2.2.2.2.2.2.2.2.2.2.2)))] H := hP
    have hD : va_D A [(a_md, .inr (5, [.int v_md_length, .ref a_md_text, .int v1.2.1, .int v1.2.2.1, .long v1.2.2.2.1, .long v_md_question, .ref a_md_weight, .ref a_md_says, .ref a_md_cost, .int v_md_measure, .long v_md_trace, .int v1.2.1, .int v1.2.2.1, .long v1.2.2.2.1, .ref a_md_readWeight, .ref a_md_readSays, .int v1.2.2.2.2.1, .int v1.2.2.2.2.2.1, .int v1.2.2.2.2.2.2.1, .int v1.2.2.2.2.2.2.2.1, .ref a_md_opened, .int v1.2.2.2.2.2.2.2.2.1, .ref a_md_any, .ref a_md_all, .long v1.2.2.2.2.2.2.2.2.2.1, .ref a_md_burdens, .ref a_md_best, .ref a_md_own, .ref a_md_truth])), (a_md_text, .inl (cB, 300, .inl f_md_text)), (a_md_weight, .inl (cI, 7, .inl f_md_weight)), (a_md_says, .inl (cJ, 7, .inr (.inl f_md_says))), (a_md_readWeight, .inl (cI, 7, .inl v1.2.2.2.2.2.2.2.2.2.2.1)), (a_md_readSays, .inl (cJ, 7, .inr (.inl v1.2.2.2.2.2.2.2.2.2.2.2.1))), (a_md_opened, .inl (cI, 9, .inl v1.2.2.2.2.2.2.2.2.2.2.2.2.1)), (a_md_any, .inl (cJ, 9, .inr (.inl v1.2.2.2.2.2.2.2.2.2.2.2.2.2.1))), (a_md_all, .inl (cJ, 9, .inr (.inl v1.2.2.2.2.2.2.2.2.2.2.2.2.2.2)))] := hD
    refine lv_iconst (v := (0 : Int32)) hx hb dX5_tell_38 (by decide) ?_
    refine lv_istore_n (lv' := [(2, .int (0 : Int32)), (1, .int v1.1), (0, .ref a_md)]) hx hb dX5_tell_39 rfl hl (by decide) rfl (fun ls hl => ?_)
    have lp40 : ∀ (n : Nat) (w2 : Int32) (w3 : Nat → Int32) (w4 : Nat → Int64) (z40 : Int32 × (Nat → Int32) × (Nat → Int64)) (H : Heap) (locs : List Loc) (ls : Array Slot), zl_X5_tell_40 v1 n w2 w3 w4 = some z40 → va_P D vwCl [(a_md, .inr (5, [.int v_md_length, .ref a_md_text, .int v1.2.1, .int v1.2.2.1, .long v1.2.2.2.1, .long v_md_question, .ref a_md_weight, .ref a_md_says, .ref a_md_cost, .int v_md_measure, .long v_md_trace, .int v1.2.1, .int v1.2.2.1, .long v1.2.2.2.1, .ref a_md_readWeight, .ref a_md_readSays, .int v1.2.2.2.2.1, .int v1.2.2.2.2.2.1, .int v1.2.2.2.2.2.2.1, .int v1.2.2.2.2.2.2.2.1, .ref a_md_opened, .int v1.2.2.2.2.2.2.2.2.1, .ref a_md_any, .ref a_md_all, .long v1.2.2.2.2.2.2.2.2.2.1, .ref a_md_burdens, .ref a_md_best, .ref a_md_own, .ref a_md_truth])), (a_md_text, .inl (cB, 300, .inl f_md_text)), (a_md_weight, .inl (cI, 7, .inl w3)), (a_md_says, .inl (cJ, 7, .inr (.inl w4))), (a_md_readWeight, .inl (cI, 7, .inl v1.2.2.2.2.2.2.2.2.2.2.1)), (a_md_readSays, .inl (cJ, 7, .inr (.inl v1.2.2.2.2.2.2.2.2.2.2.2.1))), (a_md_opened, .inl (cI, 9, .inl v1.2.2.2.2.2.2.2.2.2.2.2.2.1)), (a_md_any, .inl (cJ, 9, .inr (.inl v1.2.2.2.2.2.2.2.2.2.2.2.2.2.1))), (a_md_all, .inl (cJ, 9, .inr (.inl v1.2.2.2.2.2.2.2.2.2.2.2.2.2.2)))] H → va_D A [(a_md, .inr (5, [.int v_md_length, .ref a_md_text, .int v1.2.1, .int v1.2.2.1, .long v1.2.2.2.1, .long v_md_question, .ref a_md_weight, .ref a_md_says, .ref a_md_cost, .int v_md_measure, .long v_md_trace, .int v1.2.1, .int v1.2.2.1, .long v1.2.2.2.1, .ref a_md_readWeight, .ref a_md_readSays, .int v1.2.2.2.2.1, .int v1.2.2.2.2.2.1, .int v1.2.2.2.2.2.2.1, .int v1.2.2.2.2.2.2.2.1, .ref a_md_opened, .int v1.2.2.2.2.2.2.2.2.1, .ref a_md_any, .ref a_md_all, .long v1.2.2.2.2.2.2.2.2.2.1, .ref a_md_burdens, .ref a_md_best, .ref a_md_own, .ref a_md_truth])), (a_md_text, .inl (cB, 300, .inl f_md_text)), (a_md_weight, .inl (cI, 7, .inl w3)), (a_md_says, .inl (cJ, 7, .inr (.inl w4))), (a_md_readWeight, .inl (cI, 7, .inl v1.2.2.2.2.2.2.2.2.2.2.1)), (a_md_readSays, .inl (cJ, 7, .inr (.inl v1.2.2.2.2.2.2.2.2.2.2.2.1))), (a_md_opened, .inl (cI, 9, .inl v1.2.2.2.2.2.2.2.2.2.2.2.2.1)), (a_md_any, .inl (cJ, 9, .inr (.inl v1.2.2.2.2.2.2.2.2.2.2.2.2.2.1))), (a_md_all, .inl (cJ, 9, .inr (.inl v1.2.2.2.2.2.2.2.2.2.2.2.2.2.2)))] → va_S A s.heap H locs → lv_has ls 3 [(0, .ref a_md), (1, .int v1.1), (2, .int w2)] → (∀ (H : Heap) (locs : List Loc) (ls : Array Slot), va_P D vwCl [(a_md, .inr (5, [.int v_md_length, .ref a_md_text, .int v1.2.1, .int v1.2.2.1, .long v1.2.2.2.1, .long v_md_question, .ref a_md_weight, .ref a_md_says, .ref a_md_cost, .int v_md_measure, .long v_md_trace, .int v1.2.1, .int v1.2.2.1, .long v1.2.2.2.1, .ref a_md_readWeight, .ref a_md_readSays, .int v1.2.2.2.2.1, .int v1.2.2.2.2.2.1, .int v1.2.2.2.2.2.2.1, .int v1.2.2.2.2.2.2.2.1, .ref a_md_opened, .int v1.2.2.2.2.2.2.2.2.1, .ref a_md_any, .ref a_md_all, .long v1.2.2.2.2.2.2.2.2.2.1, .ref a_md_burdens, .ref a_md_best, .ref a_md_own, .ref a_md_truth])), (a_md_text, .inl (cB, 300, .inl f_md_text)), (a_md_weight, .inl (cI, 7, .inl z40.2.1)), (a_md_says, .inl (cJ, 7, .inr (.inl z40.2.2))), (a_md_readWeight, .inl (cI, 7, .inl v1.2.2.2.2.2.2.2.2.2.2.1)), (a_md_readSays, .inl (cJ, 7, .inr (.inl v1.2.2.2.2.2.2.2.2.2.2.2.1))), (a_md_opened, .inl (cI, 9, .inl v1.2.2.2.2.2.2.2.2.2.2.2.2.1)), (a_md_any, .inl (cJ, 9, .inr (.inl v1.2.2.2.2.2.2.2.2.2.2.2.2.2.1))), (a_md_all, .inl (cJ, 9, .inr (.inl v1.2.2.2.2.2.2.2.2.2.2.2.2.2.2)))] H → va_D A [(a_md, .inr (5, [.int v_md_length, .ref a_md_text, .int v1.2.1, .int v1.2.2.1, .long v1.2.2.2.1, .long v_md_question, .ref a_md_weight, .ref a_md_says, .ref a_md_cost, .int v_md_measure, .long v_md_trace, .int v1.2.1, .int v1.2.2.1, .long v1.2.2.2.1, .ref a_md_readWeight, .ref a_md_readSays, .int v1.2.2.2.2.1, .int v1.2.2.2.2.2.1, .int v1.2.2.2.2.2.2.1, .int v1.2.2.2.2.2.2.2.1, .ref a_md_opened, .int v1.2.2.2.2.2.2.2.2.1, .ref a_md_any, .ref a_md_all, .long v1.2.2.2.2.2.2.2.2.2.1, .ref a_md_burdens, .ref a_md_best, .ref a_md_own, .ref a_md_truth])), (a_md_text, .inl (cB, 300, .inl f_md_text)), (a_md_weight, .inl (cI, 7, .inl z40.2.1)), (a_md_says, .inl (cJ, 7, .inr (.inl z40.2.2))), (a_md_readWeight, .inl (cI, 7, .inl v1.2.2.2.2.2.2.2.2.2.2.1)), (a_md_readSays, .inl (cJ, 7, .inr (.inl v1.2.2.2.2.2.2.2.2.2.2.2.1))), (a_md_opened, .inl (cI, 9, .inl v1.2.2.2.2.2.2.2.2.2.2.2.2.1)), (a_md_any, .inl (cJ, 9, .inr (.inl v1.2.2.2.2.2.2.2.2.2.2.2.2.2.1))), (a_md_all, .inl (cJ, 9, .inr (.inl v1.2.2.2.2.2.2.2.2.2.2.2.2.2.2)))] → va_S A s.heap H locs → lv_has ls 3 [(0, .ref a_md), (1, .int v1.1), (2, .int z40.1)] → W p l e R s m args below meth c H locs 0 0 Q (F0 m 78 ls [])) → W p l e R s m args below meth c H locs 0 0 Q (F0 m 40 ls []) := by
      intro n
      induction n with
      | zero => intro w2 w3 w4 z40 H locs ls hf; exact absurd (show none = some z40 from hf) (by simp)
      | succ n ih =>
        intro w2 w3 w4 z40 H locs ls hf hP hD hS hl hk
        rw [zl_X5_tell_40] at hf
        refine lv_iload_n hx hb dX5_tell_40 rfl (lv_at hl 2 rfl) ?_
        refine lv_aload_n hx hb dX5_tell_41 rfl (lv_at hl 0 rfl) ?_
        refine va_get (ci := 5) (v := .int v1.2.2.1) (C := RX5) (T := TX5) (N := 29) hx hb hts inX5 hown hK hP 0 rfl rfl 3 (by decide) lk4 (fun _ h9 => h9) rfl dX5_tell_42 ?_
        refine lv_icmp_ge (tgt := 78) hx hb dX5_tell_45 (by decide) (fun c7 => ?_) (fun c7 => ?_)
        · have hf := zk_t c7 hf
          obtain rfl := Option.some.inj hf
          exact hk _ _ _ hP hD hS (lv_sub hl [0, 1, 2] rfl)
        · have hf := zk_f c7 hf
          refine lv_aload_n hx hb dX5_tell_48 rfl (lv_at hl 0 rfl) ?_
          refine va_get (ci := 5) (v := .ref a_md_weight) (C := RX5) (T := TX5) (N := 29) hx hb hts inX5 hown hK hP 0 rfl rfl 6 (by decide) lk7 (fun _ h9 => h9) rfl dX5_tell_49 ?_
          refine lv_iload_n hx hb dX5_tell_52 rfl (lv_at hl 2 rfl) ?_
          refine lv_aload_n hx hb dX5_tell_53 rfl (lv_at hl 0 rfl) ?_
          refine va_get (ci := 5) (v := .ref a_md_readWeight) (C := RX5) (T := TX5) (N := 29) hx hb hts inX5 hown hK hP 0 rfl rfl 14 (by decide) lk8 (fun _ h9 => h9) rfl dX5_tell_54 ?_
          refine lv_iload_n hx hb dX5_tell_57 rfl (lv_at hl 2 rfl) ?_
          obtain ⟨g5, hf⟩ := zk_gd_s hf
          refine va_iald hx hb hK hP 4 0 rfl rfl (zk_in_s g5) dX5_tell_58 ?_
          refine va_iast hx hb hK hP hD hS 2 0 rfl rfl (zk_in_s g5) dX5_tell_59 (fun H locs hP hD hS => ?_)
          have hP : va_P D vwCl [(a_md, .inr (5, [.int v_md_length, .ref a_md_text, .int v1.2.1, .int v1.2.2.1, .long v1.2.2.2.1, .long v_md_question, .ref a_md_weight, .ref a_md_says, .ref a_md_cost, .int v_md_measure, .long v_md_trace, .int v1.2.1, .int v1.2.2.1, .long v1.2.2.2.1, .ref a_md_readWeight, .ref a_md_readSays, .int v1.2.2.2.2.1, .int v1.2.2.2.2.2.1, .int v1.2.2.2.2.2.2.1, .int v1.2.2.2.2.2.2.2.1, .ref a_md_opened, .int v1.2.2.2.2.2.2.2.2.1, .ref a_md_any, .ref a_md_all, .long v1.2.2.2.2.2.2.2.2.2.1, .ref a_md_burdens, .ref a_md_best, .ref a_md_own, .ref a_md_truth])), (a_md_text, .inl (cB, 300, .inl f_md_text)), (a_md_weight, .inl (cI, 7, .inl (upd w3 w2.toNatClampNeg (v1.2.2.2.2.2.2.2.2.2.2.1 w2.toNatClampNeg)))), (a_md_says, .inl (cJ, 7, .inr (.inl w4))), (a_md_readWeight, .inl (cI, 7, .inl v1.2.2.2.2.2.2.2.2.2.2.1)), (a_md_readSays, .inl (cJ, 7, .inr (.inl v1.2.2.2.2.2.2.2.2.2.2.2.1))), (a_md_opened, .inl (cI, 9, .inl v1.2.2.2.2.2.2.2.2.2.2.2.2.1)), (a_md_any, .inl (cJ, 9, .inr (.inl v1.2.2.2.2.2.2.2.2.2.2.2.2.2.1))), (a_md_all, .inl (cJ, 9, .inr (.inl v1.2.2.2.2.2.2.2.2.2.2.2.2.2.2)))] H := hP
          have hD : va_D A [(a_md, .inr (5, [.int v_md_length, .ref a_md_text, .int v1.2.1, .int v1.2.2.1, .long v1.2.2.2.1, .long v_md_question, .ref a_md_weight, .ref a_md_says, .ref a_md_cost, .int v_md_measure, .long v_md_trace, .int v1.2.1, .int v1.2.2.1, .long v1.2.2.2.1, .ref a_md_readWeight, .ref a_md_readSays, .int v1.2.2.2.2.1, .int v1.2.2.2.2.2.1, .int v1.2.2.2.2.2.2.1, .int v1.2.2.2.2.2.2.2.1, .ref a_md_opened, .int v1.2.2.2.2.2.2.2.2.1, .ref a_md_any, .ref a_md_all, .long v1.2.2.2.2.2.2.2.2.2.1, .ref a_md_burdens, .ref a_md_best, .ref a_md_own, .ref a_md_truth])), (a_md_text, .inl (cB, 300, .inl f_md_text)), (a_md_weight, .inl (cI, 7, .inl (upd w3 w2.toNatClampNeg (v1.2.2.2.2.2.2.2.2.2.2.1 w2.toNatClampNeg)))), (a_md_says, .inl (cJ, 7, .inr (.inl w4))), (a_md_readWeight, .inl (cI, 7, .inl v1.2.2.2.2.2.2.2.2.2.2.1)), (a_md_readSays, .inl (cJ, 7, .inr (.inl v1.2.2.2.2.2.2.2.2.2.2.2.1))), (a_md_opened, .inl (cI, 9, .inl v1.2.2.2.2.2.2.2.2.2.2.2.2.1)), (a_md_any, .inl (cJ, 9, .inr (.inl v1.2.2.2.2.2.2.2.2.2.2.2.2.2.1))), (a_md_all, .inl (cJ, 9, .inr (.inl v1.2.2.2.2.2.2.2.2.2.2.2.2.2.2)))] := hD
          refine lv_aload_n hx hb dX5_tell_60 rfl (lv_at hl 0 rfl) ?_
          refine va_get (ci := 5) (v := .ref a_md_says) (C := RX5) (T := TX5) (N := 29) hx hb hts inX5 hown hK hP 0 rfl rfl 7 (by decide) lk9 (fun _ h9 => h9) rfl dX5_tell_61 ?_
          refine lv_iload_n hx hb dX5_tell_64 rfl (lv_at hl 2 rfl) ?_
          refine lv_aload_n hx hb dX5_tell_65 rfl (lv_at hl 0 rfl) ?_
          refine va_get (ci := 5) (v := .ref a_md_readSays) (C := RX5) (T := TX5) (N := 29) hx hb hts inX5 hown hK hP 0 rfl rfl 15 (by decide) lk10 (fun _ h9 => h9) rfl dX5_tell_66 ?_
          refine lv_iload_n hx hb dX5_tell_69 rfl (lv_at hl 2 rfl) ?_
          refine va_lald hx hb hK hP 5 1 rfl rfl (zk_in_s g5) dX5_tell_70 ?_
          refine va_last hx hb hK hP hD hS 3 1 rfl rfl (zk_in_s g5) dX5_tell_71 (fun H locs hP hD hS => ?_)
          have hP : va_P D vwCl [(a_md, .inr (5, [.int v_md_length, .ref a_md_text, .int v1.2.1, .int v1.2.2.1, .long v1.2.2.2.1, .long v_md_question, .ref a_md_weight, .ref a_md_says, .ref a_md_cost, .int v_md_measure, .long v_md_trace, .int v1.2.1, .int v1.2.2.1, .long v1.2.2.2.1, .ref a_md_readWeight, .ref a_md_readSays, .int v1.2.2.2.2.1, .int v1.2.2.2.2.2.1, .int v1.2.2.2.2.2.2.1, .int v1.2.2.2.2.2.2.2.1, .ref a_md_opened, .int v1.2.2.2.2.2.2.2.2.1, .ref a_md_any, .ref a_md_all, .long v1.2.2.2.2.2.2.2.2.2.1, .ref a_md_burdens, .ref a_md_best, .ref a_md_own, .ref a_md_truth])), (a_md_text, .inl (cB, 300, .inl f_md_text)), (a_md_weight, .inl (cI, 7, .inl (upd w3 w2.toNatClampNeg (v1.2.2.2.2.2.2.2.2.2.2.1 w2.toNatClampNeg)))), (a_md_says, .inl (cJ, 7, .inr (.inl (vp_updL w4 w2.toNatClampNeg (v1.2.2.2.2.2.2.2.2.2.2.2.1 w2.toNatClampNeg))))), (a_md_readWeight, .inl (cI, 7, .inl v1.2.2.2.2.2.2.2.2.2.2.1)), (a_md_readSays, .inl (cJ, 7, .inr (.inl v1.2.2.2.2.2.2.2.2.2.2.2.1))), (a_md_opened, .inl (cI, 9, .inl v1.2.2.2.2.2.2.2.2.2.2.2.2.1)), (a_md_any, .inl (cJ, 9, .inr (.inl v1.2.2.2.2.2.2.2.2.2.2.2.2.2.1))), (a_md_all, .inl (cJ, 9, .inr (.inl v1.2.2.2.2.2.2.2.2.2.2.2.2.2.2)))] H := hP
          have hD : va_D A [(a_md, .inr (5, [.int v_md_length, .ref a_md_text, .int v1.2.1, .int v1.2.2.1, .long v1.2.2.2.1, .long v_md_question, .ref a_md_weight, .ref a_md_says, .ref a_md_cost, .int v_md_measure, .long v_md_trace, .int v1.2.1, .int v1.2.2.1, .long v1.2.2.2.1, .ref a_md_readWeight, .ref a_md_readSays, .int v1.2.2.2.2.1, .int v1.2.2.2.2.2.1, .int v1.2.2.2.2.2.2.1, .int v1.2.2.2.2.2.2.2.1, .ref a_md_opened, .int v1.2.2.2.2.2.2.2.2.1, .ref a_md_any, .ref a_md_all, .long v1.2.2.2.2.2.2.2.2.2.1, .ref a_md_burdens, .ref a_md_best, .ref a_md_own, .ref a_md_truth])), (a_md_text, .inl (cB, 300, .inl f_md_text)), (a_md_weight, .inl (cI, 7, .inl (upd w3 w2.toNatClampNeg (v1.2.2.2.2.2.2.2.2.2.2.1 w2.toNatClampNeg)))), (a_md_says, .inl (cJ, 7, .inr (.inl (vp_updL w4 w2.toNatClampNeg (v1.2.2.2.2.2.2.2.2.2.2.2.1 w2.toNatClampNeg))))), (a_md_readWeight, .inl (cI, 7, .inl v1.2.2.2.2.2.2.2.2.2.2.1)), (a_md_readSays, .inl (cJ, 7, .inr (.inl v1.2.2.2.2.2.2.2.2.2.2.2.1))), (a_md_opened, .inl (cI, 9, .inl v1.2.2.2.2.2.2.2.2.2.2.2.2.1)), (a_md_any, .inl (cJ, 9, .inr (.inl v1.2.2.2.2.2.2.2.2.2.2.2.2.2.1))), (a_md_all, .inl (cJ, 9, .inr (.inl v1.2.2.2.2.2.2.2.2.2.2.2.2.2.2)))] := hD
          obtain ⟨y6, ey6, hf⟩ := zk_lt_s hf
          refine lv_iinc (v := y6) (lv' := [(2, .int y6), (0, .ref a_md), (1, .int v1.1)]) hx hb dX5_tell_72 hl (k := 2) rfl (by rw [ey6]; rfl) (by decide) rfl (fun ls hl => ?_)
          refine lv_goto (tgt := 40) hx hb dX5_tell_75 (by decide) ?_
          exact ih y6 (upd w3 w2.toNatClampNeg (v1.2.2.2.2.2.2.2.2.2.2.1 w2.toNatClampNeg)) (vp_updL w4 w2.toNatClampNeg (v1.2.2.2.2.2.2.2.2.2.2.2.1 w2.toNatClampNeg)) _ _ _ _ hf hP hD hS (lv_sub hl [1, 2, 0] rfl) hk
    obtain ⟨v8, hv8, hf⟩ := zk_ob hf
    refine lp40 zk_F (0 : Int32) f_md_weight f_md_says v8 _ _ _ hv8 hP hD hS (lv_sub hl [2, 1, 0] rfl) ?_
    intro H locs ls hP hD hS hl
    refine lv_aload_n hx hb dX5_tell_78 rfl (lv_at hl 0 rfl) ?_
    refine lv_iconst (v := (0 : Int32)) hx hb dX5_tell_79 (by decide) ?_
    refine va_put (ci := 5) (v := .int (0 : Int32)) (ty := .int) (C := RX5) (T := TX5) (N := 29) hx hb hts inX5 tyX5 tyX5_ok nmX5 hown hK hP hD hS 0 rfl rfl 0 (by decide) lk11 (fun _ h9 => h9) rfl (by decide +kernel) rfl rfl (Nat.le_of_ble_eq_true rfl) dX5_tell_80 (fun H locs hP hD hS => ?_)
    have hP : va_P D vwCl [(a_md, .inr (5, [.int (0 : Int32), .ref a_md_text, .int v1.2.1, .int v1.2.2.1, .long v1.2.2.2.1, .long v_md_question, .ref a_md_weight, .ref a_md_says, .ref a_md_cost, .int v_md_measure, .long v_md_trace, .int v1.2.1, .int v1.2.2.1, .long v1.2.2.2.1, .ref a_md_readWeight, .ref a_md_readSays, .int v1.2.2.2.2.1, .int v1.2.2.2.2.2.1, .int v1.2.2.2.2.2.2.1, .int v1.2.2.2.2.2.2.2.1, .ref a_md_opened, .int v1.2.2.2.2.2.2.2.2.1, .ref a_md_any, .ref a_md_all, .long v1.2.2.2.2.2.2.2.2.2.1, .ref a_md_burdens, .ref a_md_best, .ref a_md_own, .ref a_md_truth])), (a_md_text, .inl (cB, 300, .inl f_md_text)), (a_md_weight, .inl (cI, 7, .inl v8.2.1)), (a_md_says, .inl (cJ, 7, .inr (.inl v8.2.2))), (a_md_readWeight, .inl (cI, 7, .inl v1.2.2.2.2.2.2.2.2.2.2.1)), (a_md_readSays, .inl (cJ, 7, .inr (.inl v1.2.2.2.2.2.2.2.2.2.2.2.1))), (a_md_opened, .inl (cI, 9, .inl v1.2.2.2.2.2.2.2.2.2.2.2.2.1)), (a_md_any, .inl (cJ, 9, .inr (.inl v1.2.2.2.2.2.2.2.2.2.2.2.2.2.1))), (a_md_all, .inl (cJ, 9, .inr (.inl v1.2.2.2.2.2.2.2.2.2.2.2.2.2.2)))] H := hP
    have hD : va_D A [(a_md, .inr (5, [.int (0 : Int32), .ref a_md_text, .int v1.2.1, .int v1.2.2.1, .long v1.2.2.2.1, .long v_md_question, .ref a_md_weight, .ref a_md_says, .ref a_md_cost, .int v_md_measure, .long v_md_trace, .int v1.2.1, .int v1.2.2.1, .long v1.2.2.2.1, .ref a_md_readWeight, .ref a_md_readSays, .int v1.2.2.2.2.1, .int v1.2.2.2.2.2.1, .int v1.2.2.2.2.2.2.1, .int v1.2.2.2.2.2.2.2.1, .ref a_md_opened, .int v1.2.2.2.2.2.2.2.2.1, .ref a_md_any, .ref a_md_all, .long v1.2.2.2.2.2.2.2.2.2.1, .ref a_md_burdens, .ref a_md_best, .ref a_md_own, .ref a_md_truth])), (a_md_text, .inl (cB, 300, .inl f_md_text)), (a_md_weight, .inl (cI, 7, .inl v8.2.1)), (a_md_says, .inl (cJ, 7, .inr (.inl v8.2.2))), (a_md_readWeight, .inl (cI, 7, .inl v1.2.2.2.2.2.2.2.2.2.2.1)), (a_md_readSays, .inl (cJ, 7, .inr (.inl v1.2.2.2.2.2.2.2.2.2.2.2.1))), (a_md_opened, .inl (cI, 9, .inl v1.2.2.2.2.2.2.2.2.2.2.2.2.1)), (a_md_any, .inl (cJ, 9, .inr (.inl v1.2.2.2.2.2.2.2.2.2.2.2.2.2.1))), (a_md_all, .inl (cJ, 9, .inr (.inl v1.2.2.2.2.2.2.2.2.2.2.2.2.2.2)))] := hD
    refine lv_aload_n hx hb dX5_tell_83 rfl (lv_at hl 0 rfl) ?_
    refine va_get (ci := 5) (v := .int v1.2.1) (C := RX5) (T := TX5) (N := 29) hx hb hts inX5 hown hK hP 0 rfl rfl 2 (by decide) lk2 (fun _ h9 => h9) rfl dX5_tell_84 ?_
    refine lv_aload_n hx hb dX5_tell_87 rfl (lv_at hl 0 rfl) ?_
    refine va_get (ci := 5) (v := .int v1.2.2.1) (C := RX5) (T := TX5) (N := 29) hx hb hts inX5 hown hK hP 0 rfl rfl 3 (by decide) lk4 (fun _ h9 => h9) rfl dX5_tell_88 ?_
    refine lv_iadd hx hb dX5_tell_91 ?_
    obtain rfl := Option.some.inj hf
    exact hret trivial _ _ _ _ hP hD hS dX5_tell_92
  · have hf := zk_f c9 hf
    refine lv_bipush (v := (-10 : Int32)) hx hb dX5_tell_9 (by decide) ?_
    refine lv_iload_n hx hb dX5_tell_11 rfl (lv_at hl 0 rfl) ?_
    refine lv_isub hx hb dX5_tell_12 ?_
    obtain rfl := Option.some.inj hf
    exact hret trivial _ _ _ _ hP hD hS dX5_tell_13
def zf_X5_question (v_md_length : Int32) (v_md_question : Int64) (v_md_said : Int64) (f_md_text : Nat → Int32) (f_md_opened : Nat → Int32) (f_md_any : Nat → Int64) (f_md_all : Nat → Int64) : Option (Int32 × Int32 × Int64 × Int32 × Int32 × Int32 × Int32 × Int32 × Int64 × (Nat → Int32) × (Nat → Int64) × (Nat → Int64)) :=
  (zf_X5_token v_md_length (0 : Int32) f_md_text).bind (fun v1 =>
  (zf_X5_saying v_md_length v1.1 v1.2.1 v1.2.2 v_md_said f_md_text f_md_opened f_md_any f_md_all).bind (fun v2 =>
  if 0 ≤ v2.1 then
  some ((-10 : Int32) - v2.2.1, v_md_length, v_md_question, v2.2.1, v2.2.2.1, v2.2.2.2.1, v2.2.2.2.2.1, v2.2.2.2.2.2.1, v2.2.2.2.2.2.2.1, v2.2.2.2.2.2.2.2.1, v2.2.2.2.2.2.2.2.2.1, v2.2.2.2.2.2.2.2.2.2)
  else
  if v2.2.2.2.1 = 0 then
  some ((1 : Int32), (0 : Int32), v2.2.2.2.2.2.2.1, v2.2.1, v2.2.2.1, v2.2.2.2.1, v2.2.2.2.2.1, v2.2.2.2.2.2.1, v2.2.2.2.2.2.2.1, v2.2.2.2.2.2.2.2.1, v2.2.2.2.2.2.2.2.2.1, v2.2.2.2.2.2.2.2.2.2)
  else
  some ((-10 : Int32) - v2.2.1, v_md_length, v_md_question, v2.2.1, v2.2.2.1, v2.2.2.2.1, v2.2.2.2.2.1, v2.2.2.2.2.2.1, v2.2.2.2.2.2.2.1, v2.2.2.2.2.2.2.2.1, v2.2.2.2.2.2.2.2.2.1, v2.2.2.2.2.2.2.2.2.2)))
theorem hd_X5_question : yX5_question.cls = RX5 ∧ yX5_question.cls ≠ "java/lang/invoke/MethodHandle" ∧ yX5_question.cls ≠ "java/lang/invoke/VarHandle" ∧ (parseMethodDescriptor yX5_question.desc).map (fun d => d.parameters.length) = some 0 := by decide +kernel
set_option maxHeartbeats 4000000 in
set_option maxRecDepth 100000 in
theorem zc_X5_question (l : Launch) (D : va_G) (tL tO : Nat) (cI cJ cB cQ : ClassId) (a_md a_md_text a_md_weight a_md_says a_md_cost a_md_readWeight a_md_readSays a_md_opened a_md_any a_md_all a_md_burdens a_md_best a_md_own a_md_truth : Nat) (v_md_length : Int32) (v_md_laws : Int32) (v_md_sayers : Int32) (v_md_there : Int64) (v_md_question : Int64) (v_md_measure : Int32) (v_md_trace : Int64) (v_md_readLaws : Int32) (v_md_readSayers : Int32) (v_md_readThere : Int64) (v_md_begin : Int32) (v_md_end : Int32) (v_md_sort : Int32) (v_md_open : Int32) (v_md_level : Int32) (v_md_said : Int64) (f_md_text : Nat → Int32) (f_md_opened : Nat → Int32) (f_md_any : Nat → Int64) (f_md_all : Nat → Int64) (z : Int32 × Int32 × Int64 × Int32 × Int32 × Int32 × Int32 × Int32 × Int64 × (Nat → Int32) × (Nat → Int64) × (Nat → Int64)) (hf : zf_X5_question v_md_length v_md_question v_md_said f_md_text f_md_opened f_md_any f_md_all = some z) : zk_CT l D tL tO (zk_ty cI cJ cB cQ) yX5_question wsX5_question 4 91 [.ref a_md] (some (.int z.1)) [(a_md, .inr (5, [.int v_md_length, .ref a_md_text, .int v_md_laws, .int v_md_sayers, .long v_md_there, .long v_md_question, .ref a_md_weight, .ref a_md_says, .ref a_md_cost, .int v_md_measure, .long v_md_trace, .int v_md_readLaws, .int v_md_readSayers, .long v_md_readThere, .ref a_md_readWeight, .ref a_md_readSays, .int v_md_begin, .int v_md_end, .int v_md_sort, .int v_md_open, .ref a_md_opened, .int v_md_level, .ref a_md_any, .ref a_md_all, .long v_md_said, .ref a_md_burdens, .ref a_md_best, .ref a_md_own, .ref a_md_truth])), (a_md_text, .inl (cB, 300, .inl f_md_text)), (a_md_opened, .inl (cI, 9, .inl f_md_opened)), (a_md_any, .inl (cJ, 9, .inr (.inl f_md_any))), (a_md_all, .inl (cJ, 9, .inr (.inl f_md_all)))] [(a_md, .inr (5, [.int z.2.1, .ref a_md_text, .int v_md_laws, .int v_md_sayers, .long v_md_there, .long z.2.2.1, .ref a_md_weight, .ref a_md_says, .ref a_md_cost, .int v_md_measure, .long v_md_trace, .int v_md_readLaws, .int v_md_readSayers, .long v_md_readThere, .ref a_md_readWeight, .ref a_md_readSays, .int z.2.2.2.1, .int z.2.2.2.2.1, .int z.2.2.2.2.2.1, .int z.2.2.2.2.2.2.1, .ref a_md_opened, .int z.2.2.2.2.2.2.2.1, .ref a_md_any, .ref a_md_all, .long z.2.2.2.2.2.2.2.2.1, .ref a_md_burdens, .ref a_md_best, .ref a_md_own, .ref a_md_truth])), (a_md_text, .inl (cB, 300, .inl f_md_text)), (a_md_opened, .inl (cI, 9, .inl z.2.2.2.2.2.2.2.2.2.1)), (a_md_any, .inl (cJ, 9, .inr (.inl z.2.2.2.2.2.2.2.2.2.2.1))), (a_md_all, .inl (cJ, 9, .inr (.inl z.2.2.2.2.2.2.2.2.2.2.2)))] := by
  refine zk_of_i (cc := cX5_question) (maxL := 2) (by decide) rfl (Nat.le_of_ble_eq_true rfl) ?_
  intro p e R s m args below meth c A Q ls hx hb hml hRf hRl hts hown hP hK hD hA hS hG hl hret
  have hl : lv_has ls 2 [(0, .ref a_md)] := hl
  have hown : s.vm.findClass RX5 = some m.cls := hown
  have hcs : 0 ≤ R.cells ∧ 0 ≤ R.slots := ⟨Nat.zero_le _, Nat.zero_le _⟩
  have lk0 := hts (.fieldLink RX5 78 "SayingsMergedModel" "end" "I") (by decide +kernel)
  have inX5 : ∀ w ∈ wsX50, w ∈ wsX5_question := by decide +kernel
  have lk2 := hts (.fieldLink RX5 81 "SayingsMergedModel" "begin" "I") (by decide +kernel)
  have lk3 := hts (.fieldLink RX5 84 "SayingsMergedModel" "sort" "I") (by decide +kernel)
  have lk4 := hts (.fieldLink RX5 115 "SayingsMergedModel" "said" "J") (by decide +kernel)
  have lk5 := hts (.fieldLink RX5 19 "SayingsMergedModel" "question" "J") (by decide +kernel)
  have lk6 := hts (.fieldLink RX5 70 "SayingsMergedModel" "length" "I") (by decide +kernel)
  unfold zf_X5_question at hf
  refine lv_aload_n hx hb dX5_question_0 rfl (lv_at hl 0 rfl) ?_
  refine lv_iconst (v := (0 : Int32)) hx hb dX5_question_1 (by decide) ?_
  refine va_put (ci := 5) (v := .int (0 : Int32)) (ty := .int) (C := RX5) (T := TX5) (N := 29) hx hb hts inX5 tyX5 tyX5_ok nmX5 hown hK hP hD hS 0 rfl rfl 17 (by decide) lk0 (fun _ h9 => h9) rfl (by decide +kernel) rfl rfl (Nat.le_of_ble_eq_true rfl) dX5_question_2 (fun H locs hP hD hS => ?_)
  have hP : va_P D vwCl [(a_md, .inr (5, [.int v_md_length, .ref a_md_text, .int v_md_laws, .int v_md_sayers, .long v_md_there, .long v_md_question, .ref a_md_weight, .ref a_md_says, .ref a_md_cost, .int v_md_measure, .long v_md_trace, .int v_md_readLaws, .int v_md_readSayers, .long v_md_readThere, .ref a_md_readWeight, .ref a_md_readSays, .int v_md_begin, .int (0 : Int32), .int v_md_sort, .int v_md_open, .ref a_md_opened, .int v_md_level, .ref a_md_any, .ref a_md_all, .long v_md_said, .ref a_md_burdens, .ref a_md_best, .ref a_md_own, .ref a_md_truth])), (a_md_text, .inl (cB, 300, .inl f_md_text)), (a_md_opened, .inl (cI, 9, .inl f_md_opened)), (a_md_any, .inl (cJ, 9, .inr (.inl f_md_any))), (a_md_all, .inl (cJ, 9, .inr (.inl f_md_all)))] H := hP
  have hD : va_D A [(a_md, .inr (5, [.int v_md_length, .ref a_md_text, .int v_md_laws, .int v_md_sayers, .long v_md_there, .long v_md_question, .ref a_md_weight, .ref a_md_says, .ref a_md_cost, .int v_md_measure, .long v_md_trace, .int v_md_readLaws, .int v_md_readSayers, .long v_md_readThere, .ref a_md_readWeight, .ref a_md_readSays, .int v_md_begin, .int (0 : Int32), .int v_md_sort, .int v_md_open, .ref a_md_opened, .int v_md_level, .ref a_md_any, .ref a_md_all, .long v_md_said, .ref a_md_burdens, .ref a_md_best, .ref a_md_own, .ref a_md_truth])), (a_md_text, .inl (cB, 300, .inl f_md_text)), (a_md_opened, .inl (cI, 9, .inl f_md_opened)), (a_md_any, .inl (cJ, 9, .inr (.inl f_md_any))), (a_md_all, .inl (cJ, 9, .inr (.inl f_md_all)))] := hD
  refine lv_aload_n hx hb dX5_question_5 rfl (lv_at hl 0 rfl) ?_
  obtain ⟨v1, hv1, hf⟩ := zk_ob hf
  refine zk_go (wr := [(a_md_opened, .inl (cI, 9, .inl f_md_opened)), (a_md_any, .inl (cJ, 9, .inr (.inl f_md_any))), (a_md_all, .inl (cJ, 9, .inr (.inl f_md_all)))]) (w2 := [(a_md, .inr (5, [.int v_md_length, .ref a_md_text, .int v_md_laws, .int v_md_sayers, .long v_md_there, .long v_md_question, .ref a_md_weight, .ref a_md_says, .ref a_md_cost, .int v_md_measure, .long v_md_trace, .int v_md_readLaws, .int v_md_readSayers, .long v_md_readThere, .ref a_md_readWeight, .ref a_md_readSays, .int v1.1, .int v1.2.1, .int v1.2.2, .int v_md_open, .ref a_md_opened, .int v_md_level, .ref a_md_any, .ref a_md_all, .long v_md_said, .ref a_md_burdens, .ref a_md_best, .ref a_md_own, .ref a_md_truth])), (a_md_text, .inl (cB, 300, .inl f_md_text)), (a_md_opened, .inl (cI, 9, .inl f_md_opened)), (a_md_any, .inl (cJ, 9, .inr (.inl f_md_any))), (a_md_all, .inl (cJ, 9, .inr (.inl f_md_all)))]) (zk_V (As := []) (rest := []) hx hb hml hown hts hK hG hP hD hS hA gX5_question_X5_token rfl hd_X5_token (Nat.le_trans (Nat.le_of_ble_eq_true rfl) hRf) (Nat.le_trans (Nat.le_of_ble_eq_true rfl) hRl) hcs (zc_X5_token l D tL tO cI cJ cB cQ a_md a_md_text a_md_weight a_md_says a_md_cost a_md_readWeight a_md_readSays a_md_opened a_md_any a_md_all a_md_burdens a_md_best a_md_own a_md_truth v_md_length v_md_laws v_md_sayers v_md_there v_md_question v_md_measure v_md_trace v_md_readLaws v_md_readSayers v_md_readThere v_md_begin (0 : Int32) v_md_sort v_md_open v_md_level v_md_said f_md_text v1 hv1) rfl rfl 0 rfl hl.1 rfl rfl (Nat.le_of_ble_eq_true rfl) dX5_question_6 [0, 1] rfl rfl) hP hD hS hA [0, 1] [2, 3, 4] [3, 4, 0, 1, 2] rfl rfl rfl (by decide) rfl rfl (fun H locs hP hD hS => ?_)
  refine lv_aload_n hx hb dX5_question_9 rfl (lv_at hl 0 rfl) ?_
  obtain ⟨v2, hv2, hf⟩ := zk_ob hf
  refine zk_go (wr := []) (w2 := [(a_md, .inr (5, [.int v_md_length, .ref a_md_text, .int v_md_laws, .int v_md_sayers, .long v_md_there, .long v_md_question, .ref a_md_weight, .ref a_md_says, .ref a_md_cost, .int v_md_measure, .long v_md_trace, .int v_md_readLaws, .int v_md_readSayers, .long v_md_readThere, .ref a_md_readWeight, .ref a_md_readSays, .int v2.2.1, .int v2.2.2.1, .int v2.2.2.2.1, .int v2.2.2.2.2.1, .ref a_md_opened, .int v2.2.2.2.2.2.1, .ref a_md_any, .ref a_md_all, .long v2.2.2.2.2.2.2.1, .ref a_md_burdens, .ref a_md_best, .ref a_md_own, .ref a_md_truth])), (a_md_text, .inl (cB, 300, .inl f_md_text)), (a_md_opened, .inl (cI, 9, .inl v2.2.2.2.2.2.2.2.1)), (a_md_any, .inl (cJ, 9, .inr (.inl v2.2.2.2.2.2.2.2.2.1))), (a_md_all, .inl (cJ, 9, .inr (.inl v2.2.2.2.2.2.2.2.2.2)))]) (zk_V (As := []) (rest := []) hx hb hml hown hts hK hG hP hD hS hA gX5_question_X5_saying rfl hd_X5_saying (Nat.le_trans (Nat.le_of_ble_eq_true rfl) hRf) (Nat.le_trans (Nat.le_of_ble_eq_true rfl) hRl) hcs (zc_X5_saying l D tL tO cI cJ cB cQ a_md a_md_text a_md_weight a_md_says a_md_cost a_md_readWeight a_md_readSays a_md_opened a_md_any a_md_all a_md_burdens a_md_best a_md_own a_md_truth v_md_length v_md_laws v_md_sayers v_md_there v_md_question v_md_measure v_md_trace v_md_readLaws v_md_readSayers v_md_readThere v1.1 v1.2.1 v1.2.2 v_md_open v_md_level v_md_said f_md_text f_md_opened f_md_any f_md_all v2 hv2) rfl rfl 0 rfl hl.1 rfl rfl (Nat.le_of_ble_eq_true rfl) dX5_question_10 [0, 1, 2, 3, 4] rfl rfl) hP hD hS hA [0, 1, 2, 3, 4] [] [0, 1, 2, 3, 4] rfl rfl rfl (by decide) rfl rfl (fun H locs hP hD hS => ?_)
  refine lv_istore_n (lv' := [(1, .int v2.1), (0, .ref a_md)]) hx hb dX5_question_13 rfl hl (by decide) rfl (fun ls hl => ?_)
  refine lv_iload_n hx hb dX5_question_14 rfl (lv_at hl 0 rfl) ?_
  refine lv_if_ge (tgt := 25) hx hb dX5_question_15 (by decide) (fun c4 => ?_) (fun c4 => ?_)
  · have hf := zk_t c4 hf
    refine lv_bipush (v := (-10 : Int32)) hx hb dX5_question_25 (by decide) ?_
    refine lv_aload_n hx hb dX5_question_27 rfl (lv_at hl 1 rfl) ?_
    refine va_get (ci := 5) (v := .int v2.2.1) (C := RX5) (T := TX5) (N := 29) hx hb hts inX5 hown hK hP 0 rfl rfl 16 (by decide) lk2 (fun _ h9 => h9) rfl dX5_question_28 ?_
    refine lv_isub hx hb dX5_question_31 ?_
    obtain rfl := Option.some.inj hf
    exact hret trivial _ _ _ _ hP hD hS dX5_question_32
  · have hf := zk_f c4 hf
    refine lv_aload_n hx hb dX5_question_18 rfl (lv_at hl 1 rfl) ?_
    refine va_get (ci := 5) (v := .int v2.2.2.2.1) (C := RX5) (T := TX5) (N := 29) hx hb hts inX5 hown hK hP 0 rfl rfl 18 (by decide) lk3 (fun _ h9 => h9) rfl dX5_question_19 ?_
    refine lv_if_eq (tgt := 33) hx hb dX5_question_22 (by decide) (fun c3 => ?_) (fun c3 => ?_)
    · have hf := zk_t c3 hf
      refine lv_aload_n hx hb dX5_question_33 rfl (lv_at hl 1 rfl) ?_
      refine lv_aload_n hx hb dX5_question_34 rfl (lv_at hl 1 rfl) ?_
      refine va_get (ci := 5) (v := .long v2.2.2.2.2.2.2.1) (C := RX5) (T := TX5) (N := 29) hx hb hts inX5 hown hK hP 0 rfl rfl 24 (by decide) lk4 (fun _ h9 => h9) rfl dX5_question_35 ?_
      refine va_put (ci := 5) (v := .long v2.2.2.2.2.2.2.1) (ty := .long) (C := RX5) (T := TX5) (N := 29) hx hb hts inX5 tyX5 tyX5_ok nmX5 hown hK hP hD hS 0 rfl rfl 5 (by decide) lk5 (fun _ h9 => h9) rfl (by decide +kernel) rfl rfl (Nat.le_of_ble_eq_true rfl) dX5_question_38 (fun H locs hP hD hS => ?_)
      have hP : va_P D vwCl [(a_md, .inr (5, [.int v_md_length, .ref a_md_text, .int v_md_laws, .int v_md_sayers, .long v_md_there, .long v2.2.2.2.2.2.2.1, .ref a_md_weight, .ref a_md_says, .ref a_md_cost, .int v_md_measure, .long v_md_trace, .int v_md_readLaws, .int v_md_readSayers, .long v_md_readThere, .ref a_md_readWeight, .ref a_md_readSays, .int v2.2.1, .int v2.2.2.1, .int v2.2.2.2.1, .int v2.2.2.2.2.1, .ref a_md_opened, .int v2.2.2.2.2.2.1, .ref a_md_any, .ref a_md_all, .long v2.2.2.2.2.2.2.1, .ref a_md_burdens, .ref a_md_best, .ref a_md_own, .ref a_md_truth])), (a_md_text, .inl (cB, 300, .inl f_md_text)), (a_md_opened, .inl (cI, 9, .inl v2.2.2.2.2.2.2.2.1)), (a_md_any, .inl (cJ, 9, .inr (.inl v2.2.2.2.2.2.2.2.2.1))), (a_md_all, .inl (cJ, 9, .inr (.inl v2.2.2.2.2.2.2.2.2.2)))] H := hP
      have hD : va_D A [(a_md, .inr (5, [.int v_md_length, .ref a_md_text, .int v_md_laws, .int v_md_sayers, .long v_md_there, .long v2.2.2.2.2.2.2.1, .ref a_md_weight, .ref a_md_says, .ref a_md_cost, .int v_md_measure, .long v_md_trace, .int v_md_readLaws, .int v_md_readSayers, .long v_md_readThere, .ref a_md_readWeight, .ref a_md_readSays, .int v2.2.1, .int v2.2.2.1, .int v2.2.2.2.1, .int v2.2.2.2.2.1, .ref a_md_opened, .int v2.2.2.2.2.2.1, .ref a_md_any, .ref a_md_all, .long v2.2.2.2.2.2.2.1, .ref a_md_burdens, .ref a_md_best, .ref a_md_own, .ref a_md_truth])), (a_md_text, .inl (cB, 300, .inl f_md_text)), (a_md_opened, .inl (cI, 9, .inl v2.2.2.2.2.2.2.2.1)), (a_md_any, .inl (cJ, 9, .inr (.inl v2.2.2.2.2.2.2.2.2.1))), (a_md_all, .inl (cJ, 9, .inr (.inl v2.2.2.2.2.2.2.2.2.2)))] := hD
      refine lv_aload_n hx hb dX5_question_41 rfl (lv_at hl 1 rfl) ?_
      refine lv_iconst (v := (0 : Int32)) hx hb dX5_question_42 (by decide) ?_
      refine va_put (ci := 5) (v := .int (0 : Int32)) (ty := .int) (C := RX5) (T := TX5) (N := 29) hx hb hts inX5 tyX5 tyX5_ok nmX5 hown hK hP hD hS 0 rfl rfl 0 (by decide) lk6 (fun _ h9 => h9) rfl (by decide +kernel) rfl rfl (Nat.le_of_ble_eq_true rfl) dX5_question_43 (fun H locs hP hD hS => ?_)
      have hP : va_P D vwCl [(a_md, .inr (5, [.int (0 : Int32), .ref a_md_text, .int v_md_laws, .int v_md_sayers, .long v_md_there, .long v2.2.2.2.2.2.2.1, .ref a_md_weight, .ref a_md_says, .ref a_md_cost, .int v_md_measure, .long v_md_trace, .int v_md_readLaws, .int v_md_readSayers, .long v_md_readThere, .ref a_md_readWeight, .ref a_md_readSays, .int v2.2.1, .int v2.2.2.1, .int v2.2.2.2.1, .int v2.2.2.2.2.1, .ref a_md_opened, .int v2.2.2.2.2.2.1, .ref a_md_any, .ref a_md_all, .long v2.2.2.2.2.2.2.1, .ref a_md_burdens, .ref a_md_best, .ref a_md_own, .ref a_md_truth])), (a_md_text, .inl (cB, 300, .inl f_md_text)), (a_md_opened, .inl (cI, 9, .inl v2.2.2.2.2.2.2.2.1)), (a_md_any, .inl (cJ, 9, .inr (.inl v2.2.2.2.2.2.2.2.2.1))), (a_md_all, .inl (cJ, 9, .inr (.inl v2.2.2.2.2.2.2.2.2.2)))] H := hP
      have hD : va_D A [(a_md, .inr (5, [.int (0 : Int32), .ref a_md_text, .int v_md_laws, .int v_md_sayers, .long v_md_there, .long v2.2.2.2.2.2.2.1, .ref a_md_weight, .ref a_md_says, .ref a_md_cost, .int v_md_measure, .long v_md_trace, .int v_md_readLaws, .int v_md_readSayers, .long v_md_readThere, .ref a_md_readWeight, .ref a_md_readSays, .int v2.2.1, .int v2.2.2.1, .int v2.2.2.2.1, .int v2.2.2.2.2.1, .ref a_md_opened, .int v2.2.2.2.2.2.1, .ref a_md_any, .ref a_md_all, .long v2.2.2.2.2.2.2.1, .ref a_md_burdens, .ref a_md_best, .ref a_md_own, .ref a_md_truth])), (a_md_text, .inl (cB, 300, .inl f_md_text)), (a_md_opened, .inl (cI, 9, .inl v2.2.2.2.2.2.2.2.1)), (a_md_any, .inl (cJ, 9, .inr (.inl v2.2.2.2.2.2.2.2.2.1))), (a_md_all, .inl (cJ, 9, .inr (.inl v2.2.2.2.2.2.2.2.2.2)))] := hD
      refine lv_iconst (v := (1 : Int32)) hx hb dX5_question_46 (by decide) ?_
      obtain rfl := Option.some.inj hf
      exact hret trivial _ _ _ _ hP hD hS dX5_question_47
    · have hf := zk_f c3 hf
      refine lv_bipush (v := (-10 : Int32)) hx hb dX5_question_25 (by decide) ?_
      refine lv_aload_n hx hb dX5_question_27 rfl (lv_at hl 1 rfl) ?_
      refine va_get (ci := 5) (v := .int v2.2.1) (C := RX5) (T := TX5) (N := 29) hx hb hts inX5 hown hK hP 0 rfl rfl 16 (by decide) lk2 (fun _ h9 => h9) rfl dX5_question_28 ?_
      refine lv_isub hx hb dX5_question_31 ?_
      obtain rfl := Option.some.inj hf
      exact hret trivial _ _ _ _ hP hD hS dX5_question_32
