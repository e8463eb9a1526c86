def zl_X4_type_36 (x0 : Int64) : Nat → (Int32) → (Int32) → (Nat → Int32) → Option (Int32 × Int32 × (Nat → Int32))
  | 0, _, _, _ => none
  | n + 1, w2, w3, w4 =>
    if w2 < 0 then
    some (w2, w3, w4)
    else
    (zf_X2_append ((((x0.toUInt64 >>> (((8 : Int32) * w2).toInt64.toUInt64 &&& Int64.toUInt64 63)).toInt64).toInt32) &&& (255 : Int32)) w3 w4).bind (fun v5 =>
    zk_lt (w2 + (-1)) (fun y6 =>
    zl_X4_type_36 x0 n y6 v5.1 v5.2))
def zf_X4_type (x0 : Int64) (x1 : Int32) (v_tx_length : Int32) (f_tx_bytes : Nat → Int32) : Option (Int32 × Int32 × (Nat → Int32)) :=
  if x1 < (1 : Int32) then
  some ((-1 : Int32), v_tx_length, f_tx_bytes)
  else
  if x1 ≤ (8 : Int32) then
  if (v_tx_length + x1) ≤ (300 : Int32) then
  zk_lt (x1 - (1 : Int32)) (fun y1 =>
  (zl_X4_type_36 x0 zk_F y1 v_tx_length f_tx_bytes).bind (fun v8 =>
  some (v8.2.1, v8.2.1, v8.2.2)))
  else
  some ((-3 : Int32), v_tx_length, f_tx_bytes)
  else
  some ((-1 : Int32), v_tx_length, f_tx_bytes)
theorem hd_X4_type : yX4_type.cls = RX4 ∧ yX4_type.cls ≠ "java/lang/invoke/MethodHandle" ∧ yX4_type.cls ≠ "java/lang/invoke/VarHandle" ∧ (parseMethodDescriptor yX4_type.desc).map (fun d => d.parameters.length) = some 2 := by decide +kernel
set_option maxHeartbeats 4000000 in
set_option maxRecDepth 100000 in
theorem zc_X4_type (l : Launch) (D : va_G) (tL tO : Nat) (cI cJ cB cQ : ClassId) (a_sm a_tx a_rd a_td a_sp a_ds a_sm_fars a_sm_common a_sm_others a_sm_scale a_tx_bytes a_tx_tokens a_tx_places : Nat) (x0 : Int64) (x1 : Int32) (v_sm_asked : Int64) (v_sm_traced : Int64) (v_tx_length : Int32) (f_tx_bytes : Nat → Int32) (z : Int32 × Int32 × (Nat → Int32)) (hf : zf_X4_type x0 x1 v_tx_length f_tx_bytes = some z) : zk_CT l D tL tO (zk_ty cI cJ cB cQ) yX4_type wsX4_type 1 21 [.ref a_sm, .long x0, .int x1] (some (.int z.1)) [(a_sm, .inr (4, [.ref a_tx, .ref a_rd, .ref a_td, .ref a_sp, .long v_sm_asked, .ref a_ds, .ref a_sm_fars, .ref a_sm_common, .ref a_sm_others, .ref a_sm_scale, .long v_sm_traced])), (a_tx, .inr (2, [.ref a_tx_bytes, .int v_tx_length, .ref a_tx_tokens, .ref a_tx_places])), (a_tx_bytes, .inl (cI, 300, .inl f_tx_bytes))] [(a_sm, .inr (4, [.ref a_tx, .ref a_rd, .ref a_td, .ref a_sp, .long v_sm_asked, .ref a_ds, .ref a_sm_fars, .ref a_sm_common, .ref a_sm_others, .ref a_sm_scale, .long v_sm_traced])), (a_tx, .inr (2, [.ref a_tx_bytes, .int z.2.1, .ref a_tx_tokens, .ref a_tx_places])), (a_tx_bytes, .inl (cI, 300, .inl z.2.2))] := by
  refine zk_of_i (cc := cX4_type) (maxL := 5) (by decide) rfl (Nat.le_of_ble_eq_true rfl) ?_
  intro p e R s m args below meth c A Q ls hx hb hml hRf hRl hts hown hP hK hD hA hS hG hl hret
  have hl : lv_has ls 5 [(0, .ref a_sm), (1, .long x0), (3, .int x1)] := hl
  have hown : s.vm.findClass RX4 = some m.cls := hown
  have hcs : 0 ≤ R.cells ∧ 0 ≤ R.slots := ⟨Nat.zero_le _, Nat.zero_le _⟩
  have lk0 := hts (.fieldLink RX4 12 "SayingsMerged" "text" "LSayingsMerged$Text;") (by decide +kernel)
  have inX4 : ∀ w ∈ wsX40, w ∈ wsX4_type := by decide +kernel
  have lk2 : (Cond.fieldLinkNest RX4 66 "SayingsMerged$Text" "length" "I" "SayingsMerged").before args s = true := va_Nw.use rfl (hG.1 _ (by decide +kernel))
  have inX2 : ∀ w ∈ wsX20, w ∈ wsX4_type := by decide +kernel
  unfold zf_X4_type at hf
  refine lv_iload_n hx hb dX4_type_0 rfl (lv_at hl 2 rfl) ?_
  refine lv_iconst (v := (1 : Int32)) hx hb dX4_type_1 (by decide) ?_
  refine lv_icmp_lt (tgt := 11) hx hb dX4_type_2 (by decide) (fun c11 => ?_) (fun c11 => ?_)
  · have hf := zk_t c11 hf
    refine lv_iconst (v := (-1 : Int32)) hx hb dX4_type_11 (by decide) ?_
    obtain rfl := Option.some.inj hf
    exact hret trivial _ _ _ _ hP hD hS dX4_type_12
  · have hf := zk_f c11 hf
    refine lv_iload_n hx hb dX4_type_5 rfl (lv_at hl 2 rfl) ?_
    refine lv_bipush (v := (8 : Int32)) hx hb dX4_type_6 (by decide) ?_
    refine lv_icmp_le (tgt := 13) hx hb dX4_type_8 (by decide) (fun c10 => ?_) (fun c10 => ?_)
    · have hf := zk_t c10 hf
      refine lv_aload_n hx hb dX4_type_13 rfl (lv_at hl 0 rfl) ?_
      refine va_get (ci := 4) (v := .ref a_tx) (C := RX4) (T := TX4) (N := 11) hx hb hts inX4 hown hK hP 0 rfl rfl 0 (by decide) lk0 (fun _ h9 => h9) rfl dX4_type_14 ?_
      refine va_getN (ci := 2) (v := .int v_tx_length) (C := RX2) (T := TX2) (N := 4) hx hb hts inX2 hown hK hP 1 rfl rfl 1 (by decide) lk2 (fun _ h9 => h9) rfl dX4_type_17 ?_
      refine lv_iload_n hx hb dX4_type_20 rfl (lv_at hl 2 rfl) ?_
      refine lv_iadd hx hb dX4_type_21 ?_
      refine lv_sipush (v := (300 : Int32)) hx hb dX4_type_22 (by decide) ?_
      refine lv_icmp_le (tgt := 31) hx hb dX4_type_25 (by decide) (fun c9 => ?_) (fun c9 => ?_)
      · have hf := zk_t c9 hf
        refine lv_iload_n hx hb dX4_type_31 rfl (lv_at hl 2 rfl) ?_
        refine lv_iconst (v := (1 : Int32)) hx hb dX4_type_32 (by decide) ?_
        refine lv_isub hx hb dX4_type_33 ?_
        obtain ⟨y1, ey1, hf⟩ := zk_lt_s hf
        refine zk_topi ey1 ?_
        refine lv_istore (lv' := [(4, .int y1), (0, .ref a_sm), (1, .long x0), (3, .int x1)]) hx hb dX4_type_34 hl (by decide) rfl (fun ls hl => ?_)
        have lp36 : ∀ (n : Nat) (w2 : Int32) (w3 : Int32) (w4 : Nat → Int32) (z36 : Int32 × Int32 × (Nat → Int32)) (H : Heap) (locs : List Loc) (ls : Array Slot), zl_X4_type_36 x0 n w2 w3 w4 = some z36 → va_P D vwCl [(a_sm, .inr (4, [.ref a_tx, .ref a_rd, .ref a_td, .ref a_sp, .long v_sm_asked, .ref a_ds, .ref a_sm_fars, .ref a_sm_common, .ref a_sm_others, .ref a_sm_scale, .long v_sm_traced])), (a_tx, .inr (2, [.ref a_tx_bytes, .int w3, .ref a_tx_tokens, .ref a_tx_places])), (a_tx_bytes, .inl (cI, 300, .inl w4))] H → va_D A [(a_sm, .inr (4, [.ref a_tx, .ref a_rd, .ref a_td, .ref a_sp, .long v_sm_asked, .ref a_ds, .ref a_sm_fars, .ref a_sm_common, .ref a_sm_others, .ref a_sm_scale, .long v_sm_traced])), (a_tx, .inr (2, [.ref a_tx_bytes, .int w3, .ref a_tx_tokens, .ref a_tx_places])), (a_tx_bytes, .inl (cI, 300, .inl w4))] → va_S A s.heap H locs → lv_has ls 5 [(0, .ref a_sm), (1, .long x0), (3, .int x1), (4, .int w2)] → (∀ (H : Heap) (locs : List Loc) (ls : Array Slot), va_P D vwCl [(a_sm, .inr (4, [.ref a_tx, .ref a_rd, .ref a_td, .ref a_sp, .long v_sm_asked, .ref a_ds, .ref a_sm_fars, .ref a_sm_common, .ref a_sm_others, .ref a_sm_scale, .long v_sm_traced])), (a_tx, .inr (2, [.ref a_tx_bytes, .int z36.2.1, .ref a_tx_tokens, .ref a_tx_places])), (a_tx_bytes, .inl (cI, 300, .inl z36.2.2))] H → va_D A [(a_sm, .inr (4, [.ref a_tx, .ref a_rd, .ref a_td, .ref a_sp, .long v_sm_asked, .ref a_ds, .ref a_sm_fars, .ref a_sm_common, .ref a_sm_others, .ref a_sm_scale, .long v_sm_traced])), (a_tx, .inr (2, [.ref a_tx_bytes, .int z36.2.1, .ref a_tx_tokens, .ref a_tx_places])), (a_tx_bytes, .inl (cI, 300, .inl z36.2.2))] → va_S A s.heap H locs → lv_has ls 5 [(0, .ref a_sm), (1, .long x0), (3, .int x1), (4, .int z36.1)] → W p l e R s m args below meth c H locs 0 0 Q (F0 m 66 ls [])) → W p l e R s m args below meth c H locs 0 0 Q (F0 m 36 ls []) := by
          intro n
          induction n with
          | zero => intro w2 w3 w4 z36 H locs ls hf; exact absurd (show none = some z36 from hf) (by simp)
          | succ n ih =>
            intro w2 w3 w4 z36 H locs ls hf hP hD hS hl hk
            rw [zl_X4_type_36] at hf
            refine lv_iload hx hb dX4_type_36 (lv_at hl 3 rfl) ?_
            refine lv_if_lt (tgt := 66) hx hb dX4_type_38 (by decide) (fun c7 => ?_) (fun c7 => ?_)
            · have hf := zk_t c7 hf
              obtain rfl := Option.some.inj hf
              exact hk _ _ _ hP hD hS (lv_sub hl [0, 1, 2, 3] rfl)
            · have hf := zk_f c7 hf
              refine lv_aload_n hx hb dX4_type_41 rfl (lv_at hl 0 rfl) ?_
              refine va_get (ci := 4) (v := .ref a_tx) (C := RX4) (T := TX4) (N := 11) hx hb hts inX4 hown hK hP 0 rfl rfl 0 (by decide) lk0 (fun _ h9 => h9) rfl dX4_type_42 ?_
              refine lv_lload_n hx hb dX4_type_45 rfl (lv_at hl 1 rfl) ?_
              refine lv_bipush (v := (8 : Int32)) hx hb dX4_type_46 (by decide) ?_
              refine lv_iload hx hb dX4_type_48 (lv_at hl 3 rfl) ?_
              refine lv_imul hx hb dX4_type_50 ?_
              refine lv_lushr hx hb dX4_type_51 rfl ?_
              refine lv_l2i hx hb dX4_type_52 rfl ?_
              refine lv_sipush (v := (255 : Int32)) hx hb dX4_type_53 (by decide) ?_
              refine lv_iand hx hb dX4_type_56 ?_
              obtain ⟨v5, hv5, hf⟩ := zk_ob hf
              refine zk_go (wr := [(a_sm, .inr (4, [.ref a_tx, .ref a_rd, .ref a_td, .ref a_sp, .long v_sm_asked, .ref a_ds, .ref a_sm_fars, .ref a_sm_common, .ref a_sm_others, .ref a_sm_scale, .long v_sm_traced]))]) (w2 := [(a_sm, .inr (4, [.ref a_tx, .ref a_rd, .ref a_td, .ref a_sp, .long v_sm_asked, .ref a_ds, .ref a_sm_fars, .ref a_sm_common, .ref a_sm_others, .ref a_sm_scale, .long v_sm_traced])), (a_tx, .inr (2, [.ref a_tx_bytes, .int v5.1, .ref a_tx_tokens, .ref a_tx_places])), (a_tx_bytes, .inl (cI, 300, .inl v5.2))]) (zk_V (As := [.int ((((x0.toUInt64 >>> (((8 : Int32) * w2).toInt64.toUInt64 &&& Int64.toUInt64 63)).toInt64).toInt32) &&& (255 : Int32))]) (rest := []) hx hb hml hown hts hK hG hP hD hS hA gX4_type_X2_append rfl hd_X2_append (Nat.le_trans (Nat.le_of_ble_eq_true rfl) hRf) (Nat.le_trans (Nat.le_of_ble_eq_true rfl) hRl) hcs (zc_X2_append l D tL tO cI cJ cB cQ a_tx a_tx_bytes a_tx_tokens a_tx_places ((((x0.toUInt64 >>> (((8 : Int32) * w2).toInt64.toUInt64 &&& Int64.toUInt64 63)).toInt64).toInt32) &&& (255 : Int32)) w3 w4 v5 hv5) rfl rfl 1 rfl hl.1 rfl rfl (Nat.le_of_ble_eq_true rfl) dX4_type_57 [1, 2] rfl rfl) hP hD hS hA [1, 2] [0] [0, 1, 2] rfl rfl rfl (by decide) rfl rfl (fun H locs hP hD hS => ?_)
              obtain ⟨y6, ey6, hf⟩ := zk_lt_s hf
              refine lv_iinc (v := y6) (lv' := [(4, .int y6), (0, .ref a_sm), (1, .long x0), (3, .int x1)]) hx hb dX4_type_60 hl (k := 3) rfl (by rw [ey6]; rfl) (by decide) rfl (fun ls hl => ?_)
              refine lv_goto (tgt := 36) hx hb dX4_type_63 (by decide) ?_
              exact ih y6 v5.1 v5.2 _ _ _ _ hf hP hD hS (lv_sub hl [1, 2, 3, 0] rfl) hk
        obtain ⟨v8, hv8, hf⟩ := zk_ob hf
        refine lp36 zk_F y1 v_tx_length f_tx_bytes v8 _ _ _ hv8 hP hD hS (lv_sub hl [1, 2, 3, 0] rfl) ?_
        intro H locs ls hP hD hS hl
        refine lv_aload_n hx hb dX4_type_66 rfl (lv_at hl 0 rfl) ?_
        refine va_get (ci := 4) (v := .ref a_tx) (C := RX4) (T := TX4) (N := 11) hx hb hts inX4 hown hK hP 0 rfl rfl 0 (by decide) lk0 (fun _ h9 => h9) rfl dX4_type_67 ?_
        refine va_getN (ci := 2) (v := .int v8.2.1) (C := RX2) (T := TX2) (N := 4) hx hb hts inX2 hown hK hP 1 rfl rfl 1 (by decide) lk2 (fun _ h9 => h9) rfl dX4_type_70 ?_
        obtain rfl := Option.some.inj hf
        exact hret trivial _ _ _ _ hP hD hS dX4_type_73
      · have hf := zk_f c9 hf
        refine lv_bipush (v := (-3 : Int32)) hx hb dX4_type_28 (by decide) ?_
        obtain rfl := Option.some.inj hf
        exact hret trivial _ _ _ _ hP hD hS dX4_type_30
    · have hf := zk_f c10 hf
      refine lv_iconst (v := (-1 : Int32)) hx hb dX4_type_11 (by decide) ?_
      obtain rfl := Option.some.inj hf
      exact hret trivial _ _ _ _ hP hD hS dX4_type_12
def zf_X4_clear (v_tx_length : Int32) : Option (Int32 × Int32) :=
  some (v_tx_length, (0 : Int32))
theorem hd_X4_clear : yX4_clear.cls = RX4 ∧ yX4_clear.cls ≠ "java/lang/invoke/MethodHandle" ∧ yX4_clear.cls ≠ "java/lang/invoke/VarHandle" ∧ (parseMethodDescriptor yX4_clear.desc).map (fun d => d.parameters.length) = some 0 := by decide +kernel
set_option maxHeartbeats 4000000 in
set_option maxRecDepth 100000 in
theorem zc_X4_clear (l : Launch) (D : va_G) (tL tO : Nat) (cI cJ cB cQ : ClassId) (a_sm a_tx a_rd a_td a_sp a_ds a_sm_fars a_sm_common a_sm_others a_sm_scale a_tx_bytes a_tx_tokens a_tx_places : Nat) (v_sm_asked : Int64) (v_sm_traced : Int64) (v_tx_length : Int32) (z : Int32 × Int32) (hf : zf_X4_clear v_tx_length = some z) : zk_CT l D tL tO (zk_ty cI cJ cB cQ) yX4_clear wsX4_clear 0 0 [.ref a_sm] (some (.int z.1)) [(a_sm, .inr (4, [.ref a_tx, .ref a_rd, .ref a_td, .ref a_sp, .long v_sm_asked, .ref a_ds, .ref a_sm_fars, .ref a_sm_common, .ref a_sm_others, .ref a_sm_scale, .long v_sm_traced])), (a_tx, .inr (2, [.ref a_tx_bytes, .int v_tx_length, .ref a_tx_tokens, .ref a_tx_places]))] [(a_sm, .inr (4, [.ref a_tx, .ref a_rd, .ref a_td, .ref a_sp, .long v_sm_asked, .ref a_ds, .ref a_sm_fars, .ref a_sm_common, .ref a_sm_others, .ref a_sm_scale, .long v_sm_traced])), (a_tx, .inr (2, [.ref a_tx_bytes, .int z.2, .ref a_tx_tokens, .ref a_tx_places]))] := by
  refine zk_of_i (cc := cX4_clear) (maxL := 2) (by decide) rfl (Nat.le_of_ble_eq_true rfl) ?_
  intro p e R s m args below meth c A Q ls hx hb hml hRf hRl hts hown hP hK hD hA hS hG hl hret
  have hl : lv_has ls 2 [(0, .ref a_sm)] := hl
  have hown : s.vm.findClass RX4 = some m.cls := hown
  have hcs : 0 ≤ R.cells ∧ 0 ≤ R.slots := ⟨Nat.zero_le _, Nat.zero_le _⟩
  have lk0 := hts (.fieldLink RX4 12 "SayingsMerged" "text" "LSayingsMerged$Text;") (by decide +kernel)
  have inX4 : ∀ w ∈ wsX40, w ∈ wsX4_clear := by decide +kernel
  have lk2 : (Cond.fieldLinkNest RX4 66 "SayingsMerged$Text" "length" "I" "SayingsMerged").before args s = true := va_Nw.use rfl (hG.1 _ (by decide +kernel))
  have inX2 : ∀ w ∈ wsX20, w ∈ wsX4_clear := by decide +kernel
  unfold zf_X4_clear at hf
  refine lv_aload_n hx hb dX4_clear_0 rfl (lv_at hl 0 rfl) ?_
  refine va_get (ci := 4) (v := .ref a_tx) (C := RX4) (T := TX4) (N := 11) hx hb hts inX4 hown hK hP 0 rfl rfl 0 (by decide) lk0 (fun _ h9 => h9) rfl dX4_clear_1 ?_
  refine va_getN (ci := 2) (v := .int v_tx_length) (C := RX2) (T := TX2) (N := 4) hx hb hts inX2 hown hK hP 1 rfl rfl 1 (by decide) lk2 (fun _ h9 => h9) rfl dX4_clear_4 ?_
  refine lv_istore_n (lv' := [(1, .int v_tx_length), (0, .ref a_sm)]) hx hb dX4_clear_7 rfl hl (by decide) rfl (fun ls hl => ?_)
  refine lv_aload_n hx hb dX4_clear_8 rfl (lv_at hl 1 rfl) ?_
  refine va_get (ci := 4) (v := .ref a_tx) (C := RX4) (T := TX4) (N := 11) hx hb hts inX4 hown hK hP 0 rfl rfl 0 (by decide) lk0 (fun _ h9 => h9) rfl dX4_clear_9 ?_
  refine lv_iconst (v := (0 : Int32)) hx hb dX4_clear_12 (by decide) ?_
  refine va_putN (ci := 2) (v := .int (0 : Int32)) (ty := .int) (C := RX2) (T := TX2) (N := 4) hx hb hts inX2 tyX2 tyX2_ok nmX2 hown hK hP hD hS 1 rfl rfl 1 (by decide) lk2 (fun _ h9 => h9) rfl (by decide +kernel) rfl rfl (Nat.le_of_ble_eq_true rfl) dX4_clear_13 (fun H locs hP hD hS => ?_)
  have hP : va_P D vwCl [(a_sm, .inr (4, [.ref a_tx, .ref a_rd, .ref a_td, .ref a_sp, .long v_sm_asked, .ref a_ds, .ref a_sm_fars, .ref a_sm_common, .ref a_sm_others, .ref a_sm_scale, .long v_sm_traced])), (a_tx, .inr (2, [.ref a_tx_bytes, .int (0 : Int32), .ref a_tx_tokens, .ref a_tx_places]))] H := hP
  have hD : va_D A [(a_sm, .inr (4, [.ref a_tx, .ref a_rd, .ref a_td, .ref a_sp, .long v_sm_asked, .ref a_ds, .ref a_sm_fars, .ref a_sm_common, .ref a_sm_others, .ref a_sm_scale, .long v_sm_traced])), (a_tx, .inr (2, [.ref a_tx_bytes, .int (0 : Int32), .ref a_tx_tokens, .ref a_tx_places]))] := hD
  refine lv_iload_n hx hb dX4_clear_16 rfl (lv_at hl 0 rfl) ?_
  obtain rfl := Option.some.inj hf
  exact hret trivial _ _ _ _ hP hD hS dX4_clear_17
def zf_X4_worlds (x0 : Int32) (x1 : Int32) (v_sm_asked : Int64) (v_td_there : Int64) (v_td_sayers : Int32) (f_td_says : Nat → Int64) : Option (Int64) :=
  if x0 = 0 then
  some v_td_there
  else
  if x0 = 1 then
  (zf_X4_isSayer x1 v_td_sayers).bind (fun v3 =>
  if v3 = 0 then
  some (0 : Int64)
  else
  zk_gd (zk_in x1 7)
  (some (f_td_says x1.toNatClampNeg)))
  else
  if x0 = 2 then
  some v_sm_asked
  else
  some (0 : Int64)
theorem hd_X4_worlds : yX4_worlds.cls = RX4 ∧ yX4_worlds.cls ≠ "java/lang/invoke/MethodHandle" ∧ yX4_worlds.cls ≠ "java/lang/invoke/VarHandle" ∧ (parseMethodDescriptor yX4_worlds.desc).map (fun d => d.parameters.length) = some 2 := by decide +kernel
set_option maxHeartbeats 4000000 in
set_option maxRecDepth 100000 in
theorem zc_X4_worlds (l : Launch) (D : va_G) (tL tO : Nat) (cI cJ cB cQ : ClassId) (a_sm a_tx a_rd a_td a_sp a_ds a_sm_fars a_sm_common a_sm_others a_sm_scale a_td_says a_td_weights : Nat) (x0 : Int32) (x1 : Int32) (v_sm_asked : Int64) (v_sm_traced : Int64) (v_td_laws : Int32) (v_td_there : Int64) (v_td_sayers : Int32) (f_td_says : Nat → Int64) (z : Int64) (hf : zf_X4_worlds x0 x1 v_sm_asked v_td_there v_td_sayers f_td_says = some z) : zk_CT l D tL tO (zk_ty cI cJ cB cQ) yX4_worlds wsX4_worlds 1 21 [.ref a_sm, .int x0, .int x1] (some (.long z)) [(a_sm, .inr (4, [.ref a_tx, .ref a_rd, .ref a_td, .ref a_sp, .long v_sm_asked, .ref a_ds, .ref a_sm_fars, .ref a_sm_common, .ref a_sm_others, .ref a_sm_scale, .long v_sm_traced])), (a_td, .inr (3, [.int v_td_laws, .long v_td_there, .int v_td_sayers, .ref a_td_says, .ref a_td_weights])), (a_td_says, .inl (cJ, 7, .inr (.inl f_td_says)))] [(a_sm, .inr (4, [.ref a_tx, .ref a_rd, .ref a_td, .ref a_sp, .long v_sm_asked, .ref a_ds, .ref a_sm_fars, .ref a_sm_common, .ref a_sm_others, .ref a_sm_scale, .long v_sm_traced])), (a_td, .inr (3, [.int v_td_laws, .long v_td_there, .int v_td_sayers, .ref a_td_says, .ref a_td_weights])), (a_td_says, .inl (cJ, 7, .inr (.inl f_td_says)))] := by
  refine zk_of_l (cc := cX4_worlds) (maxL := 3) (by decide) rfl (Nat.le_of_ble_eq_true rfl) ?_
  intro p e R s m args below meth c A Q ls hx hb hml hRf hRl hts hown hP hK hD hA hS hG hl hret
  have hl : lv_has ls 3 [(0, .ref a_sm), (1, .int x0), (2, .int x1)] := hl
  have hown : s.vm.findClass RX4 = some m.cls := hown
  have hcs : 0 ≤ R.cells ∧ 0 ≤ R.slots := ⟨Nat.zero_le _, Nat.zero_le _⟩
  have lk0 := hts (.fieldLink RX4 28 "SayingsMerged" "told" "LSayingsMerged$Told;") (by decide +kernel)
  have inX4 : ∀ w ∈ wsX40, w ∈ wsX4_worlds := by decide +kernel
  have lk2 : (Cond.fieldLinkNest RX4 101 "SayingsMerged$Told" "there" "J" "SayingsMerged").before args s = true := va_Nw.use rfl (hG.1 _ (by decide +kernel))
  have inX3 : ∀ w ∈ wsX30, w ∈ wsX4_worlds := by decide +kernel
  have lk4 : (Cond.fieldLinkNest RX4 108 "SayingsMerged$Told" "says" "[J" "SayingsMerged").before args s = true := va_Nw.use rfl (hG.1 _ (by decide +kernel))
  have lk5 := hts (.fieldLink RX4 37 "SayingsMerged" "asked" "J") (by decide +kernel)
  unfold zf_X4_worlds at hf
  refine lv_iload_n hx hb dX4_worlds_0 rfl (lv_at hl 1 rfl) ?_
  by_cases c1 : x0 = 0
  · have hf := zk_t c1 hf
    refine lv_tableIn (off := 27) (tgt := 28) hx hb dX4_worlds_1 (by rw [c1]; decide) (by rw [c1]; decide) (by rw [c1]; rfl) (by decide) ?_
    refine lv_aload_n hx hb dX4_worlds_28 rfl (lv_at hl 0 rfl) ?_
    refine va_get (ci := 4) (v := .ref a_td) (C := RX4) (T := TX4) (N := 11) hx hb hts inX4 hown hK hP 0 rfl rfl 2 (by decide) lk0 (fun _ h9 => h9) rfl dX4_worlds_29 ?_
    refine va_getN (ci := 3) (v := .long v_td_there) (C := RX3) (T := TX3) (N := 5) hx hb hts inX3 hown hK hP 1 rfl rfl 1 (by decide) lk2 (fun _ h9 => h9) rfl dX4_worlds_32 ?_
    obtain rfl := Option.some.inj hf
    exact hret trivial _ _ _ _ hP hD hS dX4_worlds_35
  · have hf := zk_f c1 hf
    by_cases c2 : x0 = 1
    · have hf := zk_t c2 hf
      refine lv_tableIn (off := 35) (tgt := 36) hx hb dX4_worlds_1 (by rw [c2]; decide) (by rw [c2]; decide) (by rw [c2]; rfl) (by decide) ?_
      refine lv_aload_n hx hb dX4_worlds_36 rfl (lv_at hl 0 rfl) ?_
      refine lv_iload_n hx hb dX4_worlds_37 rfl (lv_at hl 2 rfl) ?_
      obtain ⟨v3, hv3, hf⟩ := zk_ob hf
      refine zk_goR (zk_V (As := [.int x1]) (rest := []) hx hb hml hown hts hK hG hP hD hS hA gX4_worlds_X4_isSayer rfl hd_X4_isSayer (Nat.le_trans (Nat.le_of_ble_eq_true rfl) hRf) (Nat.le_trans (Nat.le_of_ble_eq_true rfl) hRl) hcs (zc_X4_isSayer l D tL tO cI cJ cB cQ a_sm a_tx a_rd a_td a_sp a_ds a_sm_fars a_sm_common a_sm_others a_sm_scale a_td_says a_td_weights x1 v_sm_asked v_sm_traced v_td_laws v_td_there v_td_sayers v3 hv3) rfl rfl 0 rfl hl.1 rfl rfl (Nat.le_of_ble_eq_true rfl) dX4_worlds_38 [0, 1] rfl rfl) hP hD hS hA [0, 1] rfl (fun H locs hP hS => ?_)
      refine lv_if_eq (tgt := 56) hx hb dX4_worlds_41 (by decide) (fun c5 => ?_) (fun c5 => ?_)
      · have hf := zk_t c5 hf
        refine lv_lconst (v := (0 : Int64)) hx hb dX4_worlds_56 (by decide) ?_
        obtain rfl := Option.some.inj hf
        exact hret trivial _ _ _ _ hP hD hS dX4_worlds_57
      · have hf := zk_f c5 hf
        refine lv_aload_n hx hb dX4_worlds_44 rfl (lv_at hl 0 rfl) ?_
        refine va_get (ci := 4) (v := .ref a_td) (C := RX4) (T := TX4) (N := 11) hx hb hts inX4 hown hK hP 0 rfl rfl 2 (by decide) lk0 (fun _ h9 => h9) rfl dX4_worlds_45 ?_
        refine va_getN (ci := 3) (v := .ref a_td_says) (C := RX3) (T := TX3) (N := 5) hx hb hts inX3 hown hK hP 1 rfl rfl 3 (by decide) lk4 (fun _ h9 => h9) rfl dX4_worlds_48 ?_
        refine lv_iload_n hx hb dX4_worlds_51 rfl (lv_at hl 2 rfl) ?_
        obtain ⟨g4, hf⟩ := zk_gd_s hf
        refine va_lald hx hb hK hP 2 1 rfl rfl (zk_in_s g4) dX4_worlds_52 ?_
        refine lv_goto (tgt := 57) hx hb dX4_worlds_53 (by decide) ?_
        obtain rfl := Option.some.inj hf
        exact hret trivial _ _ _ _ hP hD hS dX4_worlds_57
    · have hf := zk_f c2 hf
      by_cases c6 : x0 = 2
      · have hf := zk_t c6 hf
        refine lv_tableIn (off := 57) (tgt := 58) hx hb dX4_worlds_1 (by rw [c6]; decide) (by rw [c6]; decide) (by rw [c6]; rfl) (by decide) ?_
        refine lv_aload_n hx hb dX4_worlds_58 rfl (lv_at hl 0 rfl) ?_
        refine va_get (ci := 4) (v := .long v_sm_asked) (C := RX4) (T := TX4) (N := 11) hx hb hts inX4 hown hK hP 0 rfl rfl 4 (by decide) lk5 (fun _ h9 => h9) rfl dX4_worlds_59 ?_
        obtain rfl := Option.some.inj hf
        exact hret trivial _ _ _ _ hP hD hS dX4_worlds_62
      · have hf := zk_f c6 hf
        refine lv_tableOut (tgt := 63) hx hb dX4_worlds_1 (by have h0 := lv_neT c1 (a := 0) (by decide); have h1 := lv_neT c2 (a := 1) (by decide); have h2 := lv_neT c6 (a := 2) (by decide); omega) (by decide) ?_
        refine lv_lconst (v := (0 : Int64)) hx hb dX4_worlds_63 (by decide) ?_
        obtain rfl := Option.some.inj hf
        exact hret trivial _ _ _ _ hP hD hS dX4_worlds_64
def zf_X4_apart (x0 : Int32) (x1 : Int32) (f_ds_lengths : Nat → Int32) : Option (Int32) :=
  (zf_X4_isWorld x0).bind (fun v1 =>
  if v1 = 0 then
  some (-1 : Int32)
  else
  (zf_X4_isWorld x1).bind (fun v2 =>
  if v2 = 0 then
  some (-1 : Int32)
  else
  zk_gd (zk_in (x0 ^^^ x1) 64)
  (some (f_ds_lengths (x0 ^^^ x1).toNatClampNeg))))
theorem hd_X4_apart : yX4_apart.cls = RX4 ∧ yX4_apart.cls ≠ "java/lang/invoke/MethodHandle" ∧ yX4_apart.cls ≠ "java/lang/invoke/VarHandle" ∧ (parseMethodDescriptor yX4_apart.desc).map (fun d => d.parameters.length) = some 2 := by decide +kernel
set_option maxHeartbeats 4000000 in
set_option maxRecDepth 100000 in
theorem zc_X4_apart (l : Launch) (D : va_G) (tL tO : Nat) (cI cJ cB cQ : ClassId) (a_sm a_tx a_rd a_td a_sp a_ds a_sm_fars a_sm_common a_sm_others a_sm_scale a_ds_costs a_ds_lengths : Nat) (x0 : Int32) (x1 : Int32) (v_sm_asked : Int64) (v_sm_traced : Int64) (v_ds_alike : Int32) (f_ds_lengths : Nat → Int32) (z : Int32) (hf : zf_X4_apart x0 x1 f_ds_lengths = some z) : zk_CT l D tL tO (zk_ty cI cJ cB cQ) yX4_apart wsX4_apart 1 20 [.ref a_sm, .int x0, .int x1] (some (.int z)) [(a_sm, .inr (4, [.ref a_tx, .ref a_rd, .ref a_td, .ref a_sp, .long v_sm_asked, .ref a_ds, .ref a_sm_fars, .ref a_sm_common, .ref a_sm_others, .ref a_sm_scale, .long v_sm_traced])), (a_ds, .inr (0, [.ref a_ds_costs, .int v_ds_alike, .ref a_ds_lengths])), (a_ds_lengths, .inl (cI, 64, .inl f_ds_lengths))] [(a_sm, .inr (4, [.ref a_tx, .ref a_rd, .ref a_td, .ref a_sp, .long v_sm_asked, .ref a_ds, .ref a_sm_fars, .ref a_sm_common, .ref a_sm_others, .ref a_sm_scale, .long v_sm_traced])), (a_ds, .inr (0, [.ref a_ds_costs, .int v_ds_alike, .ref a_ds_lengths])), (a_ds_lengths, .inl (cI, 64, .inl f_ds_lengths))] := by
  refine zk_of_i (cc := cX4_apart) (maxL := 3) (by decide) rfl (Nat.le_of_ble_eq_true rfl) ?_
  intro p e R s m args below meth c A Q ls hx hb hml hRf hRl hts hown hP hK hD hA hS hG hl hret
  have hl : lv_has ls 3 [(0, .ref a_sm), (1, .int x0), (2, .int x1)] := hl
  have hown : s.vm.findClass RX4 = some m.cls := hown
  have hcs : 0 ≤ R.cells ∧ 0 ≤ R.slots := ⟨Nat.zero_le _, Nat.zero_le _⟩
  have lk0 := hts (.fieldLink RX4 44 "SayingsMerged" "distances" "LSayingsMerged$Distances;") (by decide +kernel)
  have inX4 : ∀ w ∈ wsX40, w ∈ wsX4_apart := by decide +kernel
  have lk2 : (Cond.fieldLinkNest RX4 122 "SayingsMerged$Distances" "lengths" "[I" "SayingsMerged").before args s = true := va_Nw.use rfl (hG.1 _ (by decide +kernel))
  have inX0 : ∀ w ∈ wsX00, w ∈ wsX4_apart := by decide +kernel
  unfold zf_X4_apart at hf
  refine lv_iload_n hx hb dX4_apart_0 rfl (lv_at hl 1 rfl) ?_
  obtain ⟨v1, hv1, hf⟩ := zk_ob hf
  refine zk_goR (zk_S (As := [.int x0]) (rest := []) hx hb hml hown hts hK hG hP hD hS hA gX4_apart_X4_isWorld rfl hd_X4_isWorld (Nat.le_trans (Nat.le_of_ble_eq_true rfl) hRf) (Nat.le_trans (Nat.le_of_ble_eq_true rfl) hRl) hcs (zc_X4_isWorld l D tL tO cI cJ cB cQ x0 v1 hv1) hl.1 rfl rfl (Nat.le_of_ble_eq_true rfl) dX4_apart_1 [] rfl rfl) hP hD hS hA [] rfl (fun H locs hP hS => ?_)
  refine lv_if_eq (tgt := 14) hx hb dX4_apart_4 (by decide) (fun c5 => ?_) (fun c5 => ?_)
  · have hf := zk_t c5 hf
    refine lv_iconst (v := (-1 : Int32)) hx hb dX4_apart_14 (by decide) ?_
    obtain rfl := Option.some.inj hf
    exact hret trivial _ _ _ _ hP hD hS dX4_apart_15
  · have hf := zk_f c5 hf
    refine lv_iload_n hx hb dX4_apart_7 rfl (lv_at hl 2 rfl) ?_
    obtain ⟨v2, hv2, hf⟩ := zk_ob hf
    refine zk_goR (zk_S (As := [.int x1]) (rest := []) hx hb hml hown hts hK hG hP hD hS hA gX4_apart_X4_isWorld rfl hd_X4_isWorld (Nat.le_trans (Nat.le_of_ble_eq_true rfl) hRf) (Nat.le_trans (Nat.le_of_ble_eq_true rfl) hRl) hcs (zc_X4_isWorld l D tL tO cI cJ cB cQ x1 v2 hv2) hl.1 rfl rfl (Nat.le_of_ble_eq_true rfl) dX4_apart_8 [] rfl rfl) hP hD hS hA [] rfl (fun H locs hP hS => ?_)
    refine lv_if_ne (tgt := 16) hx hb dX4_apart_11 (by decide) (fun c4 => ?_) (fun c4 => ?_)
    · have hf := zk_f c4 hf
      refine lv_aload_n hx hb dX4_apart_16 rfl (lv_at hl 0 rfl) ?_
      refine va_get (ci := 4) (v := .ref a_ds) (C := RX4) (T := TX4) (N := 11) hx hb hts inX4 hown hK hP 0 rfl rfl 5 (by decide) lk0 (fun _ h9 => h9) rfl dX4_apart_17 ?_
      refine va_getN (ci := 0) (v := .ref a_ds_lengths) (C := RX0) (T := TX0) (N := 3) hx hb hts inX0 hown hK hP 1 rfl rfl 2 (by decide) lk2 (fun _ h9 => h9) rfl dX4_apart_20 ?_
      refine lv_iload_n hx hb dX4_apart_23 rfl (lv_at hl 1 rfl) ?_
      refine lv_iload_n hx hb dX4_apart_24 rfl (lv_at hl 2 rfl) ?_
      refine lv_ixor hx hb dX4_apart_25 ?_
      obtain ⟨g3, hf⟩ := zk_gd_s hf
      refine va_iald hx hb hK hP 2 0 rfl rfl (zk_in_s g3) dX4_apart_26 ?_
      obtain rfl := Option.some.inj hf
      exact hret trivial _ _ _ _ hP hD hS dX4_apart_27
    · have hf := zk_t c4 hf
      refine lv_iconst (v := (-1 : Int32)) hx hb dX4_apart_14 (by decide) ?_
      obtain rfl := Option.some.inj hf
      exact hret trivial _ _ _ _ hP hD hS dX4_apart_15
def zf_X4_count (x0 : Int32) (v_tx_length : Int32) (v_td_laws : Int32) (v_td_there : Int64) (v_td_sayers : Int32) (f_td_weights : Nat → Int32) : Option (Int32) :=
  if x0 = 0 then
  some v_td_laws
  else
  if x0 = 1 then
  some v_td_sayers
  else
  if x0 = 2 then
  some v_tx_length
  else
  if x0 = 3 then
  (zf_X3_allWeights v_td_sayers f_td_weights).bind (fun v5 =>
  some v5)
  else
  if x0 = 4 then
  (zf_J13_bitCount_95d88 v_td_there).bind (fun v7 =>
  some v7)
  else
  some (-1 : Int32)
theorem hd_X4_count : yX4_count.cls = RX4 ∧ yX4_count.cls ≠ "java/lang/invoke/MethodHandle" ∧ yX4_count.cls ≠ "java/lang/invoke/VarHandle" ∧ (parseMethodDescriptor yX4_count.desc).map (fun d => d.parameters.length) = some 1 := by decide +kernel
set_option maxHeartbeats 4000000 in
set_option maxRecDepth 100000 in
theorem zc_X4_count (l : Launch) (D : va_G) (tL tO : Nat) (cI cJ cB cQ : ClassId) (a_sm a_tx a_rd a_td a_sp a_ds a_sm_fars a_sm_common a_sm_others a_sm_scale a_tx_bytes a_tx_tokens a_tx_places a_td_says a_td_weights : Nat) (x0 : Int32) (v_sm_asked : Int64) (v_sm_traced : Int64) (v_tx_length : Int32) (v_td_laws : Int32) (v_td_there : Int64) (v_td_sayers : Int32) (f_td_weights : Nat → Int32) (z : Int32) (hf : zf_X4_count x0 v_tx_length v_td_laws v_td_there v_td_sayers f_td_weights = some z) : zk_CT l D tL tO (zk_ty cI cJ cB cQ) yX4_count wsX4_count 1 22 [.ref a_sm, .int x0] (some (.int z)) [(a_sm, .inr (4, [.ref a_tx, .ref a_rd, .ref a_td, .ref a_sp, .long v_sm_asked, .ref a_ds, .ref a_sm_fars, .ref a_sm_common, .ref a_sm_others, .ref a_sm_scale, .long v_sm_traced])), (a_tx, .inr (2, [.ref a_tx_bytes, .int v_tx_length, .ref a_tx_tokens, .ref a_tx_places])), (a_td, .inr (3, [.int v_td_laws, .long v_td_there, .int v_td_sayers, .ref a_td_says, .ref a_td_weights])), (a_td_weights, .inl (cI, 7, .inl f_td_weights))] [(a_sm, .inr (4, [.ref a_tx, .ref a_rd, .ref a_td, .ref a_sp, .long v_sm_asked, .ref a_ds, .ref a_sm_fars, .ref a_sm_common, .ref a_sm_others, .ref a_sm_scale, .long v_sm_traced])), (a_tx, .inr (2, [.ref a_tx_bytes, .int v_tx_length, .ref a_tx_tokens, .ref a_tx_places])), (a_td, .inr (3, [.int v_td_laws, .long v_td_there, .int v_td_sayers, .ref a_td_says, .ref a_td_weights])), (a_td_weights, .inl (cI, 7, .inl f_td_weights))] := by
  refine zk_of_i (cc := cX4_count) (maxL := 2) (by decide) rfl (Nat.le_of_ble_eq_true rfl) ?_
  intro p e R s m args below meth c A Q ls hx hb hml hRf hRl hts hown hP hK hD hA hS hG hl hret
  have hl : lv_has ls 2 [(0, .ref a_sm), (1, .int x0)] := hl
  have hown : s.vm.findClass RX4 = some m.cls := hown
  have hcs : 0 ≤ R.cells ∧ 0 ≤ R.slots := ⟨Nat.zero_le _, Nat.zero_le _⟩
  have lk0 := hts (.fieldLink RX4 28 "SayingsMerged" "told" "LSayingsMerged$Told;") (by decide +kernel)
  have inX4 : ∀ w ∈ wsX40, w ∈ wsX4_count := by decide +kernel
  have lk2 : (Cond.fieldLinkNest RX4 91 "SayingsMerged$Told" "laws" "I" "SayingsMerged").before args s = true := va_Nw.use rfl (hG.1 _ (by decide +kernel))
  have inX3 : ∀ w ∈ wsX30, w ∈ wsX4_count := by decide +kernel
  have lk4 : (Cond.fieldLinkNest RX4 94 "SayingsMerged$Told" "sayers" "I" "SayingsMerged").before args s = true := va_Nw.use rfl (hG.1 _ (by decide +kernel))
  have lk5 := hts (.fieldLink RX4 12 "SayingsMerged" "text" "LSayingsMerged$Text;") (by decide +kernel)
  have lk6 : (Cond.fieldLinkNest RX4 66 "SayingsMerged$Text" "length" "I" "SayingsMerged").before args s = true := va_Nw.use rfl (hG.1 _ (by decide +kernel))
  have inX2 : ∀ w ∈ wsX20, w ∈ wsX4_count := by decide +kernel
  have lk8 : (Cond.fieldLinkNest RX4 101 "SayingsMerged$Told" "there" "J" "SayingsMerged").before args s = true := va_Nw.use rfl (hG.1 _ (by decide +kernel))
  unfold zf_X4_count at hf
  refine lv_iload_n hx hb dX4_count_0 rfl (lv_at hl 1 rfl) ?_
  by_cases c1 : x0 = 0
  · have hf := zk_t c1 hf
    refine lv_tableIn (off := 35) (tgt := 36) hx hb dX4_count_1 (by rw [c1]; decide) (by rw [c1]; decide) (by rw [c1]; rfl) (by decide) ?_
    refine lv_aload_n hx hb dX4_count_36 rfl (lv_at hl 0 rfl) ?_
    refine va_get (ci := 4) (v := .ref a_td) (C := RX4) (T := TX4) (N := 11) hx hb hts inX4 hown hK hP 0 rfl rfl 2 (by decide) lk0 (fun _ h9 => h9) rfl dX4_count_37 ?_
    refine va_getN (ci := 3) (v := .int v_td_laws) (C := RX3) (T := TX3) (N := 5) hx hb hts inX3 hown hK hP 2 rfl rfl 0 (by decide) lk2 (fun _ h9 => h9) rfl dX4_count_40 ?_
    obtain rfl := Option.some.inj hf
    exact hret trivial _ _ _ _ hP hD hS dX4_count_43
  · have hf := zk_f c1 hf
    by_cases c2 : x0 = 1
    · have hf := zk_t c2 hf
      refine lv_tableIn (off := 43) (tgt := 44) hx hb dX4_count_1 (by rw [c2]; decide) (by rw [c2]; decide) (by rw [c2]; rfl) (by decide) ?_
      refine lv_aload_n hx hb dX4_count_44 rfl (lv_at hl 0 rfl) ?_
      refine va_get (ci := 4) (v := .ref a_td) (C := RX4) (T := TX4) (N := 11) hx hb hts inX4 hown hK hP 0 rfl rfl 2 (by decide) lk0 (fun _ h9 => h9) rfl dX4_count_45 ?_
      refine va_getN (ci := 3) (v := .int v_td_sayers) (C := RX3) (T := TX3) (N := 5) hx hb hts inX3 hown hK hP 2 rfl rfl 2 (by decide) lk4 (fun _ h9 => h9) rfl dX4_count_48 ?_
      obtain rfl := Option.some.inj hf
      exact hret trivial _ _ _ _ hP hD hS dX4_count_51
    · have hf := zk_f c2 hf
      by_cases c3 : x0 = 2
      · have hf := zk_t c3 hf
        refine lv_tableIn (off := 51) (tgt := 52) hx hb dX4_count_1 (by rw [c3]; decide) (by rw [c3]; decide) (by rw [c3]; rfl) (by decide) ?_
        refine lv_aload_n hx hb dX4_count_52 rfl (lv_at hl 0 rfl) ?_
        refine va_get (ci := 4) (v := .ref a_tx) (C := RX4) (T := TX4) (N := 11) hx hb hts inX4 hown hK hP 0 rfl rfl 0 (by decide) lk5 (fun _ h9 => h9) rfl dX4_count_53 ?_
        refine va_getN (ci := 2) (v := .int v_tx_length) (C := RX2) (T := TX2) (N := 4) hx hb hts inX2 hown hK hP 1 rfl rfl 1 (by decide) lk6 (fun _ h9 => h9) rfl dX4_count_56 ?_
        obtain rfl := Option.some.inj hf
        exact hret trivial _ _ _ _ hP hD hS dX4_count_59
      · have hf := zk_f c3 hf
        by_cases c4 : x0 = 3
        · have hf := zk_t c4 hf
          refine lv_tableIn (off := 59) (tgt := 60) hx hb dX4_count_1 (by rw [c4]; decide) (by rw [c4]; decide) (by rw [c4]; rfl) (by decide) ?_
          refine lv_aload_n hx hb dX4_count_60 rfl (lv_at hl 0 rfl) ?_
          refine va_get (ci := 4) (v := .ref a_td) (C := RX4) (T := TX4) (N := 11) hx hb hts inX4 hown hK hP 0 rfl rfl 2 (by decide) lk0 (fun _ h9 => h9) rfl dX4_count_61 ?_
          obtain ⟨v5, hv5, hf⟩ := zk_ob hf
          refine zk_goR (zk_V (As := []) (rest := []) hx hb hml hown hts hK hG hP hD hS hA gX4_count_X3_allWeights rfl hd_X3_allWeights (Nat.le_trans (Nat.le_of_ble_eq_true rfl) hRf) (Nat.le_trans (Nat.le_of_ble_eq_true rfl) hRl) hcs (zc_X3_allWeights l D tL tO cI cJ cB cQ a_td a_td_says a_td_weights v_td_laws v_td_there v_td_sayers f_td_weights v5 hv5) rfl rfl 2 rfl hl.1 rfl rfl (Nat.le_of_ble_eq_true rfl) dX4_count_64 [2, 3] rfl rfl) hP hD hS hA [2, 3] rfl (fun H locs hP hS => ?_)
          obtain rfl := Option.some.inj hf
          exact hret trivial _ _ _ _ hP hD hS dX4_count_67
        · have hf := zk_f c4 hf
          by_cases c6 : x0 = 4
          · have hf := zk_t c6 hf
            refine lv_tableIn (off := 67) (tgt := 68) hx hb dX4_count_1 (by rw [c6]; decide) (by rw [c6]; decide) (by rw [c6]; rfl) (by decide) ?_
            refine lv_aload_n hx hb dX4_count_68 rfl (lv_at hl 0 rfl) ?_
            refine va_get (ci := 4) (v := .ref a_td) (C := RX4) (T := TX4) (N := 11) hx hb hts inX4 hown hK hP 0 rfl rfl 2 (by decide) lk0 (fun _ h9 => h9) rfl dX4_count_69 ?_
            refine va_getN (ci := 3) (v := .long v_td_there) (C := RX3) (T := TX3) (N := 5) hx hb hts inX3 hown hK hP 2 rfl rfl 1 (by decide) lk8 (fun _ h9 => h9) rfl dX4_count_72 ?_
            obtain ⟨v7, hv7, hf⟩ := zk_ob hf
            refine zk_goR (zk_S (As := [.long v_td_there]) (rest := []) hx hb hml hown hts hK hG hP hD hS hA gX4_count_J13_bitCount_95d88 rfl hd_J13_bitCount_95d88 (Nat.le_trans (Nat.le_of_ble_eq_true rfl) hRf) (Nat.le_trans (Nat.le_of_ble_eq_true rfl) hRl) hcs (zc_J13_bitCount_95d88 l D tL tO cI cJ cB cQ v_td_there v7 hv7) hl.1 rfl rfl (Nat.le_of_ble_eq_true rfl) dX4_count_75 [] rfl rfl) hP hD hS hA [] rfl (fun H locs hP hS => ?_)
            obtain rfl := Option.some.inj hf
            exact hret trivial _ _ _ _ hP hD hS dX4_count_78
          · have hf := zk_f c6 hf
            refine lv_tableOut (tgt := 79) hx hb dX4_count_1 (by have h0 := lv_neT c1 (a := 0) (by decide); have h1 := lv_neT c2 (a := 1) (by decide); have h2 := lv_neT c3 (a := 2) (by decide); have h3 := lv_neT c4 (a := 3) (by decide); have h4 := lv_neT c6 (a := 4) (by decide); omega) (by decide) ?_
            refine lv_iconst (v := (-1 : Int32)) hx hb dX4_count_79 (by decide) ?_
            obtain rfl := Option.some.inj hf
            exact hret trivial _ _ _ _ hP hD hS dX4_count_80
def zf_X4_trace (v_sm_traced : Int64) : Option (Int64) :=
  some v_sm_traced
theorem hd_X4_trace : yX4_trace.cls = RX4 ∧ yX4_trace.cls ≠ "java/lang/invoke/MethodHandle" ∧ yX4_trace.cls ≠ "java/lang/invoke/VarHandle" ∧ (parseMethodDescriptor yX4_trace.desc).map (fun d => d.parameters.length) = some 0 := by decide +kernel
set_option maxHeartbeats 4000000 in
set_option maxRecDepth 100000 in
theorem zc_X4_trace (l : Launch) (D : va_G) (tL tO : Nat) (cI cJ cB cQ : ClassId) (a_sm a_tx a_rd a_td a_sp a_ds a_sm_fars a_sm_common a_sm_others a_sm_scale : Nat) (v_sm_asked : Int64) (v_sm_traced : Int64) (z : Int64) (hf : zf_X4_trace v_sm_traced = some z) : zk_CT l D tL tO (zk_ty cI cJ cB cQ) yX4_trace wsX4_trace 0 0 [.ref a_sm] (some (.long z)) [(a_sm, .inr (4, [.ref a_tx, .ref a_rd, .ref a_td, .ref a_sp, .long v_sm_asked, .ref a_ds, .ref a_sm_fars, .ref a_sm_common, .ref a_sm_others, .ref a_sm_scale, .long v_sm_traced]))] [(a_sm, .inr (4, [.ref a_tx, .ref a_rd, .ref a_td, .ref a_sp, .long v_sm_asked, .ref a_ds, .ref a_sm_fars, .ref a_sm_common, .ref a_sm_others, .ref a_sm_scale, .long v_sm_traced]))] := by
  refine zk_of_l (cc := cX4_trace) (maxL := 1) (by decide) rfl (Nat.le_of_ble_eq_true rfl) ?_
  intro p e R s m args below meth c A Q ls hx hb hml hRf hRl hts hown hP hK hD hA hS hG hl hret
  have hl : lv_has ls 1 [(0, .ref a_sm)] := hl
  have hown : s.vm.findClass RX4 = some m.cls := hown
  have hcs : 0 ≤ R.cells ∧ 0 ≤ R.slots := ⟨Nat.zero_le _, Nat.zero_le _⟩
  have lk0 := hts (.fieldLink RX4 63 "SayingsMerged" "traced" "J") (by decide +kernel)
  have inX4 : ∀ w ∈ wsX40, w ∈ wsX4_trace := by decide +kernel
  unfold zf_X4_trace at hf
  refine lv_aload_n hx hb dX4_trace_0 rfl (lv_at hl 0 rfl) ?_
  refine va_get (ci := 4) (v := .long v_sm_traced) (C := RX4) (T := TX4) (N := 11) hx hb hts inX4 hown hK hP 0 rfl rfl 10 (by decide) lk0 (fun _ h9 => h9) rfl dX4_trace_1 ?_
  obtain rfl := Option.some.inj hf
  exact hret trivial _ _ _ _ hP hD hS dX4_trace_4
def zl_X4_ordersTurnedBy_4 (x0 : Int32) (v_td_sayers : Int32) (f_sm_common : Nat → Int64) : Nat → (Int32) → (Int32) → Option (Int32 × Int32)
  | 0, _, _ => none
  | n + 1, w1, w2 =>
    (zf_X4_setsOfSayers v_td_sayers).bind (fun v3 =>
    if v3 ≤ w2 then
    some (w1, w2)
    else
    if (w2 &&& ((1 : Int32) <<< (x0 &&& 31))) = 0 then
    (zf_X4_isQuarrel w2 f_sm_common).bind (fun v5 =>
    if v5 = 0 then
    (zf_X4_isQuarrel (w2 ||| ((1 : Int32) <<< (x0 &&& 31))) f_sm_common).bind (fun v7 =>
    if v7 = 0 then
    zk_lt (w2 + 1) (fun y8 =>
    zl_X4_ordersTurnedBy_4 x0 v_td_sayers f_sm_common n w1 y8)
    else
    (zf_J6_bitCount_0f7a4 w2).bind (fun v9 =>
    zk_gd (zk_in v9 8)
    (zk_gd (zk_in ((v_td_sayers - (1 : Int32)) - v9) 8)
    (zk_lt (w1 + ((zk_OR v9.toNatClampNeg) * (zk_OR ((v_td_sayers - (1 : Int32)) - v9).toNatClampNeg))) (fun y12 =>
    zk_lt (w2 + 1) (fun y13 =>
    zl_X4_ordersTurnedBy_4 x0 v_td_sayers f_sm_common n y12 y13))))))
    else
    zk_lt (w2 + 1) (fun y6 =>
    zl_X4_ordersTurnedBy_4 x0 v_td_sayers f_sm_common n w1 y6))
    else
    zk_lt (w2 + 1) (fun y4 =>
    zl_X4_ordersTurnedBy_4 x0 v_td_sayers f_sm_common n w1 y4))
def zf_X4_ordersTurnedBy (x0 : Int32) (v_td_sayers : Int32) (f_sm_common : Nat → Int64) : Option (Int32) :=
  (zl_X4_ordersTurnedBy_4 x0 v_td_sayers f_sm_common zk_F (0 : Int32) (0 : Int32)).bind (fun v18 =>
  some v18.1)
theorem hd_X4_ordersTurnedBy : yX4_ordersTurnedBy.cls = RX4 ∧ yX4_ordersTurnedBy.cls ≠ "java/lang/invoke/MethodHandle" ∧ yX4_ordersTurnedBy.cls ≠ "java/lang/invoke/VarHandle" ∧ (parseMethodDescriptor yX4_ordersTurnedBy.desc).map (fun d => d.parameters.length) = some 1 := by decide +kernel
set_option maxHeartbeats 4000000 in
set_option maxRecDepth 100000 in
theorem zc_X4_ordersTurnedBy (l : Launch) (D : va_G) (tL tO : Nat) (cI cJ cB cQ : ClassId) (a_sm a_tx a_rd a_td a_sp a_ds a_sm_fars a_sm_common a_sm_others a_sm_scale a_td_says a_td_weights : Nat) (x0 : Int32) (v_sm_asked : Int64) (v_sm_traced : Int64) (v_td_laws : Int32) (v_td_there : Int64) (v_td_sayers : Int32) (f_sm_common : Nat → Int64) (z : Int32) (hf : zf_X4_ordersTurnedBy x0 v_td_sayers f_sm_common = some z) : zk_CT l D tL tO (zk_ty cI cJ cB cQ) yX4_ordersTurnedBy wsX4_ordersTurnedBy 1 21 [.ref a_sm, .int x0] (some (.int z)) [(a_sm, .inr (4, [.ref a_tx, .ref a_rd, .ref a_td, .ref a_sp, .long v_sm_asked, .ref a_ds, .ref a_sm_fars, .ref a_sm_common, .ref a_sm_others, .ref a_sm_scale, .long v_sm_traced])), (a_td, .inr (3, [.int v_td_laws, .long v_td_there, .int v_td_sayers, .ref a_td_says, .ref a_td_weights])), (a_sm_common, .inl (cJ, 128, .inr (.inl f_sm_common)))] [(a_sm, .inr (4, [.ref a_tx, .ref a_rd, .ref a_td, .ref a_sp, .long v_sm_asked, .ref a_ds, .ref a_sm_fars, .ref a_sm_common, .ref a_sm_others, .ref a_sm_scale, .long v_sm_traced])), (a_td, .inr (3, [.int v_td_laws, .long v_td_there, .int v_td_sayers, .ref a_td_says, .ref a_td_weights])), (a_sm_common, .inl (cJ, 128, .inr (.inl f_sm_common)))] := by
  refine zk_of_i (cc := cX4_ordersTurnedBy) (maxL := 5) (by decide) rfl (Nat.le_of_ble_eq_true rfl) ?_
  intro p e R s m args below meth c A Q ls hx hb hml hRf hRl hts hown hP hK hD hA hS hG hl hret
  have hl : lv_has ls 5 [(0, .ref a_sm), (1, .int x0)] := hl
  have hown : s.vm.findClass RX4 = some m.cls := hown
  have hcs : 0 ≤ R.cells ∧ 0 ≤ R.slots := ⟨Nat.zero_le _, Nat.zero_le _⟩
  have lk0 := hts (.fieldLink RX4 171 "SayingsMerged" "ORDERS" "[I") (by decide +kernel)
  have lk1 := hts (.fieldLink RX4 28 "SayingsMerged" "told" "LSayingsMerged$Told;") (by decide +kernel)
  have inX4 : ∀ w ∈ wsX40, w ∈ wsX4_ordersTurnedBy := by decide +kernel
  have lk3 : (Cond.fieldLinkNest RX4 94 "SayingsMerged$Told" "sayers" "I" "SayingsMerged").before args s = true := va_Nw.use rfl (hG.1 _ (by decide +kernel))
  have inX3 : ∀ w ∈ wsX30, w ∈ wsX4_ordersTurnedBy := by decide +kernel
  unfold zf_X4_ordersTurnedBy at hf
  refine lv_iconst (v := (0 : Int32)) hx hb dX4_ordersTurnedBy_0 (by decide) ?_
  refine lv_istore_n (lv' := [(2, .int (0 : Int32)), (0, .ref a_sm), (1, .int x0)]) hx hb dX4_ordersTurnedBy_1 rfl hl (by decide) rfl (fun ls hl => ?_)
  refine lv_iconst (v := (0 : Int32)) hx hb dX4_ordersTurnedBy_2 (by decide) ?_
  refine lv_istore_n (lv' := [(3, .int (0 : Int32)), (2, .int (0 : Int32)), (0, .ref a_sm), (1, .int x0)]) hx hb dX4_ordersTurnedBy_3 rfl hl (by decide) rfl (fun ls hl => ?_)
  have lp4 : ∀ (n : Nat) (w1 : Int32) (w2 : Int32) (z4 : Int32 × Int32) (H : Heap) (locs : List Loc) (ls : Array Slot), zl_X4_ordersTurnedBy_4 x0 v_td_sayers f_sm_common n w1 w2 = some z4 → va_P D vwCl [(a_sm, .inr (4, [.ref a_tx, .ref a_rd, .ref a_td, .ref a_sp, .long v_sm_asked, .ref a_ds, .ref a_sm_fars, .ref a_sm_common, .ref a_sm_others, .ref a_sm_scale, .long v_sm_traced])), (a_td, .inr (3, [.int v_td_laws, .long v_td_there, .int v_td_sayers, .ref a_td_says, .ref a_td_weights])), (a_sm_common, .inl (cJ, 128, .inr (.inl f_sm_common)))] H → va_D A [(a_sm, .inr (4, [.ref a_tx, .ref a_rd, .ref a_td, .ref a_sp, .long v_sm_asked, .ref a_ds, .ref a_sm_fars, .ref a_sm_common, .ref a_sm_others, .ref a_sm_scale, .long v_sm_traced])), (a_td, .inr (3, [.int v_td_laws, .long v_td_there, .int v_td_sayers, .ref a_td_says, .ref a_td_weights])), (a_sm_common, .inl (cJ, 128, .inr (.inl f_sm_common)))] → va_S A s.heap H locs → lv_has ls 5 [(0, .ref a_sm), (1, .int x0), (2, .int w1), (3, .int w2)] → (∀ (H : Heap) (locs : List Loc) (ls : Array Slot), va_P D vwCl [(a_sm, .inr (4, [.ref a_tx, .ref a_rd, .ref a_td, .ref a_sp, .long v_sm_asked, .ref a_ds, .ref a_sm_fars, .ref a_sm_common, .ref a_sm_others, .ref a_sm_scale, .long v_sm_traced])), (a_td, .inr (3, [.int v_td_laws, .long v_td_there, .int v_td_sayers, .ref a_td_says, .ref a_td_weights])), (a_sm_common, .inl (cJ, 128, .inr (.inl f_sm_common)))] H → va_D A [(a_sm, .inr (4, [.ref a_tx, .ref a_rd, .ref a_td, .ref a_sp, .long v_sm_asked, .ref a_ds, .ref a_sm_fars, .ref a_sm_common, .ref a_sm_others, .ref a_sm_scale, .long v_sm_traced])), (a_td, .inr (3, [.int v_td_laws, .long v_td_there, .int v_td_sayers, .ref a_td_says, .ref a_td_weights])), (a_sm_common, .inl (cJ, 128, .inr (.inl f_sm_common)))] → va_S A s.heap H locs → lv_has ls 5 [(0, .ref a_sm), (1, .int x0), (2, .int z4.1), (3, .int z4.2)] → W p l e R s m args below meth c H locs 0 0 Q (F0 m 78 ls [])) → W p l e R s m args below meth c H locs 0 0 Q (F0 m 4 ls []) := by
    intro n
    induction n with
    | zero => intro w1 w2 z4 H locs ls hf; exact absurd (show none = some z4 from hf) (by simp)
    | succ n ih =>
      intro w1 w2 z4 H locs ls hf hP hD hS hl hk
      rw [zl_X4_ordersTurnedBy_4] at hf
      refine lv_iload_n hx hb dX4_ordersTurnedBy_4 rfl (lv_at hl 3 rfl) ?_
      refine lv_aload_n hx hb dX4_ordersTurnedBy_5 rfl (lv_at hl 0 rfl) ?_
      obtain ⟨v3, hv3, hf⟩ := zk_ob hf
      refine zk_goR (zk_V (As := []) (rest := [.int w2]) hx hb hml hown hts hK hG hP hD hS hA gX4_ordersTurnedBy_X4_setsOfSayers rfl hd_X4_setsOfSayers (Nat.le_trans (Nat.le_of_ble_eq_true rfl) hRf) (Nat.le_trans (Nat.le_of_ble_eq_true rfl) hRl) hcs (zc_X4_setsOfSayers l D tL tO cI cJ cB cQ a_sm a_tx a_rd a_td a_sp a_ds a_sm_fars a_sm_common a_sm_others a_sm_scale a_td_says a_td_weights v_sm_asked v_sm_traced v_td_laws v_td_there v_td_sayers v3 hv3) rfl rfl 0 rfl hl.1 rfl rfl (Nat.le_of_ble_eq_true rfl) dX4_ordersTurnedBy_6 [0, 1] rfl rfl) hP hD hS hA [0, 1] rfl (fun H locs hP hS => ?_)
      refine lv_icmp_ge (tgt := 78) hx hb dX4_ordersTurnedBy_9 (by decide) (fun c17 => ?_) (fun c17 => ?_)
      · have hf := zk_t c17 hf
        obtain rfl := Option.some.inj hf
        exact hk _ _ _ hP hD hS (lv_sub hl [0, 1, 2, 3] rfl)
      · have hf := zk_f c17 hf
        refine lv_iload_n hx hb dX4_ordersTurnedBy_12 rfl (lv_at hl 3 rfl) ?_
        refine lv_iconst (v := (1 : Int32)) hx hb dX4_ordersTurnedBy_13 (by decide) ?_
        refine lv_iload_n hx hb dX4_ordersTurnedBy_14 rfl (lv_at hl 1 rfl) ?_
        refine lv_ishl hx hb dX4_ordersTurnedBy_15 ?_
        refine lv_iand hx hb dX4_ordersTurnedBy_16 ?_
        refine lv_if_ne (tgt := 72) hx hb dX4_ordersTurnedBy_17 (by decide) (fun c16 => ?_) (fun c16 => ?_)
        · have hf := zk_f c16 hf
          obtain ⟨y4, ey4, hf⟩ := zk_lt_s hf
          refine lv_iinc (v := y4) (lv' := [(3, .int y4), (0, .ref a_sm), (1, .int x0), (2, .int w1)]) hx hb dX4_ordersTurnedBy_72 hl (k := 3) rfl (by rw [ey4]; rfl) (by decide) rfl (fun ls hl => ?_)
          refine lv_goto (tgt := 4) hx hb dX4_ordersTurnedBy_75 (by decide) ?_
          exact ih w1 y4 _ _ _ _ hf hP hD hS (lv_sub hl [1, 2, 3, 0] rfl) hk
        · have hf := zk_t c16 hf
          refine lv_aload_n hx hb dX4_ordersTurnedBy_20 rfl (lv_at hl 0 rfl) ?_
          refine lv_iload_n hx hb dX4_ordersTurnedBy_21 rfl (lv_at hl 3 rfl) ?_
          obtain ⟨v5, hv5, hf⟩ := zk_ob hf
          refine zk_goR (zk_V (As := [.int w2]) (rest := []) hx hb hml hown hts hK hG hP hD hS hA gX4_ordersTurnedBy_X4_isQuarrel rfl hd_X4_isQuarrel (Nat.le_trans (Nat.le_of_ble_eq_true rfl) hRf) (Nat.le_trans (Nat.le_of_ble_eq_true rfl) hRl) hcs (zc_X4_isQuarrel l D tL tO cI cJ cB cQ a_sm a_tx a_rd a_td a_sp a_ds a_sm_fars a_sm_common a_sm_others a_sm_scale w2 v_sm_asked v_sm_traced f_sm_common v5 hv5) rfl rfl 0 rfl hl.1 rfl rfl (Nat.le_of_ble_eq_true rfl) dX4_ordersTurnedBy_22 [0, 2] rfl rfl) hP hD hS hA [0, 2] rfl (fun H locs hP hS => ?_)
          refine lv_if_ne (tgt := 72) hx hb dX4_ordersTurnedBy_25 (by decide) (fun c15 => ?_) (fun c15 => ?_)
          · have hf := zk_f c15 hf
            obtain ⟨y6, ey6, hf⟩ := zk_lt_s hf
            refine lv_iinc (v := y6) (lv' := [(3, .int y6), (0, .ref a_sm), (1, .int x0), (2, .int w1)]) hx hb dX4_ordersTurnedBy_72 hl (k := 3) rfl (by rw [ey6]; rfl) (by decide) rfl (fun ls hl => ?_)
            refine lv_goto (tgt := 4) hx hb dX4_ordersTurnedBy_75 (by decide) ?_
            exact ih w1 y6 _ _ _ _ hf hP hD hS (lv_sub hl [1, 2, 3, 0] rfl) hk
          · have hf := zk_t c15 hf
            refine lv_aload_n hx hb dX4_ordersTurnedBy_28 rfl (lv_at hl 0 rfl) ?_
            refine lv_iload_n hx hb dX4_ordersTurnedBy_29 rfl (lv_at hl 3 rfl) ?_
            refine lv_iconst (v := (1 : Int32)) hx hb dX4_ordersTurnedBy_30 (by decide) ?_
            refine lv_iload_n hx hb dX4_ordersTurnedBy_31 rfl (lv_at hl 1 rfl) ?_
            refine lv_ishl hx hb dX4_ordersTurnedBy_32 ?_
            refine lv_ior hx hb dX4_ordersTurnedBy_33 ?_
            obtain ⟨v7, hv7, hf⟩ := zk_ob hf
            refine zk_goR (zk_V (As := [.int (w2 ||| ((1 : Int32) <<< (x0 &&& 31)))]) (rest := []) hx hb hml hown hts hK hG hP hD hS hA gX4_ordersTurnedBy_X4_isQuarrel rfl hd_X4_isQuarrel (Nat.le_trans (Nat.le_of_ble_eq_true rfl) hRf) (Nat.le_trans (Nat.le_of_ble_eq_true rfl) hRl) hcs (zc_X4_isQuarrel l D tL tO cI cJ cB cQ a_sm a_tx a_rd a_td a_sp a_ds a_sm_fars a_sm_common a_sm_others a_sm_scale (w2 ||| ((1 : Int32) <<< (x0 &&& 31))) v_sm_asked v_sm_traced f_sm_common v7 hv7) rfl rfl 0 rfl hl.1 rfl rfl (Nat.le_of_ble_eq_true rfl) dX4_ordersTurnedBy_34 [0, 2] rfl rfl) hP hD hS hA [0, 2] rfl (fun H locs hP hS => ?_)
            refine lv_if_eq (tgt := 72) hx hb dX4_ordersTurnedBy_37 (by decide) (fun c14 => ?_) (fun c14 => ?_)
            · have hf := zk_t c14 hf
              obtain ⟨y8, ey8, hf⟩ := zk_lt_s hf
              refine lv_iinc (v := y8) (lv' := [(3, .int y8), (0, .ref a_sm), (1, .int x0), (2, .int w1)]) hx hb dX4_ordersTurnedBy_72 hl (k := 3) rfl (by rw [ey8]; rfl) (by decide) rfl (fun ls hl => ?_)
              refine lv_goto (tgt := 4) hx hb dX4_ordersTurnedBy_75 (by decide) ?_
              exact ih w1 y8 _ _ _ _ hf hP hD hS (lv_sub hl [1, 2, 3, 0] rfl) hk
            · have hf := zk_f c14 hf
              refine lv_iload_n hx hb dX4_ordersTurnedBy_40 rfl (lv_at hl 3 rfl) ?_
              obtain ⟨v9, hv9, hf⟩ := zk_ob hf
              refine zk_goR (zk_S (As := [.int w2]) (rest := []) hx hb hml hown hts hK hG hP hD hS hA gX4_ordersTurnedBy_J6_bitCount_0f7a4 rfl hd_J6_bitCount_0f7a4 (Nat.le_trans (Nat.le_of_ble_eq_true rfl) hRf) (Nat.le_trans (Nat.le_of_ble_eq_true rfl) hRl) hcs (zc_J6_bitCount_0f7a4 l D tL tO cI cJ cB cQ w2 v9 hv9) hl.1 rfl rfl (Nat.le_of_ble_eq_true rfl) dX4_ordersTurnedBy_41 [] rfl rfl) hP hD hS hA [] rfl (fun H locs hP hS => ?_)
              refine lv_istore (lv' := [(4, .int v9), (0, .ref a_sm), (1, .int x0), (2, .int w1), (3, .int w2)]) hx hb dX4_ordersTurnedBy_44 hl (by decide) rfl (fun ls hl => ?_)
              refine lv_iload_n hx hb dX4_ordersTurnedBy_46 rfl (lv_at hl 3 rfl) ?_
              refine va_gets hx hb hG.2.2.2.1 hS hown lk0 (fun _ h9 => h9) dX4_ordersTurnedBy_47 ?_
              refine lv_iload hx hb dX4_ordersTurnedBy_50 (lv_at hl 0 rfl) ?_
              obtain ⟨g10, hf⟩ := zk_gd_s hf
              refine va_ti hx hb hG.2.2.2.2.1 hS (zk_in_s g10) (v := .int (zk_OR v9.toNatClampNeg)) rfl dX4_ordersTurnedBy_52 ?_
              refine va_gets hx hb hG.2.2.2.1 hS hown lk0 (fun _ h9 => h9) dX4_ordersTurnedBy_53 ?_
              refine lv_aload_n hx hb dX4_ordersTurnedBy_56 rfl (lv_at hl 1 rfl) ?_
              refine va_get (ci := 4) (v := .ref a_td) (C := RX4) (T := TX4) (N := 11) hx hb hts inX4 hown hK hP 0 rfl rfl 2 (by decide) lk1 (fun _ h9 => h9) rfl dX4_ordersTurnedBy_57 ?_
              refine va_getN (ci := 3) (v := .int v_td_sayers) (C := RX3) (T := TX3) (N := 5) hx hb hts inX3 hown hK hP 1 rfl rfl 2 (by decide) lk3 (fun _ h9 => h9) rfl dX4_ordersTurnedBy_60 ?_
              refine lv_iconst (v := (1 : Int32)) hx hb dX4_ordersTurnedBy_63 (by decide) ?_
              refine lv_isub hx hb dX4_ordersTurnedBy_64 ?_
              refine lv_iload hx hb dX4_ordersTurnedBy_65 (lv_at hl 0 rfl) ?_
              refine lv_isub hx hb dX4_ordersTurnedBy_67 ?_
              obtain ⟨g11, hf⟩ := zk_gd_s hf
              refine va_ti hx hb hG.2.2.2.2.1 hS (zk_in_s g11) (v := .int (zk_OR ((v_td_sayers - (1 : Int32)) - v9).toNatClampNeg)) rfl dX4_ordersTurnedBy_68 ?_
              refine lv_imul hx hb dX4_ordersTurnedBy_69 ?_
              refine lv_iadd hx hb dX4_ordersTurnedBy_70 ?_
              obtain ⟨y12, ey12, hf⟩ := zk_lt_s hf
              refine zk_topi ey12 ?_
              refine lv_istore_n (lv' := [(2, .int y12), (4, .int v9), (0, .ref a_sm), (1, .int x0), (3, .int w2)]) hx hb dX4_ordersTurnedBy_71 rfl hl (by decide) rfl (fun ls hl => ?_)
              obtain ⟨y13, ey13, hf⟩ := zk_lt_s hf
              refine lv_iinc (v := y13) (lv' := [(3, .int y13), (2, .int y12), (4, .int v9), (0, .ref a_sm), (1, .int x0)]) hx hb dX4_ordersTurnedBy_72 hl (k := 4) rfl (by rw [ey13]; rfl) (by decide) rfl (fun ls hl => ?_)
              refine lv_goto (tgt := 4) hx hb dX4_ordersTurnedBy_75 (by decide) ?_
              exact ih y12 y13 _ _ _ _ hf hP hD hS (lv_sub hl [3, 4, 1, 0] rfl) hk
  obtain ⟨v18, hv18, hf⟩ := zk_ob hf
  refine lp4 zk_F (0 : Int32) (0 : Int32) v18 _ _ _ hv18 hP hD hS (lv_sub hl [2, 3, 1, 0] rfl) ?_
  intro H locs ls hP hD hS hl
  refine lv_iload_n hx hb dX4_ordersTurnedBy_78 rfl (lv_at hl 2 rfl) ?_
  obtain rfl := Option.some.inj hf
  exact hret trivial _ _ _ _ hP hD hS dX4_ordersTurnedBy_79
def zf_X4_share (x0 : Int32) (x1 : Int32) (v_td_sayers : Int32) (f_sm_common : Nat → Int64) : Option (Int32) :=
  (zf_X4_isSayer x0 v_td_sayers).bind (fun v1 =>
  if v1 = 0 then
  some (-1 : Int32)
  else
  (if x1 = 0 then
  some (Sum.inl ())
  else
  if x1 = (1 : Int32) then
  some (Sum.inl ())
  else
  some (Sum.inr (-1 : Int32))).bind (fun v2 =>
  zk_su v2
  (fun u3 =>
  (zf_X4_ordersTurnedBy x0 v_td_sayers f_sm_common).bind (fun v4 =>
  zk_gd (zk_in v_td_sayers 8)
  (zk_lt (zk_OR v_td_sayers.toNatClampNeg) (fun y6 =>
  (zf_X4_commonDivisor v4 y6).bind (fun v7 =>
  if (1 : Int32) ≤ v7 then
  if x1 = 0 then
  zk_gd (zk_nz v7)
  (some (v4 / v7))
  else
  zk_gd (zk_nz v7)
  (some (y6 / v7))
  else
  some (-1 : Int32))))))
  (fun r14 => some r14)))
theorem hd_X4_share : yX4_share.cls = RX4 ∧ yX4_share.cls ≠ "java/lang/invoke/MethodHandle" ∧ yX4_share.cls ≠ "java/lang/invoke/VarHandle" ∧ (parseMethodDescriptor yX4_share.desc).map (fun d => d.parameters.length) = some 2 := by decide +kernel
set_option maxHeartbeats 4000000 in
set_option maxRecDepth 100000 in
theorem zc_X4_share (l : Launch) (D : va_G) (tL tO : Nat) (cI cJ cB cQ : ClassId) (a_sm a_tx a_rd a_td a_sp a_ds a_sm_fars a_sm_common a_sm_others a_sm_scale a_td_says a_td_weights : Nat) (x0 : Int32) (x1 : Int32) (v_sm_asked : Int64) (v_sm_traced : Int64) (v_td_laws : Int32) (v_td_there : Int64) (v_td_sayers : Int32) (f_sm_common : Nat → Int64) (z : Int32) (hf : zf_X4_share x0 x1 v_td_sayers f_sm_common = some z) : zk_CT l D tL tO (zk_ty cI cJ cB cQ) yX4_share wsX4_share 2 45 [.ref a_sm, .int x0, .int x1] (some (.int z)) [(a_sm, .inr (4, [.ref a_tx, .ref a_rd, .ref a_td, .ref a_sp, .long v_sm_asked, .ref a_ds, .ref a_sm_fars, .ref a_sm_common, .ref a_sm_others, .ref a_sm_scale, .long v_sm_traced])), (a_td, .inr (3, [.int v_td_laws, .long v_td_there, .int v_td_sayers, .ref a_td_says, .ref a_td_weights])), (a_sm_common, .inl (cJ, 128, .inr (.inl f_sm_common)))] [(a_sm, .inr (4, [.ref a_tx, .ref a_rd, .ref a_td, .ref a_sp, .long v_sm_asked, .ref a_ds, .ref a_sm_fars, .ref a_sm_common, .ref a_sm_others, .ref a_sm_scale, .long v_sm_traced])), (a_td, .inr (3, [.int v_td_laws, .long v_td_there, .int v_td_sayers, .ref a_td_says, .ref a_td_weights])), (a_sm_common, .inl (cJ, 128, .inr (.inl f_sm_common)))] := by
  refine zk_of_i (cc := cX4_share) (maxL := 6) (by decide) rfl (Nat.le_of_ble_eq_true rfl) ?_
  intro p e R s m args below meth c A Q ls hx hb hml hRf hRl hts hown hP hK hD hA hS hG hl hret
  have hl : lv_has ls 6 [(0, .ref a_sm), (1, .int x0), (2, .int x1)] := hl
  have hown : s.vm.findClass RX4 = some m.cls := hown
  have hcs : 0 ≤ R.cells ∧ 0 ≤ R.slots := ⟨Nat.zero_le _, Nat.zero_le _⟩
  have lk0 := hts (.fieldLink RX4 171 "SayingsMerged" "ORDERS" "[I") (by decide +kernel)
  have lk1 := hts (.fieldLink RX4 28 "SayingsMerged" "told" "LSayingsMerged$Told;") (by decide +kernel)
  have inX4 : ∀ w ∈ wsX40, w ∈ wsX4_share := by decide +kernel
  have lk3 : (Cond.fieldLinkNest RX4 94 "SayingsMerged$Told" "sayers" "I" "SayingsMerged").before args s = true := va_Nw.use rfl (hG.1 _ (by decide +kernel))
  have inX3 : ∀ w ∈ wsX30, w ∈ wsX4_share := by decide +kernel
  unfold zf_X4_share at hf
  refine lv_aload_n hx hb dX4_share_0 rfl (lv_at hl 0 rfl) ?_
  refine lv_iload_n hx hb dX4_share_1 rfl (lv_at hl 1 rfl) ?_
  obtain ⟨v1, hv1, hf⟩ := zk_ob hf
  refine zk_goR (zk_V (As := [.int x0]) (rest := []) hx hb hml hown hts hK hG hP hD hS hA gX4_share_X4_isSayer rfl hd_X4_isSayer (Nat.le_trans (Nat.le_of_ble_eq_true rfl) hRf) (Nat.le_trans (Nat.le_of_ble_eq_true rfl) hRl) hcs (zc_X4_isSayer l D tL tO cI cJ cB cQ a_sm a_tx a_rd a_td a_sp a_ds a_sm_fars a_sm_common a_sm_others a_sm_scale a_td_says a_td_weights x0 v_sm_asked v_sm_traced v_td_laws v_td_there v_td_sayers v1 hv1) rfl rfl 0 rfl hl.1 rfl rfl (Nat.le_of_ble_eq_true rfl) dX4_share_2 [0, 1] rfl rfl) hP hD hS hA [0, 1] rfl (fun H locs hP hS => ?_)
  refine lv_if_eq (tgt := 17) hx hb dX4_share_5 (by decide) (fun c15 => ?_) (fun c15 => ?_)
  · have hf := zk_t c15 hf
    refine lv_iconst (v := (-1 : Int32)) hx hb dX4_share_17 (by decide) ?_
    obtain rfl := Option.some.inj hf
    exact hret trivial _ _ _ _ hP hD hS dX4_share_18
  · have hf := zk_f c15 hf
    refine lv_iload_n hx hb dX4_share_8 rfl (lv_at hl 2 rfl) ?_
    obtain ⟨v2, hv2, hf⟩ := zk_ob hf
    have kv2_0 : ∀ u3 : Unit, v2 = Sum.inl u3 → ∀ (H : Heap) (locs : List Loc) (ls : Array Slot), va_P D vwCl [(a_sm, .inr (4, [.ref a_tx, .ref a_rd, .ref a_td, .ref a_sp, .long v_sm_asked, .ref a_ds, .ref a_sm_fars, .ref a_sm_common, .ref a_sm_others, .ref a_sm_scale, .long v_sm_traced])), (a_td, .inr (3, [.int v_td_laws, .long v_td_there, .int v_td_sayers, .ref a_td_says, .ref a_td_weights])), (a_sm_common, .inl (cJ, 128, .inr (.inl f_sm_common)))] H → va_D A [(a_sm, .inr (4, [.ref a_tx, .ref a_rd, .ref a_td, .ref a_sp, .long v_sm_asked, .ref a_ds, .ref a_sm_fars, .ref a_sm_common, .ref a_sm_others, .ref a_sm_scale, .long v_sm_traced])), (a_td, .inr (3, [.int v_td_laws, .long v_td_there, .int v_td_sayers, .ref a_td_says, .ref a_td_weights])), (a_sm_common, .inl (cJ, 128, .inr (.inl f_sm_common)))] → va_S A s.heap H locs → lv_has ls 6 [(0, .ref a_sm), (1, .int x0), (2, .int x1)] → W p l e R s m args below meth c H locs 0 0 Q (F0 m 19 ls []) := by
      intro u3 hu3 H locs ls hP hD hS hl
      subst hu3
      have hf := zk_su_l hf
      refine lv_aload_n hx hb dX4_share_19 rfl (lv_at hl 0 rfl) ?_
      refine lv_iload_n hx hb dX4_share_20 rfl (lv_at hl 1 rfl) ?_
      obtain ⟨v4, hv4, hf⟩ := zk_ob hf
      refine zk_goR (zk_V (As := [.int x0]) (rest := []) hx hb hml hown hts hK hG hP hD hS hA gX4_share_X4_ordersTurnedBy rfl hd_X4_ordersTurnedBy (Nat.le_trans (Nat.le_of_ble_eq_true rfl) hRf) (Nat.le_trans (Nat.le_of_ble_eq_true rfl) hRl) hcs (zc_X4_ordersTurnedBy l D tL tO cI cJ cB cQ a_sm a_tx a_rd a_td a_sp a_ds a_sm_fars a_sm_common a_sm_others a_sm_scale a_td_says a_td_weights x0 v_sm_asked v_sm_traced v_td_laws v_td_there v_td_sayers f_sm_common v4 hv4) rfl rfl 0 rfl hl.1 rfl rfl (Nat.le_of_ble_eq_true rfl) dX4_share_21 [0, 1, 2] rfl rfl) hP hD hS hA [0, 1, 2] rfl (fun H locs hP hS => ?_)
      refine lv_istore_n (lv' := [(3, .int v4), (0, .ref a_sm), (1, .int x0), (2, .int x1)]) hx hb dX4_share_24 rfl hl (by decide) rfl (fun ls hl => ?_)
      refine va_gets hx hb hG.2.2.2.1 hS hown lk0 (fun _ h9 => h9) dX4_share_25 ?_
      refine lv_aload_n hx hb dX4_share_28 rfl (lv_at hl 1 rfl) ?_
      refine va_get (ci := 4) (v := .ref a_td) (C := RX4) (T := TX4) (N := 11) hx hb hts inX4 hown hK hP 0 rfl rfl 2 (by decide) lk1 (fun _ h9 => h9) rfl dX4_share_29 ?_
      refine va_getN (ci := 3) (v := .int v_td_sayers) (C := RX3) (T := TX3) (N := 5) hx hb hts inX3 hown hK hP 1 rfl rfl 2 (by decide) lk3 (fun _ h9 => h9) rfl dX4_share_32 ?_
      obtain ⟨g5, hf⟩ := zk_gd_s hf
      refine va_ti hx hb hG.2.2.2.2.1 hS (zk_in_s g5) (v := .int (zk_OR v_td_sayers.toNatClampNeg)) rfl dX4_share_35 ?_
      obtain ⟨y6, ey6, hf⟩ := zk_lt_s hf
      refine zk_topi ey6 ?_
      refine lv_istore (lv' := [(4, .int y6), (3, .int v4), (0, .ref a_sm), (1, .int x0), (2, .int x1)]) hx hb dX4_share_36 hl (by decide) rfl (fun ls hl => ?_)
      refine lv_iload_n hx hb dX4_share_38 rfl (lv_at hl 1 rfl) ?_
      refine lv_iload hx hb dX4_share_39 (lv_at hl 0 rfl) ?_
      obtain ⟨v7, hv7, hf⟩ := zk_ob hf
      refine zk_goR (zk_S (As := [.int v4, .int y6]) (rest := []) hx hb hml hown hts hK hG hP hD hS hA gX4_share_X4_commonDivisor rfl hd_X4_commonDivisor (Nat.le_trans (Nat.le_of_ble_eq_true rfl) hRf) (Nat.le_trans (Nat.le_of_ble_eq_true rfl) hRl) hcs (zc_X4_commonDivisor l D tL tO cI cJ cB cQ v4 y6 v7 hv7) hl.1 rfl rfl (Nat.le_of_ble_eq_true rfl) dX4_share_41 [] rfl rfl) hP hD hS hA [] rfl (fun H locs hP hS => ?_)
      refine lv_istore (lv' := [(5, .int v7), (4, .int y6), (3, .int v4), (0, .ref a_sm), (1, .int x0), (2, .int x1)]) hx hb dX4_share_44 hl (by decide) rfl (fun ls hl => ?_)
      refine lv_iload hx hb dX4_share_46 (lv_at hl 0 rfl) ?_
      refine lv_iconst (v := (1 : Int32)) hx hb dX4_share_48 (by decide) ?_
      refine lv_icmp_ge (tgt := 54) hx hb dX4_share_49 (by decide) (fun c11 => ?_) (fun c11 => ?_)
      · have hf := zk_t c11 hf
        refine lv_iload_n hx hb dX4_share_54 rfl (lv_at hl 5 rfl) ?_
        refine lv_if_ne (tgt := 62) hx hb dX4_share_55 (by decide) (fun c10 => ?_) (fun c10 => ?_)
        · have hf := zk_f c10 hf
          refine lv_iload hx hb dX4_share_62 (lv_at hl 1 rfl) ?_
          refine lv_iload hx hb dX4_share_64 (lv_at hl 0 rfl) ?_
          obtain ⟨g8, hf⟩ := zk_gd_s hf
          refine lv_idiv hx hb dX4_share_66 (zk_nz_s g8) ?_
          obtain rfl := Option.some.inj hf
          exact hret trivial _ _ _ _ hP hD hS dX4_share_67
        · have hf := zk_t c10 hf
          refine lv_iload_n hx hb dX4_share_58 rfl (lv_at hl 2 rfl) ?_
          refine lv_goto (tgt := 64) hx hb dX4_share_59 (by decide) ?_
          refine lv_iload hx hb dX4_share_64 (lv_at hl 0 rfl) ?_
          obtain ⟨g9, hf⟩ := zk_gd_s hf
          refine lv_idiv hx hb dX4_share_66 (zk_nz_s g9) ?_
          obtain rfl := Option.some.inj hf
          exact hret trivial _ _ _ _ hP hD hS dX4_share_67
      · have hf := zk_f c11 hf
        refine lv_iconst (v := (-1 : Int32)) hx hb dX4_share_52 (by decide) ?_
        obtain rfl := Option.some.inj hf
        exact hret trivial _ _ _ _ hP hD hS dX4_share_53
    have kv2_r : ∀ r14 : Int32, v2 = Sum.inr r14 → r14 = z := by
      intro r14 hr14
      subst hr14
      have hf := zk_su_r hf
      exact Option.some.inj hf
    replace hf := hv2
    refine lv_if_eq (tgt := 19) hx hb dX4_share_9 (by decide) (fun c13 => ?_) (fun c13 => ?_)
    · have hf := zk_t c13 hf
      exact kv2_0 _ (Option.some.inj hf).symm _ _ _ hP hD hS (lv_sub hl [0, 1, 2] rfl)
    · have hf := zk_f c13 hf
      refine lv_iload_n hx hb dX4_share_12 rfl (lv_at hl 2 rfl) ?_
      refine lv_iconst (v := (1 : Int32)) hx hb dX4_share_13 (by decide) ?_
      refine lv_icmp_eq (tgt := 19) hx hb dX4_share_14 (by decide) (fun c12 => ?_) (fun c12 => ?_)
      · have hf := zk_t c12 hf
        exact kv2_0 _ (Option.some.inj hf).symm _ _ _ hP hD hS (lv_sub hl [0, 1, 2] rfl)
      · have hf := zk_f c12 hf
        refine lv_iconst (v := (-1 : Int32)) hx hb dX4_share_17 (by decide) ?_
        obtain rfl := kv2_r _ (Option.some.inj hf).symm
        exact hret trivial _ _ _ _ hP hD hS dX4_share_18
