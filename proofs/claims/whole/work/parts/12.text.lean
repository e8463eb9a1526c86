def zf_X2_append (x0 : Int32) (v_tx_length : Int32) (f_tx_bytes : Nat → Int32) : Option (Int32 × (Nat → Int32)) :=
  if (300 : Int32) ≤ v_tx_length then
  some (v_tx_length, f_tx_bytes)
  else
  zk_gd (zk_in v_tx_length 300)
  (zk_lt (v_tx_length + (1 : Int32)) (fun y2 =>
  some (y2, upd f_tx_bytes v_tx_length.toNatClampNeg x0)))
theorem hd_X2_append : yX2_append.cls = RX2 ∧ yX2_append.cls ≠ "java/lang/invoke/MethodHandle" ∧ yX2_append.cls ≠ "java/lang/invoke/VarHandle" ∧ (parseMethodDescriptor yX2_append.desc).map (fun d => d.parameters.length) = some 1 := by decide +kernel
set_option maxHeartbeats 4000000 in
set_option maxRecDepth 100000 in
theorem zc_X2_append (l : Launch) (D : va_G) (tL tO : Nat) (cI cJ cB cQ : ClassId) (a_tx a_tx_bytes a_tx_tokens a_tx_places : Nat) (x0 : Int32) (v_tx_length : Int32) (f_tx_bytes : Nat → Int32) (z : Int32 × (Nat → Int32)) (hf : zf_X2_append x0 v_tx_length f_tx_bytes = some z) : zk_CT l D tL tO (zk_ty cI cJ cB cQ) yX2_append wsX2_append 0 0 [.ref a_tx, .int x0] none [(a_tx, .inr (2, [.ref a_tx_bytes, .int v_tx_length, .ref a_tx_tokens, .ref a_tx_places])), (a_tx_bytes, .inl (cI, 300, .inl f_tx_bytes))] [(a_tx, .inr (2, [.ref a_tx_bytes, .int z.1, .ref a_tx_tokens, .ref a_tx_places])), (a_tx_bytes, .inl (cI, 300, .inl z.2))] := by
  refine zk_of_v (cc := cX2_append) (maxL := 2) (by decide) rfl (Nat.le_of_ble_eq_true rfl) ?_
  intro p e R s m args below meth c A Q ls hx hb hml hRf hRl hts hown hP hK hD hA hS hG hl hret
  have hl : lv_has ls 2 [(0, .ref a_tx), (1, .int x0)] := hl
  have hown : s.vm.findClass RX2 = some m.cls := hown
  have hcs : 0 ≤ R.cells ∧ 0 ≤ R.slots := ⟨Nat.zero_le _, Nat.zero_le _⟩
  have lk0 := hts (.fieldLink RX2 15 "SayingsMerged$Text" "length" "I") (by decide +kernel)
  have inX2 : ∀ w ∈ wsX20, w ∈ wsX2_append := by decide +kernel
  have lk2 := hts (.fieldLink RX2 9 "SayingsMerged$Text" "bytes" "[I") (by decide +kernel)
  unfold zf_X2_append at hf
  refine lv_aload_n hx hb dX2_append_0 rfl (lv_at hl 0 rfl) ?_
  refine va_get (ci := 2) (v := .int v_tx_length) (C := RX2) (T := TX2) (N := 4) hx hb hts inX2 hown hK hP 0 rfl rfl 1 (by decide) lk0 (fun _ h9 => h9) rfl dX2_append_1 ?_
  refine lv_sipush (v := (300 : Int32)) hx hb dX2_append_4 (by decide) ?_
  refine lv_icmp_ge (tgt := 30) hx hb dX2_append_7 (by decide) (fun c3 => ?_) (fun c3 => ?_)
  · have hf := zk_t c3 hf
    obtain rfl := Option.some.inj hf
    exact hret trivial _ _ _ _ hP hD hS dX2_append_30
  · have hf := zk_f c3 hf
    refine lv_aload_n hx hb dX2_append_10 rfl (lv_at hl 0 rfl) ?_
    refine va_get (ci := 2) (v := .ref a_tx_bytes) (C := RX2) (T := TX2) (N := 4) hx hb hts inX2 hown hK hP 0 rfl rfl 0 (by decide) lk2 (fun _ h9 => h9) rfl dX2_append_11 ?_
    refine lv_aload_n hx hb dX2_append_14 rfl (lv_at hl 0 rfl) ?_
    refine va_get (ci := 2) (v := .int v_tx_length) (C := RX2) (T := TX2) (N := 4) hx hb hts inX2 hown hK hP 0 rfl rfl 1 (by decide) lk0 (fun _ h9 => h9) rfl dX2_append_15 ?_
    refine lv_iload_n hx hb dX2_append_18 rfl (lv_at hl 1 rfl) ?_
    obtain ⟨g1, hf⟩ := zk_gd_s hf
    refine va_iast hx hb hK hP hD hS 1 0 rfl rfl (zk_in_s g1) dX2_append_19 (fun H locs hP hD hS => ?_)
    have hP : va_P D vwCl [(a_tx, .inr (2, [.ref a_tx_bytes, .int v_tx_length, .ref a_tx_tokens, .ref a_tx_places])), (a_tx_bytes, .inl (cI, 300, .inl (upd f_tx_bytes v_tx_length.toNatClampNeg x0)))] H := hP
    have hD : va_D A [(a_tx, .inr (2, [.ref a_tx_bytes, .int v_tx_length, .ref a_tx_tokens, .ref a_tx_places])), (a_tx_bytes, .inl (cI, 300, .inl (upd f_tx_bytes v_tx_length.toNatClampNeg x0)))] := hD
    refine lv_aload_n hx hb dX2_append_20 rfl (lv_at hl 0 rfl) ?_
    refine lv_dup hx hb dX2_append_21 rfl ?_
    refine va_get (ci := 2) (v := .int v_tx_length) (C := RX2) (T := TX2) (N := 4) hx hb hts inX2 hown hK hP 0 rfl rfl 1 (by decide) lk0 (fun _ h9 => h9) rfl dX2_append_22 ?_
    refine lv_iconst (v := (1 : Int32)) hx hb dX2_append_25 (by decide) ?_
    refine lv_iadd hx hb dX2_append_26 ?_
    obtain ⟨y2, ey2, hf⟩ := zk_lt_s hf
    refine zk_topi ey2 ?_
    refine va_put (ci := 2) (v := .int y2) (ty := .int) (C := RX2) (T := TX2) (N := 4) hx hb hts inX2 tyX2 tyX2_ok nmX2 hown hK hP hD hS 0 rfl rfl 1 (by decide) lk0 (fun _ h9 => h9) rfl (by decide +kernel) rfl rfl (Nat.le_of_ble_eq_true rfl) dX2_append_27 (fun H locs hP hD hS => ?_)
    have hP : va_P D vwCl [(a_tx, .inr (2, [.ref a_tx_bytes, .int y2, .ref a_tx_tokens, .ref a_tx_places])), (a_tx_bytes, .inl (cI, 300, .inl (upd f_tx_bytes v_tx_length.toNatClampNeg x0)))] H := hP
    have hD : va_D A [(a_tx, .inr (2, [.ref a_tx_bytes, .int y2, .ref a_tx_tokens, .ref a_tx_places])), (a_tx_bytes, .inl (cI, 300, .inl (upd f_tx_bytes v_tx_length.toNatClampNeg x0)))] := hD
    obtain rfl := Option.some.inj hf
    exact hret trivial _ _ _ _ hP hD hS dX2_append_30
def zf_X2_isSmall (x0 : Int32) (v_tx_length : Int32) (f_tx_bytes : Nat → Int32) : Option (Int32) :=
  if x0 < 0 then
  some (0 : Int32)
  else
  if v_tx_length ≤ x0 then
  some (0 : Int32)
  else
  zk_gd (zk_in x0 300)
  (if (f_tx_bytes x0.toNatClampNeg) < (97 : Int32) then
  some (0 : Int32)
  else
  if (122 : Int32) < (f_tx_bytes x0.toNatClampNeg) then
  some (0 : Int32)
  else
  some (1 : Int32))
theorem hd_X2_isSmall : yX2_isSmall.cls = RX2 ∧ yX2_isSmall.cls ≠ "java/lang/invoke/MethodHandle" ∧ yX2_isSmall.cls ≠ "java/lang/invoke/VarHandle" ∧ (parseMethodDescriptor yX2_isSmall.desc).map (fun d => d.parameters.length) = some 1 := by decide +kernel
set_option maxHeartbeats 4000000 in
set_option maxRecDepth 100000 in
theorem zc_X2_isSmall (l : Launch) (D : va_G) (tL tO : Nat) (cI cJ cB cQ : ClassId) (a_tx a_tx_bytes a_tx_tokens a_tx_places : Nat) (x0 : Int32) (v_tx_length : Int32) (f_tx_bytes : Nat → Int32) (z : Int32) (hf : zf_X2_isSmall x0 v_tx_length f_tx_bytes = some z) : zk_CT l D tL tO (zk_ty cI cJ cB cQ) yX2_isSmall wsX2_isSmall 0 0 [.ref a_tx, .int x0] (some (.int z)) [(a_tx, .inr (2, [.ref a_tx_bytes, .int v_tx_length, .ref a_tx_tokens, .ref a_tx_places])), (a_tx_bytes, .inl (cI, 300, .inl f_tx_bytes))] [(a_tx, .inr (2, [.ref a_tx_bytes, .int v_tx_length, .ref a_tx_tokens, .ref a_tx_places])), (a_tx_bytes, .inl (cI, 300, .inl f_tx_bytes))] := by
  refine zk_of_z (cc := cX2_isSmall) (maxL := 2) (by decide) rfl (Nat.le_of_ble_eq_true rfl) ?_
  intro p e R s m args below meth c A Q ls hx hb hml hRf hRl hts hown hP hK hD hA hS hG hl hret
  have hl : lv_has ls 2 [(0, .ref a_tx), (1, .int x0)] := hl
  have hown : s.vm.findClass RX2 = some m.cls := hown
  have hcs : 0 ≤ R.cells ∧ 0 ≤ R.slots := ⟨Nat.zero_le _, Nat.zero_le _⟩
  have lk0 := hts (.fieldLink RX2 15 "SayingsMerged$Text" "length" "I") (by decide +kernel)
  have inX2 : ∀ w ∈ wsX20, w ∈ wsX2_isSmall := by decide +kernel
  have lk2 := hts (.fieldLink RX2 9 "SayingsMerged$Text" "bytes" "[I") (by decide +kernel)
  unfold zf_X2_isSmall at hf
  refine lv_iload_n hx hb dX2_isSmall_0 rfl (lv_at hl 1 rfl) ?_
  refine lv_if_lt (tgt := 38) hx hb dX2_isSmall_1 (by decide) (fun c5 => ?_) (fun c5 => ?_)
  · have hf := zk_t c5 hf
    refine lv_iconst (v := (0 : Int32)) hx hb dX2_isSmall_38 (by decide) ?_
    obtain rfl := Option.some.inj hf
    exact hret rfl _ _ _ _ hP hD hS dX2_isSmall_39
  · have hf := zk_f c5 hf
    refine lv_iload_n hx hb dX2_isSmall_4 rfl (lv_at hl 1 rfl) ?_
    refine lv_aload_n hx hb dX2_isSmall_5 rfl (lv_at hl 0 rfl) ?_
    refine va_get (ci := 2) (v := .int v_tx_length) (C := RX2) (T := TX2) (N := 4) hx hb hts inX2 hown hK hP 0 rfl rfl 1 (by decide) lk0 (fun _ h9 => h9) rfl dX2_isSmall_6 ?_
    refine lv_icmp_ge (tgt := 38) hx hb dX2_isSmall_9 (by decide) (fun c4 => ?_) (fun c4 => ?_)
    · have hf := zk_t c4 hf
      refine lv_iconst (v := (0 : Int32)) hx hb dX2_isSmall_38 (by decide) ?_
      obtain rfl := Option.some.inj hf
      exact hret rfl _ _ _ _ hP hD hS dX2_isSmall_39
    · have hf := zk_f c4 hf
      refine lv_aload_n hx hb dX2_isSmall_12 rfl (lv_at hl 0 rfl) ?_
      refine va_get (ci := 2) (v := .ref a_tx_bytes) (C := RX2) (T := TX2) (N := 4) hx hb hts inX2 hown hK hP 0 rfl rfl 0 (by decide) lk2 (fun _ h9 => h9) rfl dX2_isSmall_13 ?_
      refine lv_iload_n hx hb dX2_isSmall_16 rfl (lv_at hl 1 rfl) ?_
      obtain ⟨g1, hf⟩ := zk_gd_s hf
      refine va_iald hx hb hK hP 1 0 rfl rfl (zk_in_s g1) dX2_isSmall_17 ?_
      refine lv_bipush (v := (97 : Int32)) hx hb dX2_isSmall_18 (by decide) ?_
      refine lv_icmp_lt (tgt := 38) hx hb dX2_isSmall_20 (by decide) (fun c3 => ?_) (fun c3 => ?_)
      · have hf := zk_t c3 hf
        refine lv_iconst (v := (0 : Int32)) hx hb dX2_isSmall_38 (by decide) ?_
        obtain rfl := Option.some.inj hf
        exact hret rfl _ _ _ _ hP hD hS dX2_isSmall_39
      · have hf := zk_f c3 hf
        refine lv_aload_n hx hb dX2_isSmall_23 rfl (lv_at hl 0 rfl) ?_
        refine va_get (ci := 2) (v := .ref a_tx_bytes) (C := RX2) (T := TX2) (N := 4) hx hb hts inX2 hown hK hP 0 rfl rfl 0 (by decide) lk2 (fun _ h9 => h9) rfl dX2_isSmall_24 ?_
        refine lv_iload_n hx hb dX2_isSmall_27 rfl (lv_at hl 1 rfl) ?_
        refine va_iald hx hb hK hP 1 0 rfl rfl (zk_in_s g1) dX2_isSmall_28 ?_
        refine lv_bipush (v := (122 : Int32)) hx hb dX2_isSmall_29 (by decide) ?_
        refine lv_icmp_gt (tgt := 38) hx hb dX2_isSmall_31 (by decide) (fun c2 => ?_) (fun c2 => ?_)
        · have hf := zk_t c2 hf
          refine lv_iconst (v := (0 : Int32)) hx hb dX2_isSmall_38 (by decide) ?_
          obtain rfl := Option.some.inj hf
          exact hret rfl _ _ _ _ hP hD hS dX2_isSmall_39
        · have hf := zk_f c2 hf
          refine lv_iconst (v := (1 : Int32)) hx hb dX2_isSmall_34 (by decide) ?_
          refine lv_goto (tgt := 39) hx hb dX2_isSmall_35 (by decide) ?_
          obtain rfl := Option.some.inj hf
          exact hret rfl _ _ _ _ hP hD hS dX2_isSmall_39
def zf_X2_isSign (x0 : Int32) : Option (Int32) :=
  if x0 < (48 : Int32) then
  if x0 = (59 : Int32) then
  some (1 : Int32)
  else
  if x0 = (124 : Int32) then
  some (1 : Int32)
  else
  if x0 = (38 : Int32) then
  some (1 : Int32)
  else
  if x0 = (33 : Int32) then
  some (1 : Int32)
  else
  if x0 = (40 : Int32) then
  some (1 : Int32)
  else
  if x0 = (41 : Int32) then
  some (1 : Int32)
  else
  some (0 : Int32)
  else
  if x0 ≤ (57 : Int32) then
  some (1 : Int32)
  else
  if x0 = (59 : Int32) then
  some (1 : Int32)
  else
  if x0 = (124 : Int32) then
  some (1 : Int32)
  else
  if x0 = (38 : Int32) then
  some (1 : Int32)
  else
  if x0 = (33 : Int32) then
  some (1 : Int32)
  else
  if x0 = (40 : Int32) then
  some (1 : Int32)
  else
  if x0 = (41 : Int32) then
  some (1 : Int32)
  else
  some (0 : Int32)
theorem hd_X2_isSign : yX2_isSign.cls ≠ "java/lang/invoke/MethodHandle" ∧ yX2_isSign.cls ≠ "java/lang/invoke/VarHandle" ∧ (parseMethodDescriptor yX2_isSign.desc).map (fun d => d.parameters.length) = some 1 := by decide +kernel
set_option maxHeartbeats 4000000 in
set_option maxRecDepth 100000 in
theorem zc_X2_isSign (l : Launch) (D : va_G) (tL tO : Nat) (cI cJ cB cQ : ClassId) (x0 : Int32) (z : Int32) (hf : zf_X2_isSign x0 = some z) : zk_CT l D tL tO (zk_ty cI cJ cB cQ) yX2_isSign wsX2_isSign 0 0 [.int x0] (some (.int z)) [] [] := by
  refine zk_of_z (cc := cX2_isSign) (maxL := 1) (by decide) rfl (Nat.le_of_ble_eq_true rfl) ?_
  intro p e R s m args below meth c A Q ls hx hb hml hRf hRl hts hown hP hK hD hA hS hG hl hret
  have hl : lv_has ls 1 [(0, .int x0)] := hl
  have hown : s.vm.findClass RX2 = some m.cls := hown
  have hcs : 0 ≤ R.cells ∧ 0 ≤ R.slots := ⟨Nat.zero_le _, Nat.zero_le _⟩
  unfold zf_X2_isSign at hf
  refine lv_iload_n hx hb dX2_isSign_0 rfl (lv_at hl 0 rfl) ?_
  refine lv_bipush (v := (48 : Int32)) hx hb dX2_isSign_1 (by decide) ?_
  refine lv_icmp_lt (tgt := 12) hx hb dX2_isSign_3 (by decide) (fun c14 => ?_) (fun c14 => ?_)
  · have hf := zk_t c14 hf
    refine lv_iload_n hx hb dX2_isSign_12 rfl (lv_at hl 0 rfl) ?_
    refine lv_bipush (v := (59 : Int32)) hx hb dX2_isSign_13 (by decide) ?_
    refine lv_icmp_eq (tgt := 48) hx hb dX2_isSign_15 (by decide) (fun c6 => ?_) (fun c6 => ?_)
    · have hf := zk_t c6 hf
      refine lv_iconst (v := (1 : Int32)) hx hb dX2_isSign_48 (by decide) ?_
      refine lv_goto (tgt := 53) hx hb dX2_isSign_49 (by decide) ?_
      obtain rfl := Option.some.inj hf
      exact hret rfl _ _ _ _ hP hD hS dX2_isSign_53
    · have hf := zk_f c6 hf
      refine lv_iload_n hx hb dX2_isSign_18 rfl (lv_at hl 0 rfl) ?_
      refine lv_bipush (v := (124 : Int32)) hx hb dX2_isSign_19 (by decide) ?_
      refine lv_icmp_eq (tgt := 48) hx hb dX2_isSign_21 (by decide) (fun c5 => ?_) (fun c5 => ?_)
      · have hf := zk_t c5 hf
        refine lv_iconst (v := (1 : Int32)) hx hb dX2_isSign_48 (by decide) ?_
        refine lv_goto (tgt := 53) hx hb dX2_isSign_49 (by decide) ?_
        obtain rfl := Option.some.inj hf
        exact hret rfl _ _ _ _ hP hD hS dX2_isSign_53
      · have hf := zk_f c5 hf
        refine lv_iload_n hx hb dX2_isSign_24 rfl (lv_at hl 0 rfl) ?_
        refine lv_bipush (v := (38 : Int32)) hx hb dX2_isSign_25 (by decide) ?_
        refine lv_icmp_eq (tgt := 48) hx hb dX2_isSign_27 (by decide) (fun c4 => ?_) (fun c4 => ?_)
        · have hf := zk_t c4 hf
          refine lv_iconst (v := (1 : Int32)) hx hb dX2_isSign_48 (by decide) ?_
          refine lv_goto (tgt := 53) hx hb dX2_isSign_49 (by decide) ?_
          obtain rfl := Option.some.inj hf
          exact hret rfl _ _ _ _ hP hD hS dX2_isSign_53
        · have hf := zk_f c4 hf
          refine lv_iload_n hx hb dX2_isSign_30 rfl (lv_at hl 0 rfl) ?_
          refine lv_bipush (v := (33 : Int32)) hx hb dX2_isSign_31 (by decide) ?_
          refine lv_icmp_eq (tgt := 48) hx hb dX2_isSign_33 (by decide) (fun c3 => ?_) (fun c3 => ?_)
          · have hf := zk_t c3 hf
            refine lv_iconst (v := (1 : Int32)) hx hb dX2_isSign_48 (by decide) ?_
            refine lv_goto (tgt := 53) hx hb dX2_isSign_49 (by decide) ?_
            obtain rfl := Option.some.inj hf
            exact hret rfl _ _ _ _ hP hD hS dX2_isSign_53
          · have hf := zk_f c3 hf
            refine lv_iload_n hx hb dX2_isSign_36 rfl (lv_at hl 0 rfl) ?_
            refine lv_bipush (v := (40 : Int32)) hx hb dX2_isSign_37 (by decide) ?_
            refine lv_icmp_eq (tgt := 48) hx hb dX2_isSign_39 (by decide) (fun c2 => ?_) (fun c2 => ?_)
            · have hf := zk_t c2 hf
              refine lv_iconst (v := (1 : Int32)) hx hb dX2_isSign_48 (by decide) ?_
              refine lv_goto (tgt := 53) hx hb dX2_isSign_49 (by decide) ?_
              obtain rfl := Option.some.inj hf
              exact hret rfl _ _ _ _ hP hD hS dX2_isSign_53
            · have hf := zk_f c2 hf
              refine lv_iload_n hx hb dX2_isSign_42 rfl (lv_at hl 0 rfl) ?_
              refine lv_bipush (v := (41 : Int32)) hx hb dX2_isSign_43 (by decide) ?_
              refine lv_icmp_ne (tgt := 52) hx hb dX2_isSign_45 (by decide) (fun c1 => ?_) (fun c1 => ?_)
              · have hf := zk_f c1 hf
                refine lv_iconst (v := (0 : Int32)) hx hb dX2_isSign_52 (by decide) ?_
                obtain rfl := Option.some.inj hf
                exact hret rfl _ _ _ _ hP hD hS dX2_isSign_53
              · have hf := zk_t c1 hf
                refine lv_iconst (v := (1 : Int32)) hx hb dX2_isSign_48 (by decide) ?_
                refine lv_goto (tgt := 53) hx hb dX2_isSign_49 (by decide) ?_
                obtain rfl := Option.some.inj hf
                exact hret rfl _ _ _ _ hP hD hS dX2_isSign_53
  · have hf := zk_f c14 hf
    refine lv_iload_n hx hb dX2_isSign_6 rfl (lv_at hl 0 rfl) ?_
    refine lv_bipush (v := (57 : Int32)) hx hb dX2_isSign_7 (by decide) ?_
    refine lv_icmp_le (tgt := 48) hx hb dX2_isSign_9 (by decide) (fun c13 => ?_) (fun c13 => ?_)
    · have hf := zk_t c13 hf
      refine lv_iconst (v := (1 : Int32)) hx hb dX2_isSign_48 (by decide) ?_
      refine lv_goto (tgt := 53) hx hb dX2_isSign_49 (by decide) ?_
      obtain rfl := Option.some.inj hf
      exact hret rfl _ _ _ _ hP hD hS dX2_isSign_53
    · have hf := zk_f c13 hf
      refine lv_iload_n hx hb dX2_isSign_12 rfl (lv_at hl 0 rfl) ?_
      refine lv_bipush (v := (59 : Int32)) hx hb dX2_isSign_13 (by decide) ?_
      refine lv_icmp_eq (tgt := 48) hx hb dX2_isSign_15 (by decide) (fun c12 => ?_) (fun c12 => ?_)
      · have hf := zk_t c12 hf
        refine lv_iconst (v := (1 : Int32)) hx hb dX2_isSign_48 (by decide) ?_
        refine lv_goto (tgt := 53) hx hb dX2_isSign_49 (by decide) ?_
        obtain rfl := Option.some.inj hf
        exact hret rfl _ _ _ _ hP hD hS dX2_isSign_53
      · have hf := zk_f c12 hf
        refine lv_iload_n hx hb dX2_isSign_18 rfl (lv_at hl 0 rfl) ?_
        refine lv_bipush (v := (124 : Int32)) hx hb dX2_isSign_19 (by decide) ?_
        refine lv_icmp_eq (tgt := 48) hx hb dX2_isSign_21 (by decide) (fun c11 => ?_) (fun c11 => ?_)
        · have hf := zk_t c11 hf
          refine lv_iconst (v := (1 : Int32)) hx hb dX2_isSign_48 (by decide) ?_
          refine lv_goto (tgt := 53) hx hb dX2_isSign_49 (by decide) ?_
          obtain rfl := Option.some.inj hf
          exact hret rfl _ _ _ _ hP hD hS dX2_isSign_53
        · have hf := zk_f c11 hf
          refine lv_iload_n hx hb dX2_isSign_24 rfl (lv_at hl 0 rfl) ?_
          refine lv_bipush (v := (38 : Int32)) hx hb dX2_isSign_25 (by decide) ?_
          refine lv_icmp_eq (tgt := 48) hx hb dX2_isSign_27 (by decide) (fun c10 => ?_) (fun c10 => ?_)
          · have hf := zk_t c10 hf
            refine lv_iconst (v := (1 : Int32)) hx hb dX2_isSign_48 (by decide) ?_
            refine lv_goto (tgt := 53) hx hb dX2_isSign_49 (by decide) ?_
            obtain rfl := Option.some.inj hf
            exact hret rfl _ _ _ _ hP hD hS dX2_isSign_53
          · have hf := zk_f c10 hf
            refine lv_iload_n hx hb dX2_isSign_30 rfl (lv_at hl 0 rfl) ?_
            refine lv_bipush (v := (33 : Int32)) hx hb dX2_isSign_31 (by decide) ?_
            refine lv_icmp_eq (tgt := 48) hx hb dX2_isSign_33 (by decide) (fun c9 => ?_) (fun c9 => ?_)
            · have hf := zk_t c9 hf
              refine lv_iconst (v := (1 : Int32)) hx hb dX2_isSign_48 (by decide) ?_
              refine lv_goto (tgt := 53) hx hb dX2_isSign_49 (by decide) ?_
              obtain rfl := Option.some.inj hf
              exact hret rfl _ _ _ _ hP hD hS dX2_isSign_53
            · have hf := zk_f c9 hf
              refine lv_iload_n hx hb dX2_isSign_36 rfl (lv_at hl 0 rfl) ?_
              refine lv_bipush (v := (40 : Int32)) hx hb dX2_isSign_37 (by decide) ?_
              refine lv_icmp_eq (tgt := 48) hx hb dX2_isSign_39 (by decide) (fun c8 => ?_) (fun c8 => ?_)
              · have hf := zk_t c8 hf
                refine lv_iconst (v := (1 : Int32)) hx hb dX2_isSign_48 (by decide) ?_
                refine lv_goto (tgt := 53) hx hb dX2_isSign_49 (by decide) ?_
                obtain rfl := Option.some.inj hf
                exact hret rfl _ _ _ _ hP hD hS dX2_isSign_53
              · have hf := zk_f c8 hf
                refine lv_iload_n hx hb dX2_isSign_42 rfl (lv_at hl 0 rfl) ?_
                refine lv_bipush (v := (41 : Int32)) hx hb dX2_isSign_43 (by decide) ?_
                refine lv_icmp_ne (tgt := 52) hx hb dX2_isSign_45 (by decide) (fun c7 => ?_) (fun c7 => ?_)
                · have hf := zk_f c7 hf
                  refine lv_iconst (v := (0 : Int32)) hx hb dX2_isSign_52 (by decide) ?_
                  obtain rfl := Option.some.inj hf
                  exact hret rfl _ _ _ _ hP hD hS dX2_isSign_53
                · have hf := zk_t c7 hf
                  refine lv_iconst (v := (1 : Int32)) hx hb dX2_isSign_48 (by decide) ?_
                  refine lv_goto (tgt := 53) hx hb dX2_isSign_49 (by decide) ?_
                  obtain rfl := Option.some.inj hf
                  exact hret rfl _ _ _ _ hP hD hS dX2_isSign_53
def zf_X2_beginsToken (x0 : Int32) (v_tx_length : Int32) (f_tx_bytes : Nat → Int32) : Option (Int32) :=
  (zf_X2_isSmall x0 v_tx_length f_tx_bytes).bind (fun v1 =>
  if v1 = 0 then
  zk_gd (zk_in x0 300)
  (if (f_tx_bytes x0.toNatClampNeg) = (32 : Int32) then
  some (0 : Int32)
  else
  some (1 : Int32))
  else
  (zf_X2_isSmall (x0 - (1 : Int32)) v_tx_length f_tx_bytes).bind (fun v2 =>
  if v2 = 0 then
  some (1 : Int32)
  else
  some (0 : Int32)))
theorem hd_X2_beginsToken : yX2_beginsToken.cls = RX2 ∧ yX2_beginsToken.cls ≠ "java/lang/invoke/MethodHandle" ∧ yX2_beginsToken.cls ≠ "java/lang/invoke/VarHandle" ∧ (parseMethodDescriptor yX2_beginsToken.desc).map (fun d => d.parameters.length) = some 1 := by decide +kernel
set_option maxHeartbeats 4000000 in
set_option maxRecDepth 100000 in
theorem zc_X2_beginsToken (l : Launch) (D : va_G) (tL tO : Nat) (cI cJ cB cQ : ClassId) (a_tx a_tx_bytes a_tx_tokens a_tx_places : Nat) (x0 : Int32) (v_tx_length : Int32) (f_tx_bytes : Nat → Int32) (z : Int32) (hf : zf_X2_beginsToken x0 v_tx_length f_tx_bytes = some z) : zk_CT l D tL tO (zk_ty cI cJ cB cQ) yX2_beginsToken wsX2_beginsToken 1 21 [.ref a_tx, .int x0] (some (.int z)) [(a_tx, .inr (2, [.ref a_tx_bytes, .int v_tx_length, .ref a_tx_tokens, .ref a_tx_places])), (a_tx_bytes, .inl (cI, 300, .inl f_tx_bytes))] [(a_tx, .inr (2, [.ref a_tx_bytes, .int v_tx_length, .ref a_tx_tokens, .ref a_tx_places])), (a_tx_bytes, .inl (cI, 300, .inl f_tx_bytes))] := by
  refine zk_of_z (cc := cX2_beginsToken) (maxL := 2) (by decide) rfl (Nat.le_of_ble_eq_true rfl) ?_
  intro p e R s m args below meth c A Q ls hx hb hml hRf hRl hts hown hP hK hD hA hS hG hl hret
  have hl : lv_has ls 2 [(0, .ref a_tx), (1, .int x0)] := hl
  have hown : s.vm.findClass RX2 = some m.cls := hown
  have hcs : 0 ≤ R.cells ∧ 0 ≤ R.slots := ⟨Nat.zero_le _, Nat.zero_le _⟩
  have lk0 := hts (.fieldLink RX2 9 "SayingsMerged$Text" "bytes" "[I") (by decide +kernel)
  have inX2 : ∀ w ∈ wsX20, w ∈ wsX2_beginsToken := by decide +kernel
  unfold zf_X2_beginsToken at hf
  refine lv_aload_n hx hb dX2_beginsToken_0 rfl (lv_at hl 0 rfl) ?_
  refine lv_iload_n hx hb dX2_beginsToken_1 rfl (lv_at hl 1 rfl) ?_
  obtain ⟨v1, hv1, hf⟩ := zk_ob hf
  refine zk_goR (zk_V (As := [.int x0]) (rest := []) hx hb hml hown hts hK hG hP hD hS hA gX2_beginsToken_X2_isSmall rfl hd_X2_isSmall (Nat.le_trans (Nat.le_of_ble_eq_true rfl) hRf) (Nat.le_trans (Nat.le_of_ble_eq_true rfl) hRl) hcs (zc_X2_isSmall l D tL tO cI cJ cB cQ a_tx a_tx_bytes a_tx_tokens a_tx_places x0 v_tx_length f_tx_bytes v1 hv1) rfl rfl 0 rfl hl.1 rfl rfl (Nat.le_of_ble_eq_true rfl) dX2_beginsToken_2 [0, 1] rfl rfl) hP hD hS hA [0, 1] rfl (fun H locs hP hS => ?_)
  refine lv_if_ne (tgt := 25) hx hb dX2_beginsToken_5 (by decide) (fun c6 => ?_) (fun c6 => ?_)
  · have hf := zk_f c6 hf
    refine lv_aload_n hx hb dX2_beginsToken_25 rfl (lv_at hl 0 rfl) ?_
    refine lv_iload_n hx hb dX2_beginsToken_26 rfl (lv_at hl 1 rfl) ?_
    refine lv_iconst (v := (1 : Int32)) hx hb dX2_beginsToken_27 (by decide) ?_
    refine lv_isub hx hb dX2_beginsToken_28 ?_
    obtain ⟨v2, hv2, hf⟩ := zk_ob hf
    refine zk_goR (zk_V (As := [.int (x0 - (1 : Int32))]) (rest := []) hx hb hml hown hts hK hG hP hD hS hA gX2_beginsToken_X2_isSmall rfl hd_X2_isSmall (Nat.le_trans (Nat.le_of_ble_eq_true rfl) hRf) (Nat.le_trans (Nat.le_of_ble_eq_true rfl) hRl) hcs (zc_X2_isSmall l D tL tO cI cJ cB cQ a_tx a_tx_bytes a_tx_tokens a_tx_places (x0 - (1 : Int32)) v_tx_length f_tx_bytes v2 hv2) rfl rfl 0 rfl hl.1 rfl rfl (Nat.le_of_ble_eq_true rfl) dX2_beginsToken_29 [0, 1] rfl rfl) hP hD hS hA [0, 1] rfl (fun H locs hP hS => ?_)
    refine lv_if_ne (tgt := 39) hx hb dX2_beginsToken_32 (by decide) (fun c3 => ?_) (fun c3 => ?_)
    · have hf := zk_f c3 hf
      refine lv_iconst (v := (0 : Int32)) hx hb dX2_beginsToken_39 (by decide) ?_
      obtain rfl := Option.some.inj hf
      exact hret rfl _ _ _ _ hP hD hS dX2_beginsToken_40
    · have hf := zk_t c3 hf
      refine lv_iconst (v := (1 : Int32)) hx hb dX2_beginsToken_35 (by decide) ?_
      refine lv_goto (tgt := 40) hx hb dX2_beginsToken_36 (by decide) ?_
      obtain rfl := Option.some.inj hf
      exact hret rfl _ _ _ _ hP hD hS dX2_beginsToken_40
  · have hf := zk_t c6 hf
    refine lv_aload_n hx hb dX2_beginsToken_8 rfl (lv_at hl 0 rfl) ?_
    refine va_get (ci := 2) (v := .ref a_tx_bytes) (C := RX2) (T := TX2) (N := 4) hx hb hts inX2 hown hK hP 0 rfl rfl 0 (by decide) lk0 (fun _ h9 => h9) rfl dX2_beginsToken_9 ?_
    refine lv_iload_n hx hb dX2_beginsToken_12 rfl (lv_at hl 1 rfl) ?_
    obtain ⟨g4, hf⟩ := zk_gd_s hf
    refine va_iald hx hb hK hP 1 0 rfl rfl (zk_in_s g4) dX2_beginsToken_13 ?_
    refine lv_bipush (v := (32 : Int32)) hx hb dX2_beginsToken_14 (by decide) ?_
    refine lv_icmp_eq (tgt := 23) hx hb dX2_beginsToken_16 (by decide) (fun c5 => ?_) (fun c5 => ?_)
    · have hf := zk_t c5 hf
      refine lv_iconst (v := (0 : Int32)) hx hb dX2_beginsToken_23 (by decide) ?_
      obtain rfl := Option.some.inj hf
      exact hret rfl _ _ _ _ hP hD hS dX2_beginsToken_24
    · have hf := zk_f c5 hf
      refine lv_iconst (v := (1 : Int32)) hx hb dX2_beginsToken_19 (by decide) ?_
      refine lv_goto (tgt := 24) hx hb dX2_beginsToken_20 (by decide) ?_
      obtain rfl := Option.some.inj hf
      exact hret rfl _ _ _ _ hP hD hS dX2_beginsToken_24
def zl_X2_wordAt_2 (x0 : Int32) (v_tx_length : Int32) (f_tx_bytes : Nat → Int32) : Nat → (Int32) → Option (Int32)
  | 0, _ => none
  | n + 1, w1 =>
    if v_tx_length ≤ (x0 + w1) then
    some w1
    else
    (zf_X2_isSmall (x0 + w1) v_tx_length f_tx_bytes).bind (fun v2 =>
    if v2 = 0 then
    some w1
    else
    zk_lt (w1 + 1) (fun y3 =>
    zl_X2_wordAt_2 x0 v_tx_length f_tx_bytes n y3))
def zf_X2_wordAt (x0 : Int32) (v_tx_length : Int32) (f_tx_bytes : Nat → Int32) : Option (Int32) :=
  (zl_X2_wordAt_2 x0 v_tx_length f_tx_bytes zk_F (1 : Int32)).bind (fun v6 =>
  if v6 = (1 : Int32) then
  zk_gd (zk_in x0 300)
  ((zf_X4_isLetter (f_tx_bytes x0.toNatClampNeg)).bind (fun v21 =>
  if v21 = 0 then
  some (259 : Int32)
  else
  some (f_tx_bytes x0.toNatClampNeg)))
  else
  if v6 = (3 : Int32) then
  zk_gd (zk_in (x0 + (1 : Int32)) 300)
  (if (f_tx_bytes (x0 + (1 : Int32)).toNatClampNeg) = (97 : Int32) then
  zk_gd (zk_in x0 300)
  ((if (f_tx_bytes x0.toNatClampNeg) = (108 : Int32) then
  zk_gd (zk_in (x0 + (2 : Int32)) 300)
  (if (f_tx_bytes (x0 + (2 : Int32)).toNatClampNeg) = (119 : Int32) then
  some (Sum.inr (256 : Int32))
  else
  some (Sum.inl ()))
  else
  some (Sum.inl ())).bind (fun v9 =>
  zk_su v9
  (fun u10 =>
  if (f_tx_bytes x0.toNatClampNeg) = (115 : Int32) then
  zk_gd (zk_in (x0 + (2 : Int32)) 300)
  (if (f_tx_bytes (x0 + (2 : Int32)).toNatClampNeg) = (121 : Int32) then
  some (257 : Int32)
  else
  some (259 : Int32))
  else
  some (259 : Int32))
  (fun r17 => some r17)))
  else
  some (259 : Int32))
  else
  some (259 : Int32))
theorem hd_X2_wordAt : yX2_wordAt.cls = RX2 ∧ yX2_wordAt.cls ≠ "java/lang/invoke/MethodHandle" ∧ yX2_wordAt.cls ≠ "java/lang/invoke/VarHandle" ∧ (parseMethodDescriptor yX2_wordAt.desc).map (fun d => d.parameters.length) = some 1 := by decide +kernel
set_option maxHeartbeats 4000000 in
set_option maxRecDepth 100000 in
theorem zc_X2_wordAt (l : Launch) (D : va_G) (tL tO : Nat) (cI cJ cB cQ : ClassId) (a_tx a_tx_bytes a_tx_tokens a_tx_places : Nat) (x0 : Int32) (v_tx_length : Int32) (f_tx_bytes : Nat → Int32) (z : Int32) (hf : zf_X2_wordAt x0 v_tx_length f_tx_bytes = some z) : zk_CT l D tL tO (zk_ty cI cJ cB cQ) yX2_wordAt wsX2_wordAt 1 21 [.ref a_tx, .int x0] (some (.int z)) [(a_tx, .inr (2, [.ref a_tx_bytes, .int v_tx_length, .ref a_tx_tokens, .ref a_tx_places])), (a_tx_bytes, .inl (cI, 300, .inl f_tx_bytes))] [(a_tx, .inr (2, [.ref a_tx_bytes, .int v_tx_length, .ref a_tx_tokens, .ref a_tx_places])), (a_tx_bytes, .inl (cI, 300, .inl f_tx_bytes))] := by
  refine zk_of_i (cc := cX2_wordAt) (maxL := 3) (by decide) rfl (Nat.le_of_ble_eq_true rfl) ?_
  intro p e R s m args below meth c A Q ls hx hb hml hRf hRl hts hown hP hK hD hA hS hG hl hret
  have hl : lv_has ls 3 [(0, .ref a_tx), (1, .int x0)] := hl
  have hown : s.vm.findClass RX2 = some m.cls := hown
  have hcs : 0 ≤ R.cells ∧ 0 ≤ R.slots := ⟨Nat.zero_le _, Nat.zero_le _⟩
  have lk0 := hts (.fieldLink RX2 15 "SayingsMerged$Text" "length" "I") (by decide +kernel)
  have inX2 : ∀ w ∈ wsX20, w ∈ wsX2_wordAt := by decide +kernel
  have lk2 := hts (.fieldLink RX2 9 "SayingsMerged$Text" "bytes" "[I") (by decide +kernel)
  have lk3 := hts (.static yX4_isLetter) (by decide +kernel)
  have lk4 := hts (.initialized RX4) (by decide +kernel)
  unfold zf_X2_wordAt at hf
  refine lv_iconst (v := (1 : Int32)) hx hb dX2_wordAt_0 (by decide) ?_
  refine lv_istore_n (lv' := [(2, .int (1 : Int32)), (0, .ref a_tx), (1, .int x0)]) hx hb dX2_wordAt_1 rfl hl (by decide) rfl (fun ls hl => ?_)
  have lp2 : ∀ (n : Nat) (w1 : Int32) (z2 : Int32) (H : Heap) (locs : List Loc) (ls : Array Slot), zl_X2_wordAt_2 x0 v_tx_length f_tx_bytes n w1 = some z2 → va_P D vwCl [(a_tx, .inr (2, [.ref a_tx_bytes, .int v_tx_length, .ref a_tx_tokens, .ref a_tx_places])), (a_tx_bytes, .inl (cI, 300, .inl f_tx_bytes))] H → va_D A [(a_tx, .inr (2, [.ref a_tx_bytes, .int v_tx_length, .ref a_tx_tokens, .ref a_tx_places])), (a_tx_bytes, .inl (cI, 300, .inl f_tx_bytes))] → va_S A s.heap H locs → lv_has ls 3 [(0, .ref a_tx), (1, .int x0), (2, .int w1)] → (∀ (H : Heap) (locs : List Loc) (ls : Array Slot), va_P D vwCl [(a_tx, .inr (2, [.ref a_tx_bytes, .int v_tx_length, .ref a_tx_tokens, .ref a_tx_places])), (a_tx_bytes, .inl (cI, 300, .inl f_tx_bytes))] H → va_D A [(a_tx, .inr (2, [.ref a_tx_bytes, .int v_tx_length, .ref a_tx_tokens, .ref a_tx_places])), (a_tx_bytes, .inl (cI, 300, .inl f_tx_bytes))] → va_S A s.heap H locs → lv_has ls 3 [(0, .ref a_tx), (1, .int x0), (2, .int z2)] → W p l e R s m args below meth c H locs 0 0 Q (F0 m 28 ls [])) → W p l e R s m args below meth c H locs 0 0 Q (F0 m 2 ls []) := by
    intro n
    induction n with
    | zero => intro w1 z2 H locs ls hf; exact absurd (show none = some z2 from hf) (by simp)
    | succ n ih =>
      intro w1 z2 H locs ls hf hP hD hS hl hk
      rw [zl_X2_wordAt_2] at hf
      refine lv_iload_n hx hb dX2_wordAt_2 rfl (lv_at hl 1 rfl) ?_
      refine lv_iload_n hx hb dX2_wordAt_3 rfl (lv_at hl 2 rfl) ?_
      refine lv_iadd hx hb dX2_wordAt_4 ?_
      refine lv_aload_n hx hb dX2_wordAt_5 rfl (lv_at hl 0 rfl) ?_
      refine va_get (ci := 2) (v := .int v_tx_length) (C := RX2) (T := TX2) (N := 4) hx hb hts inX2 hown hK hP 0 rfl rfl 1 (by decide) lk0 (fun _ h9 => h9) rfl dX2_wordAt_6 ?_
      refine lv_icmp_ge (tgt := 28) hx hb dX2_wordAt_9 (by decide) (fun c5 => ?_) (fun c5 => ?_)
      · have hf := zk_t c5 hf
        obtain rfl := Option.some.inj hf
        exact hk _ _ _ hP hD hS (lv_sub hl [0, 1, 2] rfl)
      · have hf := zk_f c5 hf
        refine lv_aload_n hx hb dX2_wordAt_12 rfl (lv_at hl 0 rfl) ?_
        refine lv_iload_n hx hb dX2_wordAt_13 rfl (lv_at hl 1 rfl) ?_
        refine lv_iload_n hx hb dX2_wordAt_14 rfl (lv_at hl 2 rfl) ?_
        refine lv_iadd hx hb dX2_wordAt_15 ?_
        obtain ⟨v2, hv2, hf⟩ := zk_ob hf
        refine zk_goR (zk_V (As := [.int (x0 + w1)]) (rest := []) hx hb hml hown hts hK hG hP hD hS hA gX2_wordAt_X2_isSmall rfl hd_X2_isSmall (Nat.le_trans (Nat.le_of_ble_eq_true rfl) hRf) (Nat.le_trans (Nat.le_of_ble_eq_true rfl) hRl) hcs (zc_X2_isSmall l D tL tO cI cJ cB cQ a_tx a_tx_bytes a_tx_tokens a_tx_places (x0 + w1) v_tx_length f_tx_bytes v2 hv2) rfl rfl 0 rfl hl.1 rfl rfl (Nat.le_of_ble_eq_true rfl) dX2_wordAt_16 [0, 1] rfl rfl) hP hD hS hA [0, 1] rfl (fun H locs hP hS => ?_)
        refine lv_if_eq (tgt := 28) hx hb dX2_wordAt_19 (by decide) (fun c4 => ?_) (fun c4 => ?_)
        · have hf := zk_t c4 hf
          obtain rfl := Option.some.inj hf
          exact hk _ _ _ hP hD hS (lv_sub hl [0, 1, 2] rfl)
        · have hf := zk_f c4 hf
          obtain ⟨y3, ey3, hf⟩ := zk_lt_s hf
          refine lv_iinc (v := y3) (lv' := [(2, .int y3), (0, .ref a_tx), (1, .int x0)]) hx hb dX2_wordAt_22 hl (k := 2) rfl (by rw [ey3]; rfl) (by decide) rfl (fun ls hl => ?_)
          refine lv_goto (tgt := 2) hx hb dX2_wordAt_25 (by decide) ?_
          exact ih y3 _ _ _ _ hf hP hD hS (lv_sub hl [1, 2, 0] rfl) hk
  obtain ⟨v6, hv6, hf⟩ := zk_ob hf
  refine lp2 zk_F (1 : Int32) v6 _ _ _ hv6 hP hD hS (lv_sub hl [1, 2, 0] rfl) ?_
  intro H locs ls hP hD hS hl
  refine lv_iload_n hx hb dX2_wordAt_28 rfl (lv_at hl 2 rfl) ?_
  refine lv_iconst (v := (1 : Int32)) hx hb dX2_wordAt_29 (by decide) ?_
  refine lv_icmp_ne (tgt := 58) hx hb dX2_wordAt_30 (by decide) (fun c23 => ?_) (fun c23 => ?_)
  · have hf := zk_f c23 hf
    refine lv_iload_n hx hb dX2_wordAt_58 rfl (lv_at hl 2 rfl) ?_
    refine lv_iconst (v := (3 : Int32)) hx hb dX2_wordAt_59 (by decide) ?_
    refine lv_icmp_ne (tgt := 76) hx hb dX2_wordAt_60 (by decide) (fun c19 => ?_) (fun c19 => ?_)
    · have hf := zk_f c19 hf
      refine lv_sipush (v := (259 : Int32)) hx hb dX2_wordAt_76 (by decide) ?_
      obtain rfl := Option.some.inj hf
      exact hret trivial _ _ _ _ hP hD hS dX2_wordAt_79
    · have hf := zk_t c19 hf
      refine lv_aload_n hx hb dX2_wordAt_63 rfl (lv_at hl 0 rfl) ?_
      refine va_get (ci := 2) (v := .ref a_tx_bytes) (C := RX2) (T := TX2) (N := 4) hx hb hts inX2 hown hK hP 0 rfl rfl 0 (by decide) lk2 (fun _ h9 => h9) rfl dX2_wordAt_64 ?_
      refine lv_iload_n hx hb dX2_wordAt_67 rfl (lv_at hl 1 rfl) ?_
      refine lv_iconst (v := (1 : Int32)) hx hb dX2_wordAt_68 (by decide) ?_
      refine lv_iadd hx hb dX2_wordAt_69 ?_
      obtain ⟨g7, hf⟩ := zk_gd_s hf
      refine va_iald hx hb hK hP 1 0 rfl rfl (zk_in_s g7) dX2_wordAt_70 ?_
      refine lv_bipush (v := (97 : Int32)) hx hb dX2_wordAt_71 (by decide) ?_
      refine lv_icmp_eq (tgt := 80) hx hb dX2_wordAt_73 (by decide) (fun c18 => ?_) (fun c18 => ?_)
      · have hf := zk_t c18 hf
        refine lv_aload_n hx hb dX2_wordAt_80 rfl (lv_at hl 0 rfl) ?_
        refine va_get (ci := 2) (v := .ref a_tx_bytes) (C := RX2) (T := TX2) (N := 4) hx hb hts inX2 hown hK hP 0 rfl rfl 0 (by decide) lk2 (fun _ h9 => h9) rfl dX2_wordAt_81 ?_
        refine lv_iload_n hx hb dX2_wordAt_84 rfl (lv_at hl 1 rfl) ?_
        obtain ⟨g8, hf⟩ := zk_gd_s hf
        refine va_iald hx hb hK hP 1 0 rfl rfl (zk_in_s g8) dX2_wordAt_85 ?_
        refine lv_bipush (v := (108 : Int32)) hx hb dX2_wordAt_86 (by decide) ?_
        obtain ⟨v9, hv9, hf⟩ := zk_ob hf
        have kv9_0 : ∀ u10 : Unit, v9 = Sum.inl u10 → ∀ (H : Heap) (locs : List Loc) (ls : Array Slot), va_P D vwCl [(a_tx, .inr (2, [.ref a_tx_bytes, .int v_tx_length, .ref a_tx_tokens, .ref a_tx_places])), (a_tx_bytes, .inl (cI, 300, .inl f_tx_bytes))] H → va_D A [(a_tx, .inr (2, [.ref a_tx_bytes, .int v_tx_length, .ref a_tx_tokens, .ref a_tx_places])), (a_tx_bytes, .inl (cI, 300, .inl f_tx_bytes))] → va_S A s.heap H locs → lv_has ls 3 [(0, .ref a_tx), (1, .int x0), (2, .int v6)] → W p l e R s m args below meth c H locs 0 0 Q (F0 m 108 ls []) := by
          intro u10 hu10 H locs ls hP hD hS hl
          subst hu10
          have hf := zk_su_l hf
          refine lv_aload_n hx hb dX2_wordAt_108 rfl (lv_at hl 0 rfl) ?_
          refine va_get (ci := 2) (v := .ref a_tx_bytes) (C := RX2) (T := TX2) (N := 4) hx hb hts inX2 hown hK hP 0 rfl rfl 0 (by decide) lk2 (fun _ h9 => h9) rfl dX2_wordAt_109 ?_
          refine lv_iload_n hx hb dX2_wordAt_112 rfl (lv_at hl 1 rfl) ?_
          refine va_iald hx hb hK hP 1 0 rfl rfl (zk_in_s g8) dX2_wordAt_113 ?_
          refine lv_bipush (v := (115 : Int32)) hx hb dX2_wordAt_114 (by decide) ?_
          refine lv_icmp_ne (tgt := 138) hx hb dX2_wordAt_116 (by decide) (fun c13 => ?_) (fun c13 => ?_)
          · have hf := zk_f c13 hf
            refine lv_sipush (v := (259 : Int32)) hx hb dX2_wordAt_138 (by decide) ?_
            obtain rfl := Option.some.inj hf
            exact hret trivial _ _ _ _ hP hD hS dX2_wordAt_141
          · have hf := zk_t c13 hf
            refine lv_aload_n hx hb dX2_wordAt_119 rfl (lv_at hl 0 rfl) ?_
            refine va_get (ci := 2) (v := .ref a_tx_bytes) (C := RX2) (T := TX2) (N := 4) hx hb hts inX2 hown hK hP 0 rfl rfl 0 (by decide) lk2 (fun _ h9 => h9) rfl dX2_wordAt_120 ?_
            refine lv_iload_n hx hb dX2_wordAt_123 rfl (lv_at hl 1 rfl) ?_
            refine lv_iconst (v := (2 : Int32)) hx hb dX2_wordAt_124 (by decide) ?_
            refine lv_iadd hx hb dX2_wordAt_125 ?_
            obtain ⟨g11, hf⟩ := zk_gd_s hf
            refine va_iald hx hb hK hP 1 0 rfl rfl (zk_in_s g11) dX2_wordAt_126 ?_
            refine lv_bipush (v := (121 : Int32)) hx hb dX2_wordAt_127 (by decide) ?_
            refine lv_icmp_ne (tgt := 138) hx hb dX2_wordAt_129 (by decide) (fun c12 => ?_) (fun c12 => ?_)
            · have hf := zk_f c12 hf
              refine lv_sipush (v := (259 : Int32)) hx hb dX2_wordAt_138 (by decide) ?_
              obtain rfl := Option.some.inj hf
              exact hret trivial _ _ _ _ hP hD hS dX2_wordAt_141
            · have hf := zk_t c12 hf
              refine lv_sipush (v := (257 : Int32)) hx hb dX2_wordAt_132 (by decide) ?_
              refine lv_goto (tgt := 141) hx hb dX2_wordAt_135 (by decide) ?_
              obtain rfl := Option.some.inj hf
              exact hret trivial _ _ _ _ hP hD hS dX2_wordAt_141
        have kv9_r : ∀ r17 : Int32, v9 = Sum.inr r17 → r17 = z := by
          intro r17 hr17
          subst hr17
          have hf := zk_su_r hf
          exact Option.some.inj hf
        replace hf := hv9
        refine lv_icmp_ne (tgt := 108) hx hb dX2_wordAt_88 (by decide) (fun c16 => ?_) (fun c16 => ?_)
        · have hf := zk_f c16 hf
          exact kv9_0 _ (Option.some.inj hf).symm _ _ _ hP hD hS (lv_sub hl [0, 1, 2] rfl)
        · have hf := zk_t c16 hf
          refine lv_aload_n hx hb dX2_wordAt_91 rfl (lv_at hl 0 rfl) ?_
          refine va_get (ci := 2) (v := .ref a_tx_bytes) (C := RX2) (T := TX2) (N := 4) hx hb hts inX2 hown hK hP 0 rfl rfl 0 (by decide) lk2 (fun _ h9 => h9) rfl dX2_wordAt_92 ?_
          refine lv_iload_n hx hb dX2_wordAt_95 rfl (lv_at hl 1 rfl) ?_
          refine lv_iconst (v := (2 : Int32)) hx hb dX2_wordAt_96 (by decide) ?_
          refine lv_iadd hx hb dX2_wordAt_97 ?_
          obtain ⟨g14, hf⟩ := zk_gd_s hf
          refine va_iald hx hb hK hP 1 0 rfl rfl (zk_in_s g14) dX2_wordAt_98 ?_
          refine lv_bipush (v := (119 : Int32)) hx hb dX2_wordAt_99 (by decide) ?_
          refine lv_icmp_ne (tgt := 108) hx hb dX2_wordAt_101 (by decide) (fun c15 => ?_) (fun c15 => ?_)
          · have hf := zk_f c15 hf
            exact kv9_0 _ (Option.some.inj hf).symm _ _ _ hP hD hS (lv_sub hl [0, 1, 2] rfl)
          · have hf := zk_t c15 hf
            refine lv_sipush (v := (256 : Int32)) hx hb dX2_wordAt_104 (by decide) ?_
            obtain rfl := kv9_r _ (Option.some.inj hf).symm
            exact hret trivial _ _ _ _ hP hD hS dX2_wordAt_107
      · have hf := zk_f c18 hf
        refine lv_sipush (v := (259 : Int32)) hx hb dX2_wordAt_76 (by decide) ?_
        obtain rfl := Option.some.inj hf
        exact hret trivial _ _ _ _ hP hD hS dX2_wordAt_79
  · have hf := zk_t c23 hf
    refine lv_aload_n hx hb dX2_wordAt_33 rfl (lv_at hl 0 rfl) ?_
    refine va_get (ci := 2) (v := .ref a_tx_bytes) (C := RX2) (T := TX2) (N := 4) hx hb hts inX2 hown hK hP 0 rfl rfl 0 (by decide) lk2 (fun _ h9 => h9) rfl dX2_wordAt_34 ?_
    refine lv_iload_n hx hb dX2_wordAt_37 rfl (lv_at hl 1 rfl) ?_
    obtain ⟨g20, hf⟩ := zk_gd_s hf
    refine va_iald hx hb hK hP 1 0 rfl rfl (zk_in_s g20) dX2_wordAt_38 ?_
    obtain ⟨v21, hv21, hf⟩ := zk_ob hf
    refine zk_goR (zk_SN (host := "SayingsMerged") (As := [.int (f_tx_bytes x0.toNatClampNeg)]) (rest := []) hx hb hml hown hts hK hG hP hD hS hA gX2_wordAt_X4_isLetter_n42 (by decide +kernel) lk3 lk4 rfl hd_X4_isLetter (Nat.le_trans (Nat.le_of_ble_eq_true rfl) hRf) (Nat.le_trans (Nat.le_of_ble_eq_true rfl) hRl) hcs (zc_X4_isLetter l D tL tO cI cJ cB cQ (f_tx_bytes x0.toNatClampNeg) v21 hv21) hl.1 rfl rfl (Nat.le_of_ble_eq_true rfl) dX2_wordAt_39 [] rfl rfl) hP hD hS hA [] rfl (fun H locs hP hS => ?_)
    refine lv_if_eq (tgt := 54) hx hb dX2_wordAt_42 (by decide) (fun c22 => ?_) (fun c22 => ?_)
    · have hf := zk_t c22 hf
      refine lv_sipush (v := (259 : Int32)) hx hb dX2_wordAt_54 (by decide) ?_
      obtain rfl := Option.some.inj hf
      exact hret trivial _ _ _ _ hP hD hS dX2_wordAt_57
    · have hf := zk_f c22 hf
      refine lv_aload_n hx hb dX2_wordAt_45 rfl (lv_at hl 0 rfl) ?_
      refine va_get (ci := 2) (v := .ref a_tx_bytes) (C := RX2) (T := TX2) (N := 4) hx hb hts inX2 hown hK hP 0 rfl rfl 0 (by decide) lk2 (fun _ h9 => h9) rfl dX2_wordAt_46 ?_
      refine lv_iload_n hx hb dX2_wordAt_49 rfl (lv_at hl 1 rfl) ?_
      refine va_iald hx hb hK hP 1 0 rfl rfl (zk_in_s g20) dX2_wordAt_50 ?_
      refine lv_goto (tgt := 57) hx hb dX2_wordAt_51 (by decide) ?_
      obtain rfl := Option.some.inj hf
      exact hret trivial _ _ _ _ hP hD hS dX2_wordAt_57
def zf_X2_tokenAt (x0 : Int32) (v_tx_length : Int32) (f_tx_bytes : Nat → Int32) : Option (Int32) :=
  (zf_X2_isSmall x0 v_tx_length f_tx_bytes).bind (fun v1 =>
  if v1 = 0 then
  zk_gd (zk_in x0 300)
  ((zf_X2_isSign (f_tx_bytes x0.toNatClampNeg)).bind (fun v3 =>
  if v3 = 0 then
  some (259 : Int32)
  else
  some (f_tx_bytes x0.toNatClampNeg)))
  else
  (zf_X2_wordAt x0 v_tx_length f_tx_bytes).bind (fun v5 =>
  some v5))
theorem hd_X2_tokenAt : yX2_tokenAt.cls = RX2 ∧ yX2_tokenAt.cls ≠ "java/lang/invoke/MethodHandle" ∧ yX2_tokenAt.cls ≠ "java/lang/invoke/VarHandle" ∧ (parseMethodDescriptor yX2_tokenAt.desc).map (fun d => d.parameters.length) = some 1 := by decide +kernel
set_option maxHeartbeats 4000000 in
set_option maxRecDepth 100000 in
theorem zc_X2_tokenAt (l : Launch) (D : va_G) (tL tO : Nat) (cI cJ cB cQ : ClassId) (a_tx a_tx_bytes a_tx_tokens a_tx_places : Nat) (x0 : Int32) (v_tx_length : Int32) (f_tx_bytes : Nat → Int32) (z : Int32) (hf : zf_X2_tokenAt x0 v_tx_length f_tx_bytes = some z) : zk_CT l D tL tO (zk_ty cI cJ cB cQ) yX2_tokenAt wsX2_tokenAt 2 43 [.ref a_tx, .int x0] (some (.int z)) [(a_tx, .inr (2, [.ref a_tx_bytes, .int v_tx_length, .ref a_tx_tokens, .ref a_tx_places])), (a_tx_bytes, .inl (cI, 300, .inl f_tx_bytes))] [(a_tx, .inr (2, [.ref a_tx_bytes, .int v_tx_length, .ref a_tx_tokens, .ref a_tx_places])), (a_tx_bytes, .inl (cI, 300, .inl f_tx_bytes))] := by
  refine zk_of_i (cc := cX2_tokenAt) (maxL := 2) (by decide) rfl (Nat.le_of_ble_eq_true rfl) ?_
  intro p e R s m args below meth c A Q ls hx hb hml hRf hRl hts hown hP hK hD hA hS hG hl hret
  have hl : lv_has ls 2 [(0, .ref a_tx), (1, .int x0)] := hl
  have hown : s.vm.findClass RX2 = some m.cls := hown
  have hcs : 0 ≤ R.cells ∧ 0 ≤ R.slots := ⟨Nat.zero_le _, Nat.zero_le _⟩
  have lk0 := hts (.fieldLink RX2 9 "SayingsMerged$Text" "bytes" "[I") (by decide +kernel)
  have inX2 : ∀ w ∈ wsX20, w ∈ wsX2_tokenAt := by decide +kernel
  unfold zf_X2_tokenAt at hf
  refine lv_aload_n hx hb dX2_tokenAt_0 rfl (lv_at hl 0 rfl) ?_
  refine lv_iload_n hx hb dX2_tokenAt_1 rfl (lv_at hl 1 rfl) ?_
  obtain ⟨v1, hv1, hf⟩ := zk_ob hf
  refine zk_goR (zk_V (As := [.int x0]) (rest := []) hx hb hml hown hts hK hG hP hD hS hA gX2_tokenAt_X2_isSmall rfl hd_X2_isSmall (Nat.le_trans (Nat.le_of_ble_eq_true rfl) hRf) (Nat.le_trans (Nat.le_of_ble_eq_true rfl) hRl) hcs (zc_X2_isSmall l D tL tO cI cJ cB cQ a_tx a_tx_bytes a_tx_tokens a_tx_places x0 v_tx_length f_tx_bytes v1 hv1) rfl rfl 0 rfl hl.1 rfl rfl (Nat.le_of_ble_eq_true rfl) dX2_tokenAt_2 [0, 1] rfl rfl) hP hD hS hA [0, 1] rfl (fun H locs hP hS => ?_)
  refine lv_if_eq (tgt := 14) hx hb dX2_tokenAt_5 (by decide) (fun c6 => ?_) (fun c6 => ?_)
  · have hf := zk_t c6 hf
    refine lv_aload_n hx hb dX2_tokenAt_14 rfl (lv_at hl 0 rfl) ?_
    refine va_get (ci := 2) (v := .ref a_tx_bytes) (C := RX2) (T := TX2) (N := 4) hx hb hts inX2 hown hK hP 0 rfl rfl 0 (by decide) lk0 (fun _ h9 => h9) rfl dX2_tokenAt_15 ?_
    refine lv_iload_n hx hb dX2_tokenAt_18 rfl (lv_at hl 1 rfl) ?_
    obtain ⟨g2, hf⟩ := zk_gd_s hf
    refine va_iald hx hb hK hP 1 0 rfl rfl (zk_in_s g2) dX2_tokenAt_19 ?_
    obtain ⟨v3, hv3, hf⟩ := zk_ob hf
    refine zk_goR (zk_S (As := [.int (f_tx_bytes x0.toNatClampNeg)]) (rest := []) hx hb hml hown hts hK hG hP hD hS hA gX2_tokenAt_X2_isSign rfl hd_X2_isSign (Nat.le_trans (Nat.le_of_ble_eq_true rfl) hRf) (Nat.le_trans (Nat.le_of_ble_eq_true rfl) hRl) hcs (zc_X2_isSign l D tL tO cI cJ cB cQ (f_tx_bytes x0.toNatClampNeg) v3 hv3) hl.1 rfl rfl (Nat.le_of_ble_eq_true rfl) dX2_tokenAt_20 [] rfl rfl) hP hD hS hA [] rfl (fun H locs hP hS => ?_)
    refine lv_if_eq (tgt := 35) hx hb dX2_tokenAt_23 (by decide) (fun c4 => ?_) (fun c4 => ?_)
    · have hf := zk_t c4 hf
      refine lv_sipush (v := (259 : Int32)) hx hb dX2_tokenAt_35 (by decide) ?_
      obtain rfl := Option.some.inj hf
      exact hret trivial _ _ _ _ hP hD hS dX2_tokenAt_38
    · have hf := zk_f c4 hf
      refine lv_aload_n hx hb dX2_tokenAt_26 rfl (lv_at hl 0 rfl) ?_
      refine va_get (ci := 2) (v := .ref a_tx_bytes) (C := RX2) (T := TX2) (N := 4) hx hb hts inX2 hown hK hP 0 rfl rfl 0 (by decide) lk0 (fun _ h9 => h9) rfl dX2_tokenAt_27 ?_
      refine lv_iload_n hx hb dX2_tokenAt_30 rfl (lv_at hl 1 rfl) ?_
      refine va_iald hx hb hK hP 1 0 rfl rfl (zk_in_s g2) dX2_tokenAt_31 ?_
      refine lv_goto (tgt := 38) hx hb dX2_tokenAt_32 (by decide) ?_
      obtain rfl := Option.some.inj hf
      exact hret trivial _ _ _ _ hP hD hS dX2_tokenAt_38
  · have hf := zk_f c6 hf
    refine lv_aload_n hx hb dX2_tokenAt_8 rfl (lv_at hl 0 rfl) ?_
    refine lv_iload_n hx hb dX2_tokenAt_9 rfl (lv_at hl 1 rfl) ?_
    obtain ⟨v5, hv5, hf⟩ := zk_ob hf
    refine zk_goR (zk_V (As := [.int x0]) (rest := []) hx hb hml hown hts hK hG hP hD hS hA gX2_tokenAt_X2_wordAt rfl hd_X2_wordAt (Nat.le_trans (Nat.le_of_ble_eq_true rfl) hRf) (Nat.le_trans (Nat.le_of_ble_eq_true rfl) hRl) hcs (zc_X2_wordAt l D tL tO cI cJ cB cQ a_tx a_tx_bytes a_tx_tokens a_tx_places x0 v_tx_length f_tx_bytes v5 hv5) rfl rfl 0 rfl hl.1 rfl rfl (Nat.le_of_ble_eq_true rfl) dX2_tokenAt_10 [0, 1] rfl rfl) hP hD hS hA [0, 1] rfl (fun H locs hP hS => ?_)
    obtain rfl := Option.some.inj hf
    exact hret trivial _ _ _ _ hP hD hS dX2_tokenAt_13
def zl_X2_findTokens_4 (v_tx_length : Int32) (f_tx_bytes : Nat → Int32) : Nat → (Int32) → (Int32) → (Nat → Int32) → (Nat → Int32) → Option (Int32 × Int32 × (Nat → Int32) × (Nat → Int32))
  | 0, _, _, _, _ => none
  | n + 1, w1, w2, w3, w4 =>
    if v_tx_length ≤ w2 then
    some (w1, w2, w3, w4)
    else
    (zf_X2_beginsToken w2 v_tx_length f_tx_bytes).bind (fun v5 =>
    if v5 = 0 then
    zk_lt (w2 + 1) (fun y6 =>
    zl_X2_findTokens_4 v_tx_length f_tx_bytes n w1 y6 w3 w4)
    else
    (zf_X2_tokenAt w2 v_tx_length f_tx_bytes).bind (fun v7 =>
    zk_gd (zk_in w1 301)
    (zk_lt (w1 + 1) (fun y9 =>
    zk_lt (w2 + 1) (fun y10 =>
    zl_X2_findTokens_4 v_tx_length f_tx_bytes n y9 y10 (upd w3 w1.toNatClampNeg v7) (upd w4 w1.toNatClampNeg w2))))))
def zf_X2_findTokens (v_tx_length : Int32) (f_tx_bytes : Nat → Int32) (f_tx_tokens : Nat → Int32) (f_tx_places : Nat → Int32) : Option ((Nat → Int32) × (Nat → Int32)) :=
  (zl_X2_findTokens_4 v_tx_length f_tx_bytes zk_F (0 : Int32) (0 : Int32) f_tx_tokens f_tx_places).bind (fun v13 =>
  zk_gd (zk_in v13.1 301)
  (some (upd v13.2.2.1 v13.1.toNatClampNeg (258 : Int32), upd v13.2.2.2 v13.1.toNatClampNeg v_tx_length)))
theorem hd_X2_findTokens : yX2_findTokens.cls = RX2 ∧ yX2_findTokens.cls ≠ "java/lang/invoke/MethodHandle" ∧ yX2_findTokens.cls ≠ "java/lang/invoke/VarHandle" ∧ (parseMethodDescriptor yX2_findTokens.desc).map (fun d => d.parameters.length) = some 0 := by decide +kernel
set_option maxHeartbeats 4000000 in
set_option maxRecDepth 100000 in
theorem zc_X2_findTokens (l : Launch) (D : va_G) (tL tO : Nat) (cI cJ cB cQ : ClassId) (a_tx a_tx_bytes a_tx_tokens a_tx_places : Nat) (v_tx_length : Int32) (f_tx_bytes : Nat → Int32) (f_tx_tokens : Nat → Int32) (f_tx_places : Nat → Int32) (z : (Nat → Int32) × (Nat → Int32)) (hf : zf_X2_findTokens v_tx_length f_tx_bytes f_tx_tokens f_tx_places = some z) : zk_CT l D tL tO (zk_ty cI cJ cB cQ) yX2_findTokens wsX2_findTokens 3 64 [.ref a_tx] none [(a_tx, .inr (2, [.ref a_tx_bytes, .int v_tx_length, .ref a_tx_tokens, .ref a_tx_places])), (a_tx_bytes, .inl (cI, 300, .inl f_tx_bytes)), (a_tx_tokens, .inl (cI, 301, .inl f_tx_tokens)), (a_tx_places, .inl (cI, 301, .inl f_tx_places))] [(a_tx, .inr (2, [.ref a_tx_bytes, .int v_tx_length, .ref a_tx_tokens, .ref a_tx_places])), (a_tx_bytes, .inl (cI, 300, .inl f_tx_bytes)), (a_tx_tokens, .inl (cI, 301, .inl z.1)), (a_tx_places, .inl (cI, 301, .inl z.2))] := by
  refine zk_of_v (cc := cX2_findTokens) (maxL := 3) (by decide) rfl (Nat.le_of_ble_eq_true rfl) ?_
  intro p e R s m args below meth c A Q ls hx hb hml hRf hRl hts hown hP hK hD hA hS hG hl hret
  have hl : lv_has ls 3 [(0, .ref a_tx)] := hl
  have hown : s.vm.findClass RX2 = some m.cls := hown
  have hcs : 0 ≤ R.cells ∧ 0 ≤ R.slots := ⟨Nat.zero_le _, Nat.zero_le _⟩
  have lk0 := hts (.fieldLink RX2 15 "SayingsMerged$Text" "length" "I") (by decide +kernel)
  have inX2 : ∀ w ∈ wsX20, w ∈ wsX2_findTokens := by decide +kernel
  have lk2 := hts (.fieldLink RX2 19 "SayingsMerged$Text" "tokens" "[I") (by decide +kernel)
  have lk3 := hts (.fieldLink RX2 22 "SayingsMerged$Text" "places" "[I") (by decide +kernel)
  unfold zf_X2_findTokens at hf
  refine lv_iconst (v := (0 : Int32)) hx hb dX2_findTokens_0 (by decide) ?_
  refine lv_istore_n (lv' := [(1, .int (0 : Int32)), (0, .ref a_tx)]) hx hb dX2_findTokens_1 rfl hl (by decide) rfl (fun ls hl => ?_)
  refine lv_iconst (v := (0 : Int32)) hx hb dX2_findTokens_2 (by decide) ?_
  refine lv_istore_n (lv' := [(2, .int (0 : Int32)), (1, .int (0 : Int32)), (0, .ref a_tx)]) hx hb dX2_findTokens_3 rfl hl (by decide) rfl (fun ls hl => ?_)
  have lp4 : ∀ (n : Nat) (w1 : Int32) (w2 : Int32) (w3 : Nat → Int32) (w4 : Nat → Int32) (z4 : Int32 × Int32 × (Nat → Int32) × (Nat → Int32)) (H : Heap) (locs : List Loc) (ls : Array Slot), zl_X2_findTokens_4 v_tx_length f_tx_bytes n w1 w2 w3 w4 = some z4 → va_P D vwCl [(a_tx, .inr (2, [.ref a_tx_bytes, .int v_tx_length, .ref a_tx_tokens, .ref a_tx_places])), (a_tx_bytes, .inl (cI, 300, .inl f_tx_bytes)), (a_tx_tokens, .inl (cI, 301, .inl w3)), (a_tx_places, .inl (cI, 301, .inl w4))] H → va_D A [(a_tx, .inr (2, [.ref a_tx_bytes, .int v_tx_length, .ref a_tx_tokens, .ref a_tx_places])), (a_tx_bytes, .inl (cI, 300, .inl f_tx_bytes)), (a_tx_tokens, .inl (cI, 301, .inl w3)), (a_tx_places, .inl (cI, 301, .inl w4))] → va_S A s.heap H locs → lv_has ls 3 [(0, .ref a_tx), (1, .int w1), (2, .int w2)] → (∀ (H : Heap) (locs : List Loc) (ls : Array Slot), va_P D vwCl [(a_tx, .inr (2, [.ref a_tx_bytes, .int v_tx_length, .ref a_tx_tokens, .ref a_tx_places])), (a_tx_bytes, .inl (cI, 300, .inl f_tx_bytes)), (a_tx_tokens, .inl (cI, 301, .inl z4.2.2.1)), (a_tx_places, .inl (cI, 301, .inl z4.2.2.2))] H → va_D A [(a_tx, .inr (2, [.ref a_tx_bytes, .int v_tx_length, .ref a_tx_tokens, .ref a_tx_places])), (a_tx_bytes, .inl (cI, 300, .inl f_tx_bytes)), (a_tx_tokens, .inl (cI, 301, .inl z4.2.2.1)), (a_tx_places, .inl (cI, 301, .inl z4.2.2.2))] → va_S A s.heap H locs → lv_has ls 3 [(0, .ref a_tx), (1, .int z4.1), (2, .int z4.2.1)] → W p l e R s m args below meth c H locs 0 0 Q (F0 m 47 ls [])) → W p l e R s m args below meth c H locs 0 0 Q (F0 m 4 ls []) := by
    intro n
    induction n with
    | zero => intro w1 w2 w3 w4 z4 H locs ls hf; exact absurd (show none = some z4 from hf) (by simp)
    | succ n ih =>
      intro w1 w2 w3 w4 z4 H locs ls hf hP hD hS hl hk
      rw [zl_X2_findTokens_4] at hf
      refine lv_iload_n hx hb dX2_findTokens_4 rfl (lv_at hl 2 rfl) ?_
      refine lv_aload_n hx hb dX2_findTokens_5 rfl (lv_at hl 0 rfl) ?_
      refine va_get (ci := 2) (v := .int v_tx_length) (C := RX2) (T := TX2) (N := 4) hx hb hts inX2 hown hK hP 0 rfl rfl 1 (by decide) lk0 (fun _ h9 => h9) rfl dX2_findTokens_6 ?_
      refine lv_icmp_ge (tgt := 47) hx hb dX2_findTokens_9 (by decide) (fun c12 => ?_) (fun c12 => ?_)
      · have hf := zk_t c12 hf
        obtain rfl := Option.some.inj hf
        exact hk _ _ _ hP hD hS (lv_sub hl [0, 1, 2] rfl)
      · have hf := zk_f c12 hf
        refine lv_aload_n hx hb dX2_findTokens_12 rfl (lv_at hl 0 rfl) ?_
        refine lv_iload_n hx hb dX2_findTokens_13 rfl (lv_at hl 2 rfl) ?_
        obtain ⟨v5, hv5, hf⟩ := zk_ob hf
        refine zk_goR (zk_V (As := [.int w2]) (rest := []) hx hb hml hown hts hK hG hP hD hS hA gX2_findTokens_X2_beginsToken rfl hd_X2_beginsToken (Nat.le_trans (Nat.le_of_ble_eq_true rfl) hRf) (Nat.le_trans (Nat.le_of_ble_eq_true rfl) hRl) hcs (zc_X2_beginsToken l D tL tO cI cJ cB cQ a_tx a_tx_bytes a_tx_tokens a_tx_places w2 v_tx_length f_tx_bytes v5 hv5) rfl rfl 0 rfl hl.1 rfl rfl (Nat.le_of_ble_eq_true rfl) dX2_findTokens_14 [0, 1] rfl rfl) hP hD hS hA [0, 1] rfl (fun H locs hP hS => ?_)
        refine lv_if_eq (tgt := 41) hx hb dX2_findTokens_17 (by decide) (fun c11 => ?_) (fun c11 => ?_)
        · have hf := zk_t c11 hf
          obtain ⟨y6, ey6, hf⟩ := zk_lt_s hf
          refine lv_iinc (v := y6) (lv' := [(2, .int y6), (0, .ref a_tx), (1, .int w1)]) hx hb dX2_findTokens_41 hl (k := 2) rfl (by rw [ey6]; rfl) (by decide) rfl (fun ls hl => ?_)
          refine lv_goto (tgt := 4) hx hb dX2_findTokens_44 (by decide) ?_
          exact ih w1 y6 w3 w4 _ _ _ _ hf hP hD hS (lv_sub hl [1, 2, 0] rfl) hk
        · have hf := zk_f c11 hf
          refine lv_aload_n hx hb dX2_findTokens_20 rfl (lv_at hl 0 rfl) ?_
          refine va_get (ci := 2) (v := .ref a_tx_tokens) (C := RX2) (T := TX2) (N := 4) hx hb hts inX2 hown hK hP 0 rfl rfl 2 (by decide) lk2 (fun _ h9 => h9) rfl dX2_findTokens_21 ?_
          refine lv_iload_n hx hb dX2_findTokens_24 rfl (lv_at hl 1 rfl) ?_
          refine lv_aload_n hx hb dX2_findTokens_25 rfl (lv_at hl 0 rfl) ?_
          refine lv_iload_n hx hb dX2_findTokens_26 rfl (lv_at hl 2 rfl) ?_
          obtain ⟨v7, hv7, hf⟩ := zk_ob hf
          refine zk_goR (zk_V (As := [.int w2]) (rest := [.int w1, .ref a_tx_tokens]) hx hb hml hown hts hK hG hP hD hS hA gX2_findTokens_X2_tokenAt rfl hd_X2_tokenAt (Nat.le_trans (Nat.le_of_ble_eq_true rfl) hRf) (Nat.le_trans (Nat.le_of_ble_eq_true rfl) hRl) hcs (zc_X2_tokenAt l D tL tO cI cJ cB cQ a_tx a_tx_bytes a_tx_tokens a_tx_places w2 v_tx_length f_tx_bytes v7 hv7) rfl rfl 0 rfl hl.1 rfl rfl (Nat.le_of_ble_eq_true rfl) dX2_findTokens_27 [0, 1] rfl rfl) hP hD hS hA [0, 1] rfl (fun H locs hP hS => ?_)
          obtain ⟨g8, hf⟩ := zk_gd_s hf
          refine va_iast hx hb hK hP hD hS 2 0 rfl rfl (zk_in_s g8) dX2_findTokens_30 (fun H locs hP hD hS => ?_)
          have hP : va_P D vwCl [(a_tx, .inr (2, [.ref a_tx_bytes, .int v_tx_length, .ref a_tx_tokens, .ref a_tx_places])), (a_tx_bytes, .inl (cI, 300, .inl f_tx_bytes)), (a_tx_tokens, .inl (cI, 301, .inl (upd w3 w1.toNatClampNeg v7))), (a_tx_places, .inl (cI, 301, .inl w4))] H := hP
          have hD : va_D A [(a_tx, .inr (2, [.ref a_tx_bytes, .int v_tx_length, .ref a_tx_tokens, .ref a_tx_places])), (a_tx_bytes, .inl (cI, 300, .inl f_tx_bytes)), (a_tx_tokens, .inl (cI, 301, .inl (upd w3 w1.toNatClampNeg v7))), (a_tx_places, .inl (cI, 301, .inl w4))] := hD
          refine lv_aload_n hx hb dX2_findTokens_31 rfl (lv_at hl 0 rfl) ?_
          refine va_get (ci := 2) (v := .ref a_tx_places) (C := RX2) (T := TX2) (N := 4) hx hb hts inX2 hown hK hP 0 rfl rfl 3 (by decide) lk3 (fun _ h9 => h9) rfl dX2_findTokens_32 ?_
          refine lv_iload_n hx hb dX2_findTokens_35 rfl (lv_at hl 1 rfl) ?_
          refine lv_iload_n hx hb dX2_findTokens_36 rfl (lv_at hl 2 rfl) ?_
          refine va_iast hx hb hK hP hD hS 3 0 rfl rfl (zk_in_s g8) dX2_findTokens_37 (fun H locs hP hD hS => ?_)
          have hP : va_P D vwCl [(a_tx, .inr (2, [.ref a_tx_bytes, .int v_tx_length, .ref a_tx_tokens, .ref a_tx_places])), (a_tx_bytes, .inl (cI, 300, .inl f_tx_bytes)), (a_tx_tokens, .inl (cI, 301, .inl (upd w3 w1.toNatClampNeg v7))), (a_tx_places, .inl (cI, 301, .inl (upd w4 w1.toNatClampNeg w2)))] H := hP
          have hD : va_D A [(a_tx, .inr (2, [.ref a_tx_bytes, .int v_tx_length, .ref a_tx_tokens, .ref a_tx_places])), (a_tx_bytes, .inl (cI, 300, .inl f_tx_bytes)), (a_tx_tokens, .inl (cI, 301, .inl (upd w3 w1.toNatClampNeg v7))), (a_tx_places, .inl (cI, 301, .inl (upd w4 w1.toNatClampNeg w2)))] := hD
          obtain ⟨y9, ey9, hf⟩ := zk_lt_s hf
          refine lv_iinc (v := y9) (lv' := [(1, .int y9), (0, .ref a_tx), (2, .int w2)]) hx hb dX2_findTokens_38 hl (k := 1) rfl (by rw [ey9]; rfl) (by decide) rfl (fun ls hl => ?_)
          obtain ⟨y10, ey10, hf⟩ := zk_lt_s hf
          refine lv_iinc (v := y10) (lv' := [(2, .int y10), (1, .int y9), (0, .ref a_tx)]) hx hb dX2_findTokens_41 hl (k := 2) rfl (by rw [ey10]; rfl) (by decide) rfl (fun ls hl => ?_)
          refine lv_goto (tgt := 4) hx hb dX2_findTokens_44 (by decide) ?_
          exact ih y9 y10 (upd w3 w1.toNatClampNeg v7) (upd w4 w1.toNatClampNeg w2) _ _ _ _ hf hP hD hS (lv_sub hl [2, 1, 0] rfl) hk
  obtain ⟨v13, hv13, hf⟩ := zk_ob hf
  refine lp4 zk_F (0 : Int32) (0 : Int32) f_tx_tokens f_tx_places v13 _ _ _ hv13 hP hD hS (lv_sub hl [2, 1, 0] rfl) ?_
  intro H locs ls hP hD hS hl
  refine lv_aload_n hx hb dX2_findTokens_47 rfl (lv_at hl 0 rfl) ?_
  refine va_get (ci := 2) (v := .ref a_tx_tokens) (C := RX2) (T := TX2) (N := 4) hx hb hts inX2 hown hK hP 0 rfl rfl 2 (by decide) lk2 (fun _ h9 => h9) rfl dX2_findTokens_48 ?_
  refine lv_iload_n hx hb dX2_findTokens_51 rfl (lv_at hl 1 rfl) ?_
  refine lv_sipush (v := (258 : Int32)) hx hb dX2_findTokens_52 (by decide) ?_
  obtain ⟨g14, hf⟩ := zk_gd_s hf
  refine va_iast hx hb hK hP hD hS 2 0 rfl rfl (zk_in_s g14) dX2_findTokens_55 (fun H locs hP hD hS => ?_)
  have hP : va_P D vwCl [(a_tx, .inr (2, [.ref a_tx_bytes, .int v_tx_length, .ref a_tx_tokens, .ref a_tx_places])), (a_tx_bytes, .inl (cI, 300, .inl f_tx_bytes)), (a_tx_tokens, .inl (cI, 301, .inl (upd v13.2.2.1 v13.1.toNatClampNeg (258 : Int32)))), (a_tx_places, .inl (cI, 301, .inl v13.2.2.2))] H := hP
  have hD : va_D A [(a_tx, .inr (2, [.ref a_tx_bytes, .int v_tx_length, .ref a_tx_tokens, .ref a_tx_places])), (a_tx_bytes, .inl (cI, 300, .inl f_tx_bytes)), (a_tx_tokens, .inl (cI, 301, .inl (upd v13.2.2.1 v13.1.toNatClampNeg (258 : Int32)))), (a_tx_places, .inl (cI, 301, .inl v13.2.2.2))] := hD
  refine lv_aload_n hx hb dX2_findTokens_56 rfl (lv_at hl 0 rfl) ?_
  refine va_get (ci := 2) (v := .ref a_tx_places) (C := RX2) (T := TX2) (N := 4) hx hb hts inX2 hown hK hP 0 rfl rfl 3 (by decide) lk3 (fun _ h9 => h9) rfl dX2_findTokens_57 ?_
  refine lv_iload_n hx hb dX2_findTokens_60 rfl (lv_at hl 1 rfl) ?_
  refine lv_aload_n hx hb dX2_findTokens_61 rfl (lv_at hl 0 rfl) ?_
  refine va_get (ci := 2) (v := .int v_tx_length) (C := RX2) (T := TX2) (N := 4) hx hb hts inX2 hown hK hP 0 rfl rfl 1 (by decide) lk0 (fun _ h9 => h9) rfl dX2_findTokens_62 ?_
  refine va_iast hx hb hK hP hD hS 3 0 rfl rfl (zk_in_s g14) dX2_findTokens_65 (fun H locs hP hD hS => ?_)
  have hP : va_P D vwCl [(a_tx, .inr (2, [.ref a_tx_bytes, .int v_tx_length, .ref a_tx_tokens, .ref a_tx_places])), (a_tx_bytes, .inl (cI, 300, .inl f_tx_bytes)), (a_tx_tokens, .inl (cI, 301, .inl (upd v13.2.2.1 v13.1.toNatClampNeg (258 : Int32)))), (a_tx_places, .inl (cI, 301, .inl (upd v13.2.2.2 v13.1.toNatClampNeg v_tx_length)))] H := hP
  have hD : va_D A [(a_tx, .inr (2, [.ref a_tx_bytes, .int v_tx_length, .ref a_tx_tokens, .ref a_tx_places])), (a_tx_bytes, .inl (cI, 300, .inl f_tx_bytes)), (a_tx_tokens, .inl (cI, 301, .inl (upd v13.2.2.1 v13.1.toNatClampNeg (258 : Int32)))), (a_tx_places, .inl (cI, 301, .inl (upd v13.2.2.2 v13.1.toNatClampNeg v_tx_length)))] := hD
  obtain rfl := Option.some.inj hf
  exact hret trivial _ _ _ _ hP hD hS dX2_findTokens_66
