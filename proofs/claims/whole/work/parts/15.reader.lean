def zf_X1_isFaulty (v_rd_fault : Int32) : Option (Int32) :=
  if v_rd_fault = (-1 : Int32) then
  some (0 : Int32)
  else
  some (1 : Int32)
theorem hd_X1_isFaulty : yX1_isFaulty.cls = RX1 ∧ yX1_isFaulty.cls ≠ "java/lang/invoke/MethodHandle" ∧ yX1_isFaulty.cls ≠ "java/lang/invoke/VarHandle" ∧ (parseMethodDescriptor yX1_isFaulty.desc).map (fun d => d.parameters.length) = some 0 := by decide +kernel
set_option maxHeartbeats 4000000 in
set_option maxRecDepth 100000 in
theorem zc_X1_isFaulty (l : Launch) (D : va_G) (tL tO : Nat) (cI cJ cB cQ : ClassId) (a_rd a_tx : Nat) (v_rd_at : Int32) (v_rd_token : Int32) (v_rd_fault : Int32) (z : Int32) (hf : zf_X1_isFaulty v_rd_fault = some z) : zk_CT l D tL tO (zk_ty cI cJ cB cQ) yX1_isFaulty wsX1_isFaulty 0 0 [.ref a_rd] (some (.int z)) [(a_rd, .inr (1, [.ref a_tx, .int v_rd_at, .int v_rd_token, .int v_rd_fault]))] [(a_rd, .inr (1, [.ref a_tx, .int v_rd_at, .int v_rd_token, .int v_rd_fault]))] := by
  refine zk_of_z (cc := cX1_isFaulty) (maxL := 1) (by decide) rfl (Nat.le_of_ble_eq_true rfl) ?_
  intro p e R s m args below meth c A Q ls hx hb hml hRf hRl hts hown hP hK hD hA hS hG hl hret
  have hl : lv_has ls 1 [(0, .ref a_rd)] := hl
  have hown : s.vm.findClass RX1 = some m.cls := hown
  have hcs : 0 ≤ R.cells ∧ 0 ≤ R.slots := ⟨Nat.zero_le _, Nat.zero_le _⟩
  have lk0 := hts (.fieldLink RX1 22 "SayingsMerged$Reader" "fault" "I") (by decide +kernel)
  have inX1 : ∀ w ∈ wsX10, w ∈ wsX1_isFaulty := by decide +kernel
  unfold zf_X1_isFaulty at hf
  refine lv_aload_n hx hb dX1_isFaulty_0 rfl (lv_at hl 0 rfl) ?_
  refine va_get (ci := 1) (v := .int v_rd_fault) (C := RX1) (T := TX1) (N := 4) hx hb hts inX1 hown hK hP 0 rfl rfl 3 (by decide) lk0 (fun _ h9 => h9) rfl dX1_isFaulty_1 ?_
  refine lv_iconst (v := (-1 : Int32)) hx hb dX1_isFaulty_4 (by decide) ?_
  refine lv_icmp_eq (tgt := 12) hx hb dX1_isFaulty_5 (by decide) (fun c1 => ?_) (fun c1 => ?_)
  · have hf := zk_t c1 hf
    refine lv_iconst (v := (0 : Int32)) hx hb dX1_isFaulty_12 (by decide) ?_
    obtain rfl := Option.some.inj hf
    exact hret rfl _ _ _ _ hP hD hS dX1_isFaulty_13
  · have hf := zk_f c1 hf
    refine lv_iconst (v := (1 : Int32)) hx hb dX1_isFaulty_8 (by decide) ?_
    refine lv_goto (tgt := 13) hx hb dX1_isFaulty_9 (by decide) ?_
    obtain rfl := Option.some.inj hf
    exact hret rfl _ _ _ _ hP hD hS dX1_isFaulty_13
def zf_X1_begin (v_tx_length : Int32) (f_tx_bytes : Nat → Int32) (f_tx_tokens : Nat → Int32) (f_tx_places : Nat → Int32) : Option (Int32 × Int32 × Int32 × (Nat → Int32) × (Nat → Int32)) :=
  (zf_X2_findTokens v_tx_length f_tx_bytes f_tx_tokens f_tx_places).bind (fun v1 =>
  zk_gd (zk_in (0 : Int32) 301)
  (zk_lt (v1.1 (0 : Int32).toNatClampNeg) (fun y3 =>
  some ((0 : Int32), y3, (-1 : Int32), v1.1, v1.2))))
theorem hd_X1_begin : yX1_begin.cls = RX1 ∧ yX1_begin.cls ≠ "java/lang/invoke/MethodHandle" ∧ yX1_begin.cls ≠ "java/lang/invoke/VarHandle" ∧ (parseMethodDescriptor yX1_begin.desc).map (fun d => d.parameters.length) = some 0 := by decide +kernel
set_option maxHeartbeats 4000000 in
set_option maxRecDepth 100000 in
theorem zc_X1_begin (l : Launch) (D : va_G) (tL tO : Nat) (cI cJ cB cQ : ClassId) (a_rd a_tx a_tx_bytes a_tx_tokens a_tx_places : Nat) (v_rd_at : Int32) (v_rd_token : Int32) (v_rd_fault : Int32) (v_tx_length : Int32) (f_tx_bytes : Nat → Int32) (f_tx_tokens : Nat → Int32) (f_tx_places : Nat → Int32) (z : Int32 × Int32 × Int32 × (Nat → Int32) × (Nat → Int32)) (hf : zf_X1_begin v_tx_length f_tx_bytes f_tx_tokens f_tx_places = some z) : zk_CT l D tL tO (zk_ty cI cJ cB cQ) yX1_begin wsX1_begin 4 86 [.ref a_rd] none [(a_rd, .inr (1, [.ref a_tx, .int v_rd_at, .int v_rd_token, .int v_rd_fault])), (a_tx, .inr (2, [.ref a_tx_bytes, .int v_tx_length, .ref a_tx_tokens, .ref a_tx_places])), (a_tx_bytes, .inl (cI, 300, .inl f_tx_bytes)), (a_tx_tokens, .inl (cI, 301, .inl f_tx_tokens)), (a_tx_places, .inl (cI, 301, .inl f_tx_places))] [(a_rd, .inr (1, [.ref a_tx, .int z.1, .int z.2.1, .int z.2.2.1])), (a_tx, .inr (2, [.ref a_tx_bytes, .int v_tx_length, .ref a_tx_tokens, .ref a_tx_places])), (a_tx_bytes, .inl (cI, 300, .inl f_tx_bytes)), (a_tx_tokens, .inl (cI, 301, .inl z.2.2.2.1)), (a_tx_places, .inl (cI, 301, .inl z.2.2.2.2))] := by
  refine zk_of_v (cc := cX1_begin) (maxL := 1) (by decide) rfl (Nat.le_of_ble_eq_true rfl) ?_
  intro p e R s m args below meth c A Q ls hx hb hml hRf hRl hts hown hP hK hD hA hS hG hl hret
  have hl : lv_has ls 1 [(0, .ref a_rd)] := hl
  have hown : s.vm.findClass RX1 = some m.cls := hown
  have hcs : 0 ≤ R.cells ∧ 0 ≤ R.slots := ⟨Nat.zero_le _, Nat.zero_le _⟩
  have lk0 := hts (.fieldLink RX1 9 "SayingsMerged$Reader" "text" "LSayingsMerged$Text;") (by decide +kernel)
  have inX1 : ∀ w ∈ wsX10, w ∈ wsX1_begin := by decide +kernel
  have lk2 := hts (.fieldLink RX1 15 "SayingsMerged$Reader" "at" "I") (by decide +kernel)
  have lk3 : (Cond.fieldLinkNest RX1 102 "SayingsMerged$Text" "tokens" "[I" "SayingsMerged").before args s = true := va_Nw.use rfl (hG.1 _ (by decide +kernel))
  have inX2 : ∀ w ∈ wsX20, w ∈ wsX1_begin := by decide +kernel
  have lk5 := hts (.fieldLink RX1 19 "SayingsMerged$Reader" "token" "I") (by decide +kernel)
  have lk6 := hts (.fieldLink RX1 22 "SayingsMerged$Reader" "fault" "I") (by decide +kernel)
  unfold zf_X1_begin at hf
  refine lv_aload_n hx hb dX1_begin_0 rfl (lv_at hl 0 rfl) ?_
  refine va_get (ci := 1) (v := .ref a_tx) (C := RX1) (T := TX1) (N := 4) hx hb hts inX1 hown hK hP 0 rfl rfl 0 (by decide) lk0 (fun _ h9 => h9) rfl dX1_begin_1 ?_
  obtain ⟨v1, hv1, hf⟩ := zk_ob hf
  refine zk_go (wr := [(a_rd, .inr (1, [.ref a_tx, .int v_rd_at, .int v_rd_token, .int v_rd_fault]))]) (w2 := [(a_rd, .inr (1, [.ref a_tx, .int v_rd_at, .int v_rd_token, .int v_rd_fault])), (a_tx, .inr (2, [.ref a_tx_bytes, .int v_tx_length, .ref a_tx_tokens, .ref a_tx_places])), (a_tx_bytes, .inl (cI, 300, .inl f_tx_bytes)), (a_tx_tokens, .inl (cI, 301, .inl v1.1)), (a_tx_places, .inl (cI, 301, .inl v1.2))]) (zk_V (As := []) (rest := []) hx hb hml hown hts hK hG hP hD hS hA gX1_begin_X2_findTokens rfl hd_X2_findTokens (Nat.le_trans (Nat.le_of_ble_eq_true rfl) hRf) (Nat.le_trans (Nat.le_of_ble_eq_true rfl) hRl) hcs (zc_X2_findTokens l D tL tO cI cJ cB cQ a_tx a_tx_bytes a_tx_tokens a_tx_places v_tx_length f_tx_bytes f_tx_tokens f_tx_places v1 hv1) rfl rfl 1 rfl hl.1 rfl rfl (Nat.le_of_ble_eq_true rfl) dX1_begin_4 [1, 2, 3, 4] rfl rfl) hP hD hS hA [1, 2, 3, 4] [0] [0, 1, 2, 3, 4] rfl rfl rfl (by decide) rfl rfl (fun H locs hP hD hS => ?_)
  refine lv_aload_n hx hb dX1_begin_7 rfl (lv_at hl 0 rfl) ?_
  refine lv_iconst (v := (0 : Int32)) hx hb dX1_begin_8 (by decide) ?_
  refine va_put (ci := 1) (v := .int (0 : Int32)) (ty := .int) (C := RX1) (T := TX1) (N := 4) hx hb hts inX1 tyX1 tyX1_ok nmX1 hown hK hP hD hS 0 rfl rfl 1 (by decide) lk2 (fun _ h9 => h9) rfl (by decide +kernel) rfl rfl (Nat.le_of_ble_eq_true rfl) dX1_begin_9 (fun H locs hP hD hS => ?_)
  have hP : va_P D vwCl [(a_rd, .inr (1, [.ref a_tx, .int (0 : Int32), .int v_rd_token, .int v_rd_fault])), (a_tx, .inr (2, [.ref a_tx_bytes, .int v_tx_length, .ref a_tx_tokens, .ref a_tx_places])), (a_tx_bytes, .inl (cI, 300, .inl f_tx_bytes)), (a_tx_tokens, .inl (cI, 301, .inl v1.1)), (a_tx_places, .inl (cI, 301, .inl v1.2))] H := hP
  have hD : va_D A [(a_rd, .inr (1, [.ref a_tx, .int (0 : Int32), .int v_rd_token, .int v_rd_fault])), (a_tx, .inr (2, [.ref a_tx_bytes, .int v_tx_length, .ref a_tx_tokens, .ref a_tx_places])), (a_tx_bytes, .inl (cI, 300, .inl f_tx_bytes)), (a_tx_tokens, .inl (cI, 301, .inl v1.1)), (a_tx_places, .inl (cI, 301, .inl v1.2))] := hD
  refine lv_aload_n hx hb dX1_begin_12 rfl (lv_at hl 0 rfl) ?_
  refine lv_aload_n hx hb dX1_begin_13 rfl (lv_at hl 0 rfl) ?_
  refine va_get (ci := 1) (v := .ref a_tx) (C := RX1) (T := TX1) (N := 4) hx hb hts inX1 hown hK hP 0 rfl rfl 0 (by decide) lk0 (fun _ h9 => h9) rfl dX1_begin_14 ?_
  refine va_getN (ci := 2) (v := .ref a_tx_tokens) (C := RX2) (T := TX2) (N := 4) hx hb hts inX2 hown hK hP 1 rfl rfl 2 (by decide) lk3 (fun _ h9 => h9) rfl dX1_begin_17 ?_
  refine lv_iconst (v := (0 : Int32)) hx hb dX1_begin_20 (by decide) ?_
  obtain ⟨g2, hf⟩ := zk_gd_s hf
  refine va_iald hx hb hK hP 3 0 rfl rfl (zk_in_s g2) dX1_begin_21 ?_
  obtain ⟨y3, ey3, hf⟩ := zk_lt_s hf
  refine zk_topi ey3 ?_
  refine va_put (ci := 1) (v := .int y3) (ty := .int) (C := RX1) (T := TX1) (N := 4) hx hb hts inX1 tyX1 tyX1_ok nmX1 hown hK hP hD hS 0 rfl rfl 2 (by decide) lk5 (fun _ h9 => h9) rfl (by decide +kernel) rfl rfl (Nat.le_of_ble_eq_true rfl) dX1_begin_22 (fun H locs hP hD hS => ?_)
  have hP : va_P D vwCl [(a_rd, .inr (1, [.ref a_tx, .int (0 : Int32), .int y3, .int v_rd_fault])), (a_tx, .inr (2, [.ref a_tx_bytes, .int v_tx_length, .ref a_tx_tokens, .ref a_tx_places])), (a_tx_bytes, .inl (cI, 300, .inl f_tx_bytes)), (a_tx_tokens, .inl (cI, 301, .inl v1.1)), (a_tx_places, .inl (cI, 301, .inl v1.2))] H := hP
  have hD : va_D A [(a_rd, .inr (1, [.ref a_tx, .int (0 : Int32), .int y3, .int v_rd_fault])), (a_tx, .inr (2, [.ref a_tx_bytes, .int v_tx_length, .ref a_tx_tokens, .ref a_tx_places])), (a_tx_bytes, .inl (cI, 300, .inl f_tx_bytes)), (a_tx_tokens, .inl (cI, 301, .inl v1.1)), (a_tx_places, .inl (cI, 301, .inl v1.2))] := hD
  refine lv_aload_n hx hb dX1_begin_25 rfl (lv_at hl 0 rfl) ?_
  refine lv_iconst (v := (-1 : Int32)) hx hb dX1_begin_26 (by decide) ?_
  refine va_put (ci := 1) (v := .int (-1 : Int32)) (ty := .int) (C := RX1) (T := TX1) (N := 4) hx hb hts inX1 tyX1 tyX1_ok nmX1 hown hK hP hD hS 0 rfl rfl 3 (by decide) lk6 (fun _ h9 => h9) rfl (by decide +kernel) rfl rfl (Nat.le_of_ble_eq_true rfl) dX1_begin_27 (fun H locs hP hD hS => ?_)
  have hP : va_P D vwCl [(a_rd, .inr (1, [.ref a_tx, .int (0 : Int32), .int y3, .int (-1 : Int32)])), (a_tx, .inr (2, [.ref a_tx_bytes, .int v_tx_length, .ref a_tx_tokens, .ref a_tx_places])), (a_tx_bytes, .inl (cI, 300, .inl f_tx_bytes)), (a_tx_tokens, .inl (cI, 301, .inl v1.1)), (a_tx_places, .inl (cI, 301, .inl v1.2))] H := hP
  have hD : va_D A [(a_rd, .inr (1, [.ref a_tx, .int (0 : Int32), .int y3, .int (-1 : Int32)])), (a_tx, .inr (2, [.ref a_tx_bytes, .int v_tx_length, .ref a_tx_tokens, .ref a_tx_places])), (a_tx_bytes, .inl (cI, 300, .inl f_tx_bytes)), (a_tx_tokens, .inl (cI, 301, .inl v1.1)), (a_tx_places, .inl (cI, 301, .inl v1.2))] := hD
  obtain rfl := Option.some.inj hf
  exact hret trivial _ _ _ _ hP hD hS dX1_begin_30
def zf_X1_advance (v_rd_at : Int32) (v_rd_token : Int32) (f_tx_tokens : Nat → Int32) : Option (Int32 × Int32) :=
  if v_rd_token = (258 : Int32) then
  some (v_rd_at, v_rd_token)
  else
  if (300 : Int32) ≤ v_rd_at then
  some (v_rd_at, v_rd_token)
  else
  zk_lt (v_rd_at + (1 : Int32)) (fun y1 =>
  zk_gd (zk_in y1 301)
  (zk_lt (f_tx_tokens y1.toNatClampNeg) (fun y3 =>
  some (y1, y3))))
theorem hd_X1_advance : yX1_advance.cls = RX1 ∧ yX1_advance.cls ≠ "java/lang/invoke/MethodHandle" ∧ yX1_advance.cls ≠ "java/lang/invoke/VarHandle" ∧ (parseMethodDescriptor yX1_advance.desc).map (fun d => d.parameters.length) = some 0 := by decide +kernel
set_option maxHeartbeats 4000000 in
set_option maxRecDepth 100000 in
theorem zc_X1_advance (l : Launch) (D : va_G) (tL tO : Nat) (cI cJ cB cQ : ClassId) (a_rd a_tx a_tx_bytes a_tx_tokens a_tx_places : Nat) (v_rd_at : Int32) (v_rd_token : Int32) (v_rd_fault : Int32) (v_tx_length : Int32) (f_tx_tokens : Nat → Int32) (z : Int32 × Int32) (hf : zf_X1_advance v_rd_at v_rd_token f_tx_tokens = some z) : zk_CT l D tL tO (zk_ty cI cJ cB cQ) yX1_advance wsX1_advance 0 0 [.ref a_rd] none [(a_rd, .inr (1, [.ref a_tx, .int v_rd_at, .int v_rd_token, .int v_rd_fault])), (a_tx, .inr (2, [.ref a_tx_bytes, .int v_tx_length, .ref a_tx_tokens, .ref a_tx_places])), (a_tx_tokens, .inl (cI, 301, .inl f_tx_tokens))] [(a_rd, .inr (1, [.ref a_tx, .int z.1, .int z.2, .int v_rd_fault])), (a_tx, .inr (2, [.ref a_tx_bytes, .int v_tx_length, .ref a_tx_tokens, .ref a_tx_places])), (a_tx_tokens, .inl (cI, 301, .inl f_tx_tokens))] := by
  refine zk_of_v (cc := cX1_advance) (maxL := 1) (by decide) rfl (Nat.le_of_ble_eq_true rfl) ?_
  intro p e R s m args below meth c A Q ls hx hb hml hRf hRl hts hown hP hK hD hA hS hG hl hret
  have hl : lv_has ls 1 [(0, .ref a_rd)] := hl
  have hown : s.vm.findClass RX1 = some m.cls := hown
  have hcs : 0 ≤ R.cells ∧ 0 ≤ R.slots := ⟨Nat.zero_le _, Nat.zero_le _⟩
  have lk0 := hts (.fieldLink RX1 19 "SayingsMerged$Reader" "token" "I") (by decide +kernel)
  have inX1 : ∀ w ∈ wsX10, w ∈ wsX1_advance := by decide +kernel
  have lk2 := hts (.fieldLink RX1 15 "SayingsMerged$Reader" "at" "I") (by decide +kernel)
  have lk3 := hts (.fieldLink RX1 9 "SayingsMerged$Reader" "text" "LSayingsMerged$Text;") (by decide +kernel)
  have lk4 : (Cond.fieldLinkNest RX1 102 "SayingsMerged$Text" "tokens" "[I" "SayingsMerged").before args s = true := va_Nw.use rfl (hG.1 _ (by decide +kernel))
  have inX2 : ∀ w ∈ wsX20, w ∈ wsX1_advance := by decide +kernel
  unfold zf_X1_advance at hf
  refine lv_aload_n hx hb dX1_advance_0 rfl (lv_at hl 0 rfl) ?_
  refine va_get (ci := 1) (v := .int v_rd_token) (C := RX1) (T := TX1) (N := 4) hx hb hts inX1 hown hK hP 0 rfl rfl 2 (by decide) lk0 (fun _ h9 => h9) rfl dX1_advance_1 ?_
  refine lv_sipush (v := (258 : Int32)) hx hb dX1_advance_4 (by decide) ?_
  refine lv_icmp_eq (tgt := 46) hx hb dX1_advance_7 (by decide) (fun c5 => ?_) (fun c5 => ?_)
  · have hf := zk_t c5 hf
    obtain rfl := Option.some.inj hf
    exact hret trivial _ _ _ _ hP hD hS dX1_advance_46
  · have hf := zk_f c5 hf
    refine lv_aload_n hx hb dX1_advance_10 rfl (lv_at hl 0 rfl) ?_
    refine va_get (ci := 1) (v := .int v_rd_at) (C := RX1) (T := TX1) (N := 4) hx hb hts inX1 hown hK hP 0 rfl rfl 1 (by decide) lk2 (fun _ h9 => h9) rfl dX1_advance_11 ?_
    refine lv_sipush (v := (300 : Int32)) hx hb dX1_advance_14 (by decide) ?_
    refine lv_icmp_ge (tgt := 46) hx hb dX1_advance_17 (by decide) (fun c4 => ?_) (fun c4 => ?_)
    · have hf := zk_t c4 hf
      obtain rfl := Option.some.inj hf
      exact hret trivial _ _ _ _ hP hD hS dX1_advance_46
    · have hf := zk_f c4 hf
      refine lv_aload_n hx hb dX1_advance_20 rfl (lv_at hl 0 rfl) ?_
      refine lv_dup hx hb dX1_advance_21 rfl ?_
      refine va_get (ci := 1) (v := .int v_rd_at) (C := RX1) (T := TX1) (N := 4) hx hb hts inX1 hown hK hP 0 rfl rfl 1 (by decide) lk2 (fun _ h9 => h9) rfl dX1_advance_22 ?_
      refine lv_iconst (v := (1 : Int32)) hx hb dX1_advance_25 (by decide) ?_
      refine lv_iadd hx hb dX1_advance_26 ?_
      obtain ⟨y1, ey1, hf⟩ := zk_lt_s hf
      refine zk_topi ey1 ?_
      refine va_put (ci := 1) (v := .int y1) (ty := .int) (C := RX1) (T := TX1) (N := 4) hx hb hts inX1 tyX1 tyX1_ok nmX1 hown hK hP hD hS 0 rfl rfl 1 (by decide) lk2 (fun _ h9 => h9) rfl (by decide +kernel) rfl rfl (Nat.le_of_ble_eq_true rfl) dX1_advance_27 (fun H locs hP hD hS => ?_)
      have hP : va_P D vwCl [(a_rd, .inr (1, [.ref a_tx, .int y1, .int v_rd_token, .int v_rd_fault])), (a_tx, .inr (2, [.ref a_tx_bytes, .int v_tx_length, .ref a_tx_tokens, .ref a_tx_places])), (a_tx_tokens, .inl (cI, 301, .inl f_tx_tokens))] H := hP
      have hD : va_D A [(a_rd, .inr (1, [.ref a_tx, .int y1, .int v_rd_token, .int v_rd_fault])), (a_tx, .inr (2, [.ref a_tx_bytes, .int v_tx_length, .ref a_tx_tokens, .ref a_tx_places])), (a_tx_tokens, .inl (cI, 301, .inl f_tx_tokens))] := hD
      refine lv_aload_n hx hb dX1_advance_30 rfl (lv_at hl 0 rfl) ?_
      refine lv_aload_n hx hb dX1_advance_31 rfl (lv_at hl 0 rfl) ?_
      refine va_get (ci := 1) (v := .ref a_tx) (C := RX1) (T := TX1) (N := 4) hx hb hts inX1 hown hK hP 0 rfl rfl 0 (by decide) lk3 (fun _ h9 => h9) rfl dX1_advance_32 ?_
      refine va_getN (ci := 2) (v := .ref a_tx_tokens) (C := RX2) (T := TX2) (N := 4) hx hb hts inX2 hown hK hP 1 rfl rfl 2 (by decide) lk4 (fun _ h9 => h9) rfl dX1_advance_35 ?_
      refine lv_aload_n hx hb dX1_advance_38 rfl (lv_at hl 0 rfl) ?_
      refine va_get (ci := 1) (v := .int y1) (C := RX1) (T := TX1) (N := 4) hx hb hts inX1 hown hK hP 0 rfl rfl 1 (by decide) lk2 (fun _ h9 => h9) rfl dX1_advance_39 ?_
      obtain ⟨g2, hf⟩ := zk_gd_s hf
      refine va_iald hx hb hK hP 2 0 rfl rfl (zk_in_s g2) dX1_advance_42 ?_
      obtain ⟨y3, ey3, hf⟩ := zk_lt_s hf
      refine zk_topi ey3 ?_
      refine va_put (ci := 1) (v := .int y3) (ty := .int) (C := RX1) (T := TX1) (N := 4) hx hb hts inX1 tyX1 tyX1_ok nmX1 hown hK hP hD hS 0 rfl rfl 2 (by decide) lk0 (fun _ h9 => h9) rfl (by decide +kernel) rfl rfl (Nat.le_of_ble_eq_true rfl) dX1_advance_43 (fun H locs hP hD hS => ?_)
      have hP : va_P D vwCl [(a_rd, .inr (1, [.ref a_tx, .int y1, .int y3, .int v_rd_fault])), (a_tx, .inr (2, [.ref a_tx_bytes, .int v_tx_length, .ref a_tx_tokens, .ref a_tx_places])), (a_tx_tokens, .inl (cI, 301, .inl f_tx_tokens))] H := hP
      have hD : va_D A [(a_rd, .inr (1, [.ref a_tx, .int y1, .int y3, .int v_rd_fault])), (a_tx, .inr (2, [.ref a_tx_bytes, .int v_tx_length, .ref a_tx_tokens, .ref a_tx_places])), (a_tx_tokens, .inl (cI, 301, .inl f_tx_tokens))] := hD
      obtain rfl := Option.some.inj hf
      exact hret trivial _ _ _ _ hP hD hS dX1_advance_46
def zf_X1_beginsOne (x0 : Int32) (x1 : Int32) : Option (Int32) :=
  if x0 = (33 : Int32) then
  if (8 : Int32) ≤ x1 then
  some (0 : Int32)
  else
  some (1 : Int32)
  else
  if x0 = (40 : Int32) then
  if (8 : Int32) ≤ x1 then
  some (0 : Int32)
  else
  some (1 : Int32)
  else
  if x0 = (48 : Int32) then
  some (1 : Int32)
  else
  if x0 = (49 : Int32) then
  some (1 : Int32)
  else
  (zf_X4_isLetter x0).bind (fun v2 =>
  if v2 = 0 then
  some (0 : Int32)
  else
  some (1 : Int32))
theorem hd_X1_beginsOne : yX1_beginsOne.cls ≠ "java/lang/invoke/MethodHandle" ∧ yX1_beginsOne.cls ≠ "java/lang/invoke/VarHandle" ∧ (parseMethodDescriptor yX1_beginsOne.desc).map (fun d => d.parameters.length) = some 2 := by decide +kernel
set_option maxHeartbeats 4000000 in
set_option maxRecDepth 100000 in
theorem zc_X1_beginsOne (l : Launch) (D : va_G) (tL tO : Nat) (cI cJ cB cQ : ClassId) (x0 : Int32) (x1 : Int32) (z : Int32) (hf : zf_X1_beginsOne x0 x1 = some z) : zk_CT l D tL tO (zk_ty cI cJ cB cQ) yX1_beginsOne wsX1_beginsOne 1 20 [.int x0, .int x1] (some (.int z)) [] [] := by
  refine zk_of_z (cc := cX1_beginsOne) (maxL := 2) (by decide) rfl (Nat.le_of_ble_eq_true rfl) ?_
  intro p e R s m args below meth c A Q ls hx hb hml hRf hRl hts hown hP hK hD hA hS hG hl hret
  have hl : lv_has ls 2 [(0, .int x0), (1, .int x1)] := hl
  have hown : s.vm.findClass RX1 = some m.cls := hown
  have hcs : 0 ≤ R.cells ∧ 0 ≤ R.slots := ⟨Nat.zero_le _, Nat.zero_le _⟩
  have lk0 := hts (.static yX4_isLetter) (by decide +kernel)
  have lk1 := hts (.initialized RX4) (by decide +kernel)
  unfold zf_X1_beginsOne at hf
  refine lv_iload_n hx hb dX1_beginsOne_0 rfl (lv_at hl 0 rfl) ?_
  refine lv_bipush (v := (33 : Int32)) hx hb dX1_beginsOne_1 (by decide) ?_
  refine lv_icmp_eq (tgt := 12) hx hb dX1_beginsOne_3 (by decide) (fun c8 => ?_) (fun c8 => ?_)
  · have hf := zk_t c8 hf
    refine lv_iload_n hx hb dX1_beginsOne_12 rfl (lv_at hl 1 rfl) ?_
    refine lv_bipush (v := (8 : Int32)) hx hb dX1_beginsOne_13 (by decide) ?_
    refine lv_icmp_ge (tgt := 22) hx hb dX1_beginsOne_15 (by decide) (fun c1 => ?_) (fun c1 => ?_)
    · have hf := zk_t c1 hf
      refine lv_iconst (v := (0 : Int32)) hx hb dX1_beginsOne_22 (by decide) ?_
      obtain rfl := Option.some.inj hf
      exact hret rfl _ _ _ _ hP hD hS dX1_beginsOne_23
    · have hf := zk_f c1 hf
      refine lv_iconst (v := (1 : Int32)) hx hb dX1_beginsOne_18 (by decide) ?_
      refine lv_goto (tgt := 23) hx hb dX1_beginsOne_19 (by decide) ?_
      obtain rfl := Option.some.inj hf
      exact hret rfl _ _ _ _ hP hD hS dX1_beginsOne_23
  · have hf := zk_f c8 hf
    refine lv_iload_n hx hb dX1_beginsOne_6 rfl (lv_at hl 0 rfl) ?_
    refine lv_bipush (v := (40 : Int32)) hx hb dX1_beginsOne_7 (by decide) ?_
    refine lv_icmp_ne (tgt := 24) hx hb dX1_beginsOne_9 (by decide) (fun c7 => ?_) (fun c7 => ?_)
    · have hf := zk_f c7 hf
      refine lv_iload_n hx hb dX1_beginsOne_24 rfl (lv_at hl 0 rfl) ?_
      refine lv_bipush (v := (48 : Int32)) hx hb dX1_beginsOne_25 (by decide) ?_
      refine lv_icmp_eq (tgt := 43) hx hb dX1_beginsOne_27 (by decide) (fun c5 => ?_) (fun c5 => ?_)
      · have hf := zk_t c5 hf
        refine lv_iconst (v := (1 : Int32)) hx hb dX1_beginsOne_43 (by decide) ?_
        refine lv_goto (tgt := 48) hx hb dX1_beginsOne_44 (by decide) ?_
        obtain rfl := Option.some.inj hf
        exact hret rfl _ _ _ _ hP hD hS dX1_beginsOne_48
      · have hf := zk_f c5 hf
        refine lv_iload_n hx hb dX1_beginsOne_30 rfl (lv_at hl 0 rfl) ?_
        refine lv_bipush (v := (49 : Int32)) hx hb dX1_beginsOne_31 (by decide) ?_
        refine lv_icmp_eq (tgt := 43) hx hb dX1_beginsOne_33 (by decide) (fun c4 => ?_) (fun c4 => ?_)
        · have hf := zk_t c4 hf
          refine lv_iconst (v := (1 : Int32)) hx hb dX1_beginsOne_43 (by decide) ?_
          refine lv_goto (tgt := 48) hx hb dX1_beginsOne_44 (by decide) ?_
          obtain rfl := Option.some.inj hf
          exact hret rfl _ _ _ _ hP hD hS dX1_beginsOne_48
        · have hf := zk_f c4 hf
          refine lv_iload_n hx hb dX1_beginsOne_36 rfl (lv_at hl 0 rfl) ?_
          obtain ⟨v2, hv2, hf⟩ := zk_ob hf
          refine zk_goR (zk_SN (host := "SayingsMerged") (As := [.int x0]) (rest := []) hx hb hml hown hts hK hG hP hD hS hA gX1_beginsOne_X4_isLetter_n85 (by decide +kernel) lk0 lk1 rfl hd_X4_isLetter (Nat.le_trans (Nat.le_of_ble_eq_true rfl) hRf) (Nat.le_trans (Nat.le_of_ble_eq_true rfl) hRl) hcs (zc_X4_isLetter l D tL tO cI cJ cB cQ x0 v2 hv2) hl.1 rfl rfl (Nat.le_of_ble_eq_true rfl) dX1_beginsOne_37 [] rfl rfl) hP hD hS hA [] rfl (fun H locs hP hS => ?_)
          refine lv_if_eq (tgt := 47) hx hb dX1_beginsOne_40 (by decide) (fun c3 => ?_) (fun c3 => ?_)
          · have hf := zk_t c3 hf
            refine lv_iconst (v := (0 : Int32)) hx hb dX1_beginsOne_47 (by decide) ?_
            obtain rfl := Option.some.inj hf
            exact hret rfl _ _ _ _ hP hD hS dX1_beginsOne_48
          · have hf := zk_f c3 hf
            refine lv_iconst (v := (1 : Int32)) hx hb dX1_beginsOne_43 (by decide) ?_
            refine lv_goto (tgt := 48) hx hb dX1_beginsOne_44 (by decide) ?_
            obtain rfl := Option.some.inj hf
            exact hret rfl _ _ _ _ hP hD hS dX1_beginsOne_48
    · have hf := zk_t c7 hf
      refine lv_iload_n hx hb dX1_beginsOne_12 rfl (lv_at hl 1 rfl) ?_
      refine lv_bipush (v := (8 : Int32)) hx hb dX1_beginsOne_13 (by decide) ?_
      refine lv_icmp_ge (tgt := 22) hx hb dX1_beginsOne_15 (by decide) (fun c6 => ?_) (fun c6 => ?_)
      · have hf := zk_t c6 hf
        refine lv_iconst (v := (0 : Int32)) hx hb dX1_beginsOne_22 (by decide) ?_
        obtain rfl := Option.some.inj hf
        exact hret rfl _ _ _ _ hP hD hS dX1_beginsOne_23
      · have hf := zk_f c6 hf
        refine lv_iconst (v := (1 : Int32)) hx hb dX1_beginsOne_18 (by decide) ?_
        refine lv_goto (tgt := 23) hx hb dX1_beginsOne_19 (by decide) ?_
        obtain rfl := Option.some.inj hf
        exact hret rfl _ _ _ _ hP hD hS dX1_beginsOne_23
def zf_X1_fail (v_rd_at : Int32) (v_rd_fault : Int32) (f_tx_places : Nat → Int32) : Option (Int32) :=
  if v_rd_fault = (-1 : Int32) then
  zk_gd (zk_in v_rd_at 301)
  (zk_lt (f_tx_places v_rd_at.toNatClampNeg) (fun y2 =>
  some y2))
  else
  some v_rd_fault
theorem hd_X1_fail : yX1_fail.cls = RX1 ∧ yX1_fail.cls ≠ "java/lang/invoke/MethodHandle" ∧ yX1_fail.cls ≠ "java/lang/invoke/VarHandle" ∧ (parseMethodDescriptor yX1_fail.desc).map (fun d => d.parameters.length) = some 0 := by decide +kernel
set_option maxHeartbeats 4000000 in
set_option maxRecDepth 100000 in
theorem zc_X1_fail (l : Launch) (D : va_G) (tL tO : Nat) (cI cJ cB cQ : ClassId) (a_rd a_tx a_tx_bytes a_tx_tokens a_tx_places : Nat) (v_rd_at : Int32) (v_rd_token : Int32) (v_rd_fault : Int32) (v_tx_length : Int32) (f_tx_places : Nat → Int32) (z : Int32) (hf : zf_X1_fail v_rd_at v_rd_fault f_tx_places = some z) : zk_CT l D tL tO (zk_ty cI cJ cB cQ) yX1_fail wsX1_fail 0 0 [.ref a_rd] none [(a_rd, .inr (1, [.ref a_tx, .int v_rd_at, .int v_rd_token, .int v_rd_fault])), (a_tx, .inr (2, [.ref a_tx_bytes, .int v_tx_length, .ref a_tx_tokens, .ref a_tx_places])), (a_tx_places, .inl (cI, 301, .inl f_tx_places))] [(a_rd, .inr (1, [.ref a_tx, .int v_rd_at, .int v_rd_token, .int z])), (a_tx, .inr (2, [.ref a_tx_bytes, .int v_tx_length, .ref a_tx_tokens, .ref a_tx_places])), (a_tx_places, .inl (cI, 301, .inl f_tx_places))] := by
  refine zk_of_v (cc := cX1_fail) (maxL := 1) (by decide) rfl (Nat.le_of_ble_eq_true rfl) ?_
  intro p e R s m args below meth c A Q ls hx hb hml hRf hRl hts hown hP hK hD hA hS hG hl hret
  have hl : lv_has ls 1 [(0, .ref a_rd)] := hl
  have hown : s.vm.findClass RX1 = some m.cls := hown
  have hcs : 0 ≤ R.cells ∧ 0 ≤ R.slots := ⟨Nat.zero_le _, Nat.zero_le _⟩
  have lk0 := hts (.fieldLink RX1 22 "SayingsMerged$Reader" "fault" "I") (by decide +kernel)
  have inX1 : ∀ w ∈ wsX10, w ∈ wsX1_fail := by decide +kernel
  have lk2 := hts (.fieldLink RX1 9 "SayingsMerged$Reader" "text" "LSayingsMerged$Text;") (by decide +kernel)
  have lk3 : (Cond.fieldLinkNest RX1 93 "SayingsMerged$Text" "places" "[I" "SayingsMerged").before args s = true := va_Nw.use rfl (hG.1 _ (by decide +kernel))
  have inX2 : ∀ w ∈ wsX20, w ∈ wsX1_fail := by decide +kernel
  have lk5 := hts (.fieldLink RX1 15 "SayingsMerged$Reader" "at" "I") (by decide +kernel)
  unfold zf_X1_fail at hf
  refine lv_aload_n hx hb dX1_fail_0 rfl (lv_at hl 0 rfl) ?_
  refine va_get (ci := 1) (v := .int v_rd_fault) (C := RX1) (T := TX1) (N := 4) hx hb hts inX1 hown hK hP 0 rfl rfl 3 (by decide) lk0 (fun _ h9 => h9) rfl dX1_fail_1 ?_
  refine lv_iconst (v := (-1 : Int32)) hx hb dX1_fail_4 (by decide) ?_
  refine lv_icmp_ne (tgt := 24) hx hb dX1_fail_5 (by decide) (fun c3 => ?_) (fun c3 => ?_)
  · have hf := zk_f c3 hf
    obtain rfl := Option.some.inj hf
    exact hret trivial _ _ _ _ hP hD hS dX1_fail_24
  · have hf := zk_t c3 hf
    refine lv_aload_n hx hb dX1_fail_8 rfl (lv_at hl 0 rfl) ?_
    refine lv_aload_n hx hb dX1_fail_9 rfl (lv_at hl 0 rfl) ?_
    refine va_get (ci := 1) (v := .ref a_tx) (C := RX1) (T := TX1) (N := 4) hx hb hts inX1 hown hK hP 0 rfl rfl 0 (by decide) lk2 (fun _ h9 => h9) rfl dX1_fail_10 ?_
    refine va_getN (ci := 2) (v := .ref a_tx_places) (C := RX2) (T := TX2) (N := 4) hx hb hts inX2 hown hK hP 1 rfl rfl 3 (by decide) lk3 (fun _ h9 => h9) rfl dX1_fail_13 ?_
    refine lv_aload_n hx hb dX1_fail_16 rfl (lv_at hl 0 rfl) ?_
    refine va_get (ci := 1) (v := .int v_rd_at) (C := RX1) (T := TX1) (N := 4) hx hb hts inX1 hown hK hP 0 rfl rfl 1 (by decide) lk5 (fun _ h9 => h9) rfl dX1_fail_17 ?_
    obtain ⟨g1, hf⟩ := zk_gd_s hf
    refine va_iald hx hb hK hP 2 0 rfl rfl (zk_in_s g1) dX1_fail_20 ?_
    obtain ⟨y2, ey2, hf⟩ := zk_lt_s hf
    refine zk_topi ey2 ?_
    refine va_put (ci := 1) (v := .int y2) (ty := .int) (C := RX1) (T := TX1) (N := 4) hx hb hts inX1 tyX1 tyX1_ok nmX1 hown hK hP hD hS 0 rfl rfl 3 (by decide) lk0 (fun _ h9 => h9) rfl (by decide +kernel) rfl rfl (Nat.le_of_ble_eq_true rfl) dX1_fail_21 (fun H locs hP hD hS => ?_)
    have hP : va_P D vwCl [(a_rd, .inr (1, [.ref a_tx, .int v_rd_at, .int v_rd_token, .int y2])), (a_tx, .inr (2, [.ref a_tx_bytes, .int v_tx_length, .ref a_tx_tokens, .ref a_tx_places])), (a_tx_places, .inl (cI, 301, .inl f_tx_places))] H := hP
    have hD : va_D A [(a_rd, .inr (1, [.ref a_tx, .int v_rd_at, .int v_rd_token, .int y2])), (a_tx, .inr (2, [.ref a_tx_bytes, .int v_tx_length, .ref a_tx_tokens, .ref a_tx_places])), (a_tx_places, .inl (cI, 301, .inl f_tx_places))] := hD
    obtain rfl := Option.some.inj hf
    exact hret trivial _ _ _ _ hP hD hS dX1_fail_24
def zf_X1_expect (x0 : Int32) (v_rd_at : Int32) (v_rd_token : Int32) (v_rd_fault : Int32) (f_tx_tokens : Nat → Int32) (f_tx_places : Nat → Int32) : Option (Int32 × Int32 × Int32) :=
  (zf_X1_isFaulty v_rd_fault).bind (fun v1 =>
  if v1 = 0 then
  if v_rd_token = x0 then
  (zf_X1_advance v_rd_at v_rd_token f_tx_tokens).bind (fun v3 =>
  some (v3.1, v3.2, v_rd_fault))
  else
  (zf_X1_fail v_rd_at v_rd_fault f_tx_places).bind (fun v4 =>
  some (v_rd_at, v_rd_token, v4))
  else
  (zf_X1_fail v_rd_at v_rd_fault f_tx_places).bind (fun v2 =>
  some (v_rd_at, v_rd_token, v2)))
theorem hd_X1_expect : yX1_expect.cls = RX1 ∧ yX1_expect.cls ≠ "java/lang/invoke/MethodHandle" ∧ yX1_expect.cls ≠ "java/lang/invoke/VarHandle" ∧ (parseMethodDescriptor yX1_expect.desc).map (fun d => d.parameters.length) = some 1 := by decide +kernel
set_option maxHeartbeats 4000000 in
set_option maxRecDepth 100000 in
theorem zc_X1_expect (l : Launch) (D : va_G) (tL tO : Nat) (cI cJ cB cQ : ClassId) (a_rd a_tx a_tx_bytes a_tx_tokens a_tx_places : Nat) (x0 : Int32) (v_rd_at : Int32) (v_rd_token : Int32) (v_rd_fault : Int32) (v_tx_length : Int32) (f_tx_tokens : Nat → Int32) (f_tx_places : Nat → Int32) (z : Int32 × Int32 × Int32) (hf : zf_X1_expect x0 v_rd_at v_rd_token v_rd_fault f_tx_tokens f_tx_places = some z) : zk_CT l D tL tO (zk_ty cI cJ cB cQ) yX1_expect wsX1_expect 1 20 [.ref a_rd, .int x0] none [(a_rd, .inr (1, [.ref a_tx, .int v_rd_at, .int v_rd_token, .int v_rd_fault])), (a_tx, .inr (2, [.ref a_tx_bytes, .int v_tx_length, .ref a_tx_tokens, .ref a_tx_places])), (a_tx_tokens, .inl (cI, 301, .inl f_tx_tokens)), (a_tx_places, .inl (cI, 301, .inl f_tx_places))] [(a_rd, .inr (1, [.ref a_tx, .int z.1, .int z.2.1, .int z.2.2])), (a_tx, .inr (2, [.ref a_tx_bytes, .int v_tx_length, .ref a_tx_tokens, .ref a_tx_places])), (a_tx_tokens, .inl (cI, 301, .inl f_tx_tokens)), (a_tx_places, .inl (cI, 301, .inl f_tx_places))] := by
  refine zk_of_v (cc := cX1_expect) (maxL := 2) (by decide) rfl (Nat.le_of_ble_eq_true rfl) ?_
  intro p e R s m args below meth c A Q ls hx hb hml hRf hRl hts hown hP hK hD hA hS hG hl hret
  have hl : lv_has ls 2 [(0, .ref a_rd), (1, .int x0)] := hl
  have hown : s.vm.findClass RX1 = some m.cls := hown
  have hcs : 0 ≤ R.cells ∧ 0 ≤ R.slots := ⟨Nat.zero_le _, Nat.zero_le _⟩
  have lk0 := hts (.fieldLink RX1 19 "SayingsMerged$Reader" "token" "I") (by decide +kernel)
  have inX1 : ∀ w ∈ wsX10, w ∈ wsX1_expect := by decide +kernel
  unfold zf_X1_expect at hf
  refine lv_aload_n hx hb dX1_expect_0 rfl (lv_at hl 0 rfl) ?_
  obtain ⟨v1, hv1, hf⟩ := zk_ob hf
  refine zk_goR (zk_V (As := []) (rest := []) hx hb hml hown hts hK hG hP hD hS hA gX1_expect_X1_isFaulty rfl hd_X1_isFaulty (Nat.le_trans (Nat.le_of_ble_eq_true rfl) hRf) (Nat.le_trans (Nat.le_of_ble_eq_true rfl) hRl) hcs (zc_X1_isFaulty l D tL tO cI cJ cB cQ a_rd a_tx v_rd_at v_rd_token v_rd_fault v1 hv1) rfl rfl 0 rfl hl.1 rfl rfl (Nat.le_of_ble_eq_true rfl) dX1_expect_1 [0] rfl rfl) hP hD hS hA [0] rfl (fun H locs hP hS => ?_)
  refine lv_if_ne (tgt := 15) hx hb dX1_expect_4 (by decide) (fun c6 => ?_) (fun c6 => ?_)
  · have hf := zk_f c6 hf
    refine lv_aload_n hx hb dX1_expect_15 rfl (lv_at hl 0 rfl) ?_
    obtain ⟨v2, hv2, hf⟩ := zk_ob hf
    refine zk_go (wr := [(a_tx_tokens, .inl (cI, 301, .inl f_tx_tokens))]) (w2 := [(a_rd, .inr (1, [.ref a_tx, .int v_rd_at, .int v_rd_token, .int v2])), (a_tx, .inr (2, [.ref a_tx_bytes, .int v_tx_length, .ref a_tx_tokens, .ref a_tx_places])), (a_tx_tokens, .inl (cI, 301, .inl f_tx_tokens)), (a_tx_places, .inl (cI, 301, .inl f_tx_places))]) (zk_V (As := []) (rest := []) hx hb hml hown hts hK hG hP hD hS hA gX1_expect_X1_fail rfl hd_X1_fail (Nat.le_trans (Nat.le_of_ble_eq_true rfl) hRf) (Nat.le_trans (Nat.le_of_ble_eq_true rfl) hRl) hcs (zc_X1_fail l D tL tO cI cJ cB cQ a_rd a_tx a_tx_bytes a_tx_tokens a_tx_places v_rd_at v_rd_token v_rd_fault v_tx_length f_tx_places v2 hv2) rfl rfl 0 rfl hl.1 rfl rfl (Nat.le_of_ble_eq_true rfl) dX1_expect_16 [0, 1, 3] rfl rfl) hP hD hS hA [0, 1, 3] [2] [1, 2, 0, 3] rfl rfl rfl (by decide) rfl rfl (fun H locs hP hD hS => ?_)
    refine lv_goto (tgt := 26) hx hb dX1_expect_19 (by decide) ?_
    obtain rfl := Option.some.inj hf
    exact hret trivial _ _ _ _ hP hD hS dX1_expect_26
  · have hf := zk_t c6 hf
    refine lv_aload_n hx hb dX1_expect_7 rfl (lv_at hl 0 rfl) ?_
    refine va_get (ci := 1) (v := .int v_rd_token) (C := RX1) (T := TX1) (N := 4) hx hb hts inX1 hown hK hP 0 rfl rfl 2 (by decide) lk0 (fun _ h9 => h9) rfl dX1_expect_8 ?_
    refine lv_iload_n hx hb dX1_expect_11 rfl (lv_at hl 1 rfl) ?_
    refine lv_icmp_eq (tgt := 22) hx hb dX1_expect_12 (by decide) (fun c5 => ?_) (fun c5 => ?_)
    · have hf := zk_t c5 hf
      refine lv_aload_n hx hb dX1_expect_22 rfl (lv_at hl 0 rfl) ?_
      obtain ⟨v3, hv3, hf⟩ := zk_ob hf
      refine zk_go (wr := [(a_tx_places, .inl (cI, 301, .inl f_tx_places))]) (w2 := [(a_rd, .inr (1, [.ref a_tx, .int v3.1, .int v3.2, .int v_rd_fault])), (a_tx, .inr (2, [.ref a_tx_bytes, .int v_tx_length, .ref a_tx_tokens, .ref a_tx_places])), (a_tx_tokens, .inl (cI, 301, .inl f_tx_tokens)), (a_tx_places, .inl (cI, 301, .inl f_tx_places))]) (zk_V (As := []) (rest := []) hx hb hml hown hts hK hG hP hD hS hA gX1_expect_X1_advance rfl hd_X1_advance (Nat.le_trans (Nat.le_of_ble_eq_true rfl) hRf) (Nat.le_trans (Nat.le_of_ble_eq_true rfl) hRl) hcs (zc_X1_advance l D tL tO cI cJ cB cQ a_rd a_tx a_tx_bytes a_tx_tokens a_tx_places v_rd_at v_rd_token v_rd_fault v_tx_length f_tx_tokens v3 hv3) rfl rfl 0 rfl hl.1 rfl rfl (Nat.le_of_ble_eq_true rfl) dX1_expect_23 [0, 1, 2] rfl rfl) hP hD hS hA [0, 1, 2] [3] [1, 2, 3, 0] rfl rfl rfl (by decide) rfl rfl (fun H locs hP hD hS => ?_)
      obtain rfl := Option.some.inj hf
      exact hret trivial _ _ _ _ hP hD hS dX1_expect_26
    · have hf := zk_f c5 hf
      refine lv_aload_n hx hb dX1_expect_15 rfl (lv_at hl 0 rfl) ?_
      obtain ⟨v4, hv4, hf⟩ := zk_ob hf
      refine zk_go (wr := [(a_tx_tokens, .inl (cI, 301, .inl f_tx_tokens))]) (w2 := [(a_rd, .inr (1, [.ref a_tx, .int v_rd_at, .int v_rd_token, .int v4])), (a_tx, .inr (2, [.ref a_tx_bytes, .int v_tx_length, .ref a_tx_tokens, .ref a_tx_places])), (a_tx_tokens, .inl (cI, 301, .inl f_tx_tokens)), (a_tx_places, .inl (cI, 301, .inl f_tx_places))]) (zk_V (As := []) (rest := []) hx hb hml hown hts hK hG hP hD hS hA gX1_expect_X1_fail rfl hd_X1_fail (Nat.le_trans (Nat.le_of_ble_eq_true rfl) hRf) (Nat.le_trans (Nat.le_of_ble_eq_true rfl) hRl) hcs (zc_X1_fail l D tL tO cI cJ cB cQ a_rd a_tx a_tx_bytes a_tx_tokens a_tx_places v_rd_at v_rd_token v_rd_fault v_tx_length f_tx_places v4 hv4) rfl rfl 0 rfl hl.1 rfl rfl (Nat.le_of_ble_eq_true rfl) dX1_expect_16 [0, 1, 3] rfl rfl) hP hD hS hA [0, 1, 3] [2] [1, 2, 0, 3] rfl rfl rfl (by decide) rfl rfl (fun H locs hP hD hS => ?_)
      refine lv_goto (tgt := 26) hx hb dX1_expect_19 (by decide) ?_
      obtain rfl := Option.some.inj hf
      exact hret trivial _ _ _ _ hP hD hS dX1_expect_26
def zf_X1_readWeight (v_rd_at : Int32) (v_rd_token : Int32) (v_rd_fault : Int32) (f_tx_tokens : Nat → Int32) (f_tx_places : Nat → Int32) : Option (Int32 × Int32 × Int32 × Int32) :=
  zk_lt (v_rd_token - (48 : Int32)) (fun y1 =>
  if y1 < (1 : Int32) then
  (zf_X1_fail v_rd_at v_rd_fault f_tx_places).bind (fun v2 =>
  some ((0 : Int32), v_rd_at, v_rd_token, v2))
  else
  if y1 ≤ (9 : Int32) then
  (zf_X1_advance v_rd_at v_rd_token f_tx_tokens).bind (fun v3 =>
  some (y1, v3.1, v3.2, v_rd_fault))
  else
  (zf_X1_fail v_rd_at v_rd_fault f_tx_places).bind (fun v4 =>
  some ((0 : Int32), v_rd_at, v_rd_token, v4)))
theorem hd_X1_readWeight : yX1_readWeight.cls = RX1 ∧ yX1_readWeight.cls ≠ "java/lang/invoke/MethodHandle" ∧ yX1_readWeight.cls ≠ "java/lang/invoke/VarHandle" ∧ (parseMethodDescriptor yX1_readWeight.desc).map (fun d => d.parameters.length) = some 0 := by decide +kernel
set_option maxHeartbeats 4000000 in
set_option maxRecDepth 100000 in
theorem zc_X1_readWeight (l : Launch) (D : va_G) (tL tO : Nat) (cI cJ cB cQ : ClassId) (a_rd a_tx a_tx_bytes a_tx_tokens a_tx_places : Nat) (v_rd_at : Int32) (v_rd_token : Int32) (v_rd_fault : Int32) (v_tx_length : Int32) (f_tx_tokens : Nat → Int32) (f_tx_places : Nat → Int32) (z : Int32 × Int32 × Int32 × Int32) (hf : zf_X1_readWeight v_rd_at v_rd_token v_rd_fault f_tx_tokens f_tx_places = some z) : zk_CT l D tL tO (zk_ty cI cJ cB cQ) yX1_readWeight wsX1_readWeight 1 20 [.ref a_rd] (some (.int z.1)) [(a_rd, .inr (1, [.ref a_tx, .int v_rd_at, .int v_rd_token, .int v_rd_fault])), (a_tx, .inr (2, [.ref a_tx_bytes, .int v_tx_length, .ref a_tx_tokens, .ref a_tx_places])), (a_tx_tokens, .inl (cI, 301, .inl f_tx_tokens)), (a_tx_places, .inl (cI, 301, .inl f_tx_places))] [(a_rd, .inr (1, [.ref a_tx, .int z.2.1, .int z.2.2.1, .int z.2.2.2])), (a_tx, .inr (2, [.ref a_tx_bytes, .int v_tx_length, .ref a_tx_tokens, .ref a_tx_places])), (a_tx_tokens, .inl (cI, 301, .inl f_tx_tokens)), (a_tx_places, .inl (cI, 301, .inl f_tx_places))] := by
  refine zk_of_i (cc := cX1_readWeight) (maxL := 2) (by decide) rfl (Nat.le_of_ble_eq_true rfl) ?_
  intro p e R s m args below meth c A Q ls hx hb hml hRf hRl hts hown hP hK hD hA hS hG hl hret
  have hl : lv_has ls 2 [(0, .ref a_rd)] := hl
  have hown : s.vm.findClass RX1 = some m.cls := hown
  have hcs : 0 ≤ R.cells ∧ 0 ≤ R.slots := ⟨Nat.zero_le _, Nat.zero_le _⟩
  have lk0 := hts (.fieldLink RX1 19 "SayingsMerged$Reader" "token" "I") (by decide +kernel)
  have inX1 : ∀ w ∈ wsX10, w ∈ wsX1_readWeight := by decide +kernel
  unfold zf_X1_readWeight at hf
  refine lv_aload_n hx hb dX1_readWeight_0 rfl (lv_at hl 0 rfl) ?_
  refine va_get (ci := 1) (v := .int v_rd_token) (C := RX1) (T := TX1) (N := 4) hx hb hts inX1 hown hK hP 0 rfl rfl 2 (by decide) lk0 (fun _ h9 => h9) rfl dX1_readWeight_1 ?_
  refine lv_bipush (v := (48 : Int32)) hx hb dX1_readWeight_4 (by decide) ?_
  refine lv_isub hx hb dX1_readWeight_6 ?_
  obtain ⟨y1, ey1, hf⟩ := zk_lt_s hf
  refine zk_topi ey1 ?_
  refine lv_istore_n (lv' := [(1, .int y1), (0, .ref a_rd)]) hx hb dX1_readWeight_7 rfl hl (by decide) rfl (fun ls hl => ?_)
  refine lv_iload_n hx hb dX1_readWeight_8 rfl (lv_at hl 0 rfl) ?_
  refine lv_iconst (v := (1 : Int32)) hx hb dX1_readWeight_9 (by decide) ?_
  refine lv_icmp_lt (tgt := 19) hx hb dX1_readWeight_10 (by decide) (fun c6 => ?_) (fun c6 => ?_)
  · have hf := zk_t c6 hf
    refine lv_aload_n hx hb dX1_readWeight_19 rfl (lv_at hl 1 rfl) ?_
    obtain ⟨v2, hv2, hf⟩ := zk_ob hf
    refine zk_go (wr := [(a_tx_tokens, .inl (cI, 301, .inl f_tx_tokens))]) (w2 := [(a_rd, .inr (1, [.ref a_tx, .int v_rd_at, .int v_rd_token, .int v2])), (a_tx, .inr (2, [.ref a_tx_bytes, .int v_tx_length, .ref a_tx_tokens, .ref a_tx_places])), (a_tx_tokens, .inl (cI, 301, .inl f_tx_tokens)), (a_tx_places, .inl (cI, 301, .inl f_tx_places))]) (zk_V (As := []) (rest := []) hx hb hml hown hts hK hG hP hD hS hA gX1_readWeight_X1_fail rfl hd_X1_fail (Nat.le_trans (Nat.le_of_ble_eq_true rfl) hRf) (Nat.le_trans (Nat.le_of_ble_eq_true rfl) hRl) hcs (zc_X1_fail l D tL tO cI cJ cB cQ a_rd a_tx a_tx_bytes a_tx_tokens a_tx_places v_rd_at v_rd_token v_rd_fault v_tx_length f_tx_places v2 hv2) rfl rfl 0 rfl hl.1 rfl rfl (Nat.le_of_ble_eq_true rfl) dX1_readWeight_20 [0, 1, 3] rfl rfl) hP hD hS hA [0, 1, 3] [2] [1, 2, 0, 3] rfl rfl rfl (by decide) rfl rfl (fun H locs hP hD hS => ?_)
    refine lv_iconst (v := (0 : Int32)) hx hb dX1_readWeight_23 (by decide) ?_
    obtain rfl := Option.some.inj hf
    exact hret trivial _ _ _ _ hP hD hS dX1_readWeight_24
  · have hf := zk_f c6 hf
    refine lv_iload_n hx hb dX1_readWeight_13 rfl (lv_at hl 0 rfl) ?_
    refine lv_bipush (v := (9 : Int32)) hx hb dX1_readWeight_14 (by decide) ?_
    refine lv_icmp_le (tgt := 25) hx hb dX1_readWeight_16 (by decide) (fun c5 => ?_) (fun c5 => ?_)
    · have hf := zk_t c5 hf
      refine lv_aload_n hx hb dX1_readWeight_25 rfl (lv_at hl 1 rfl) ?_
      obtain ⟨v3, hv3, hf⟩ := zk_ob hf
      refine zk_go (wr := [(a_tx_places, .inl (cI, 301, .inl f_tx_places))]) (w2 := [(a_rd, .inr (1, [.ref a_tx, .int v3.1, .int v3.2, .int v_rd_fault])), (a_tx, .inr (2, [.ref a_tx_bytes, .int v_tx_length, .ref a_tx_tokens, .ref a_tx_places])), (a_tx_tokens, .inl (cI, 301, .inl f_tx_tokens)), (a_tx_places, .inl (cI, 301, .inl f_tx_places))]) (zk_V (As := []) (rest := []) hx hb hml hown hts hK hG hP hD hS hA gX1_readWeight_X1_advance rfl hd_X1_advance (Nat.le_trans (Nat.le_of_ble_eq_true rfl) hRf) (Nat.le_trans (Nat.le_of_ble_eq_true rfl) hRl) hcs (zc_X1_advance l D tL tO cI cJ cB cQ a_rd a_tx a_tx_bytes a_tx_tokens a_tx_places v_rd_at v_rd_token v_rd_fault v_tx_length f_tx_tokens v3 hv3) rfl rfl 0 rfl hl.1 rfl rfl (Nat.le_of_ble_eq_true rfl) dX1_readWeight_26 [0, 1, 2] rfl rfl) hP hD hS hA [0, 1, 2] [3] [1, 2, 3, 0] rfl rfl rfl (by decide) rfl rfl (fun H locs hP hD hS => ?_)
      refine lv_iload_n hx hb dX1_readWeight_29 rfl (lv_at hl 0 rfl) ?_
      obtain rfl := Option.some.inj hf
      exact hret trivial _ _ _ _ hP hD hS dX1_readWeight_30
    · have hf := zk_f c5 hf
      refine lv_aload_n hx hb dX1_readWeight_19 rfl (lv_at hl 1 rfl) ?_
      obtain ⟨v4, hv4, hf⟩ := zk_ob hf
      refine zk_go (wr := [(a_tx_tokens, .inl (cI, 301, .inl f_tx_tokens))]) (w2 := [(a_rd, .inr (1, [.ref a_tx, .int v_rd_at, .int v_rd_token, .int v4])), (a_tx, .inr (2, [.ref a_tx_bytes, .int v_tx_length, .ref a_tx_tokens, .ref a_tx_places])), (a_tx_tokens, .inl (cI, 301, .inl f_tx_tokens)), (a_tx_places, .inl (cI, 301, .inl f_tx_places))]) (zk_V (As := []) (rest := []) hx hb hml hown hts hK hG hP hD hS hA gX1_readWeight_X1_fail rfl hd_X1_fail (Nat.le_trans (Nat.le_of_ble_eq_true rfl) hRf) (Nat.le_trans (Nat.le_of_ble_eq_true rfl) hRl) hcs (zc_X1_fail l D tL tO cI cJ cB cQ a_rd a_tx a_tx_bytes a_tx_tokens a_tx_places v_rd_at v_rd_token v_rd_fault v_tx_length f_tx_places v4 hv4) rfl rfl 0 rfl hl.1 rfl rfl (Nat.le_of_ble_eq_true rfl) dX1_readWeight_20 [0, 1, 3] rfl rfl) hP hD hS hA [0, 1, 3] [2] [1, 2, 0, 3] rfl rfl rfl (by decide) rfl rfl (fun H locs hP hD hS => ?_)
      refine lv_iconst (v := (0 : Int32)) hx hb dX1_readWeight_23 (by decide) ?_
      obtain rfl := Option.some.inj hf
      exact hret trivial _ _ _ _ hP hD hS dX1_readWeight_24
