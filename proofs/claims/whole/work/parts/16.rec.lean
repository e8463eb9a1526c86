theorem hd_X1_readOne : yX1_readOne.cls = RX1 ∧ yX1_readOne.cls ≠ "java/lang/invoke/MethodHandle" ∧ yX1_readOne.cls ≠ "java/lang/invoke/VarHandle" ∧ (parseMethodDescriptor yX1_readOne.desc).map (fun d => d.parameters.length) = some 1 := by decide +kernel
def zl_X1_readBoth_9 (one : Int32 → Int32 → Int32 → Int32 → (Nat → Int32) → (Nat → Int32) → Option (Int64 × Int32 × Int32 × Int32)) (x0 : Int32) (f_tx_tokens : Nat → Int32) (f_tx_places : Nat → Int32) : Nat → (Int64) → (Int32) → (Int32) → (Int32) → (Int32) → Option (Int64 × Int32 × Int32 × Int32 × Int32)
  | 0, _, _, _, _, _ => none
  | n + 1, w2, w3, w4, w5, w6 =>
    if (300 : Int32) ≤ w3 then
    some (w2, w3, w4, w5, w6)
    else
    (zf_X1_isFaulty w6).bind (fun v7 =>
    if v7 = 0 then
    if w5 = (38 : Int32) then
    (zf_X1_advance w4 w5 f_tx_tokens).bind (fun v8 =>
    (one x0 v8.1 v8.2 w6 f_tx_tokens f_tx_places).bind (fun v9 =>
    zk_lt (w2 &&& v9.1) (fun y10 =>
    zk_lt (w3 + 1) (fun y11 =>
    zl_X1_readBoth_9 one x0 f_tx_tokens f_tx_places n y10 y11 v9.2.1 v9.2.2.1 v9.2.2.2))))
    else
    some (w2, w3, w4, w5, w6)
    else
    some (w2, w3, w4, w5, w6))
def zf_X1_readBoth (one : Int32 → Int32 → Int32 → Int32 → (Nat → Int32) → (Nat → Int32) → Option (Int64 × Int32 × Int32 × Int32)) (x0 : Int32) (v_rd_at : Int32) (v_rd_token : Int32) (v_rd_fault : Int32) (f_tx_tokens : Nat → Int32) (f_tx_places : Nat → Int32) : Option (Int64 × Int32 × Int32 × Int32) :=
  (one x0 v_rd_at v_rd_token v_rd_fault f_tx_tokens f_tx_places).bind (fun v1 =>
  (zl_X1_readBoth_9 one x0 f_tx_tokens f_tx_places zk_F v1.1 (0 : Int32) v1.2.1 v1.2.2.1 v1.2.2.2).bind (fun v15 =>
  some (v15.1, v15.2.2.1, v15.2.2.2.1, v15.2.2.2.2)))
theorem hd_X1_readBoth : yX1_readBoth.cls = RX1 ∧ yX1_readBoth.cls ≠ "java/lang/invoke/MethodHandle" ∧ yX1_readBoth.cls ≠ "java/lang/invoke/VarHandle" ∧ (parseMethodDescriptor yX1_readBoth.desc).map (fun d => d.parameters.length) = some 1 := by decide +kernel
set_option maxHeartbeats 4000000 in
set_option maxRecDepth 100000 in
theorem zc_X1_readBoth (l : Launch) (D : va_G) (tL tO : Nat) (cI cJ cB cQ : ClassId) (a_rd a_tx a_tx_bytes a_tx_tokens a_tx_places : Nat) (one : Int32 → Int32 → Int32 → Int32 → (Nat → Int32) → (Nat → Int32) → Option (Int64 × Int32 × Int32 × Int32)) (fr lo : Nat) (hone : ∀ (x0 v_rd_at v_rd_token v_rd_fault v_tx_length : Int32) (f_tx_tokens f_tx_places : Nat → Int32) (z : Int64 × Int32 × Int32 × Int32), one x0 v_rd_at v_rd_token v_rd_fault f_tx_tokens f_tx_places = some z → zk_CT l D tL tO (zk_ty cI cJ cB cQ) yX1_readOne wsX1_readOne fr lo [.ref a_rd, .int x0] (some (.long z.1)) [(a_rd, .inr (1, [.ref a_tx, .int v_rd_at, .int v_rd_token, .int v_rd_fault])), (a_tx, .inr (2, [.ref a_tx_bytes, .int v_tx_length, .ref a_tx_tokens, .ref a_tx_places])), (a_tx_tokens, .inl (cI, 301, .inl f_tx_tokens)), (a_tx_places, .inl (cI, 301, .inl f_tx_places))] [(a_rd, .inr (1, [.ref a_tx, .int z.2.1, .int z.2.2.1, .int z.2.2.2])), (a_tx, .inr (2, [.ref a_tx_bytes, .int v_tx_length, .ref a_tx_tokens, .ref a_tx_places])), (a_tx_tokens, .inl (cI, 301, .inl f_tx_tokens)), (a_tx_places, .inl (cI, 301, .inl f_tx_places))]) (x0 : Int32) (v_rd_at : Int32) (v_rd_token : Int32) (v_rd_fault : Int32) (v_tx_length : Int32) (f_tx_tokens : Nat → Int32) (f_tx_places : Nat → Int32) (z : Int64 × Int32 × Int32 × Int32) (hf : zf_X1_readBoth one x0 v_rd_at v_rd_token v_rd_fault f_tx_tokens f_tx_places = some z) : zk_CT l D tL tO (zk_ty cI cJ cB cQ) yX1_readBoth wsX1_readBoth (fr + 2) (lo + 60) [.ref a_rd, .int x0] (some (.long z.1)) [(a_rd, .inr (1, [.ref a_tx, .int v_rd_at, .int v_rd_token, .int v_rd_fault])), (a_tx, .inr (2, [.ref a_tx_bytes, .int v_tx_length, .ref a_tx_tokens, .ref a_tx_places])), (a_tx_tokens, .inl (cI, 301, .inl f_tx_tokens)), (a_tx_places, .inl (cI, 301, .inl f_tx_places))] [(a_rd, .inr (1, [.ref a_tx, .int z.2.1, .int z.2.2.1, .int z.2.2.2])), (a_tx, .inr (2, [.ref a_tx_bytes, .int v_tx_length, .ref a_tx_tokens, .ref a_tx_places])), (a_tx_tokens, .inl (cI, 301, .inl f_tx_tokens)), (a_tx_places, .inl (cI, 301, .inl f_tx_places))] := by
  refine zk_of_l (cc := cX1_readBoth) (maxL := 5) (by decide) rfl (Nat.le_of_ble_eq_true rfl) ?_
  intro p e R s m args below meth c A Q ls hx hb hml hRf hRl hts hown hP hK hD hA hS hG hl hret
  have hl : lv_has ls 5 [(0, .ref a_rd), (1, .int x0)] := hl
  have hown : s.vm.findClass RX1 = some m.cls := hown
  have hcs : 0 ≤ R.cells ∧ 0 ≤ R.slots := ⟨Nat.zero_le _, Nat.zero_le _⟩
  have lk0 := hts (.fieldLink RX1 19 "SayingsMerged$Reader" "token" "I") (by decide +kernel)
  have inX1 : ∀ w ∈ wsX10, w ∈ wsX1_readBoth := by decide +kernel
  unfold zf_X1_readBoth at hf
  refine lv_aload_n hx hb dX1_readBoth_0 rfl (lv_at hl 0 rfl) ?_
  refine lv_iload_n hx hb dX1_readBoth_1 rfl (lv_at hl 1 rfl) ?_
  obtain ⟨v1, hv1, hf⟩ := zk_ob hf
  refine zk_go (wr := []) (w2 := [(a_rd, .inr (1, [.ref a_tx, .int v1.2.1, .int v1.2.2.1, .int v1.2.2.2])), (a_tx, .inr (2, [.ref a_tx_bytes, .int v_tx_length, .ref a_tx_tokens, .ref a_tx_places])), (a_tx_tokens, .inl (cI, 301, .inl f_tx_tokens)), (a_tx_places, .inl (cI, 301, .inl f_tx_places))]) (zk_V (As := [.int x0]) (rest := []) hx hb hml hown hts hK hG hP hD hS hA gX1_readBoth_X1_readOne rfl hd_X1_readOne (by omega) (by omega) hcs (hone x0 v_rd_at v_rd_token v_rd_fault v_tx_length f_tx_tokens f_tx_places v1 hv1) rfl rfl 0 rfl hl.1 rfl rfl (Nat.le_of_ble_eq_true rfl) dX1_readBoth_2 [0, 1, 2, 3] rfl rfl) hP hD hS hA [0, 1, 2, 3] [] [0, 1, 2, 3] rfl rfl rfl (by decide) rfl rfl (fun H locs hP hD hS => ?_)
  refine lv_lstore_n (lv' := [(2, .long v1.1), (0, .ref a_rd), (1, .int x0)]) hx hb dX1_readBoth_5 rfl hl (by decide) rfl (fun ls hl => ?_)
  refine lv_iconst (v := (0 : Int32)) hx hb dX1_readBoth_6 (by decide) ?_
  refine lv_istore (lv' := [(4, .int (0 : Int32)), (2, .long v1.1), (0, .ref a_rd), (1, .int x0)]) hx hb dX1_readBoth_7 hl (by decide) rfl (fun ls hl => ?_)
  have lp9 : ∀ (n : Nat) (w2 : Int64) (w3 : Int32) (w4 : Int32) (w5 : Int32) (w6 : Int32) (z9 : Int64 × Int32 × Int32 × Int32 × Int32) (H : Heap) (locs : List Loc) (ls : Array Slot), zl_X1_readBoth_9 one x0 f_tx_tokens f_tx_places n w2 w3 w4 w5 w6 = some z9 → va_P D vwCl [(a_rd, .inr (1, [.ref a_tx, .int w4, .int w5, .int w6])), (a_tx, .inr (2, [.ref a_tx_bytes, .int v_tx_length, .ref a_tx_tokens, .ref a_tx_places])), (a_tx_tokens, .inl (cI, 301, .inl f_tx_tokens)), (a_tx_places, .inl (cI, 301, .inl f_tx_places))] H → va_D A [(a_rd, .inr (1, [.ref a_tx, .int w4, .int w5, .int w6])), (a_tx, .inr (2, [.ref a_tx_bytes, .int v_tx_length, .ref a_tx_tokens, .ref a_tx_places])), (a_tx_tokens, .inl (cI, 301, .inl f_tx_tokens)), (a_tx_places, .inl (cI, 301, .inl f_tx_places))] → va_S A s.heap H locs → lv_has ls 5 [(0, .ref a_rd), (1, .int x0), (2, .long w2), (4, .int w3)] → (∀ (H : Heap) (locs : List Loc) (ls : Array Slot), va_P D vwCl [(a_rd, .inr (1, [.ref a_tx, .int z9.2.2.1, .int z9.2.2.2.1, .int z9.2.2.2.2])), (a_tx, .inr (2, [.ref a_tx_bytes, .int v_tx_length, .ref a_tx_tokens, .ref a_tx_places])), (a_tx_tokens, .inl (cI, 301, .inl f_tx_tokens)), (a_tx_places, .inl (cI, 301, .inl f_tx_places))] H → va_D A [(a_rd, .inr (1, [.ref a_tx, .int z9.2.2.1, .int z9.2.2.2.1, .int z9.2.2.2.2])), (a_tx, .inr (2, [.ref a_tx_bytes, .int v_tx_length, .ref a_tx_tokens, .ref a_tx_places])), (a_tx_tokens, .inl (cI, 301, .inl f_tx_tokens)), (a_tx_places, .inl (cI, 301, .inl f_tx_places))] → va_S A s.heap H locs → lv_has ls 5 [(0, .ref a_rd), (1, .int x0), (2, .long z9.1), (4, .int z9.2.1)] → W p l e R s m args below meth c H locs 0 0 Q (F0 m 51 ls [])) → W p l e R s m args below meth c H locs 0 0 Q (F0 m 9 ls []) := by
    intro n
    induction n with
    | zero => intro w2 w3 w4 w5 w6 z9 H locs ls hf; exact absurd (show none = some z9 from hf) (by simp)
    | succ n ih =>
      intro w2 w3 w4 w5 w6 z9 H locs ls hf hP hD hS hl hk
      rw [zl_X1_readBoth_9] at hf
      refine lv_iload hx hb dX1_readBoth_9 (lv_at hl 3 rfl) ?_
      refine lv_sipush (v := (300 : Int32)) hx hb dX1_readBoth_11 (by decide) ?_
      refine lv_icmp_ge (tgt := 51) hx hb dX1_readBoth_14 (by decide) (fun c14 => ?_) (fun c14 => ?_)
      · have hf := zk_t c14 hf
        obtain rfl := Option.some.inj hf
        exact hk _ _ _ hP hD hS (lv_sub hl [0, 1, 2, 3] rfl)
      · have hf := zk_f c14 hf
        refine lv_aload_n hx hb dX1_readBoth_17 rfl (lv_at hl 0 rfl) ?_
        obtain ⟨v7, hv7, hf⟩ := zk_ob hf
        refine zk_goR (zk_V (As := []) (rest := []) hx hb hml hown hts hK hG hP hD hS hA gX1_readBoth_X1_isFaulty rfl hd_X1_isFaulty (by omega) (by omega) hcs (zc_X1_isFaulty l D tL tO cI cJ cB cQ a_rd a_tx w4 w5 w6 v7 hv7) rfl rfl 0 rfl hl.1 rfl rfl (Nat.le_of_ble_eq_true rfl) dX1_readBoth_18 [0] rfl rfl) hP hD hS hA [0] rfl (fun H locs hP hS => ?_)
        refine lv_if_ne (tgt := 51) hx hb dX1_readBoth_21 (by decide) (fun c13 => ?_) (fun c13 => ?_)
        · have hf := zk_f c13 hf
          obtain rfl := Option.some.inj hf
          exact hk _ _ _ hP hD hS (lv_sub hl [0, 1, 2, 3] rfl)
        · have hf := zk_t c13 hf
          refine lv_aload_n hx hb dX1_readBoth_24 rfl (lv_at hl 0 rfl) ?_
          refine va_get (ci := 1) (v := .int w5) (C := RX1) (T := TX1) (N := 4) hx hb hts inX1 hown hK hP 0 rfl rfl 2 (by decide) lk0 (fun _ h9 => h9) rfl dX1_readBoth_25 ?_
          refine lv_bipush (v := (38 : Int32)) hx hb dX1_readBoth_28 (by decide) ?_
          refine lv_icmp_ne (tgt := 51) hx hb dX1_readBoth_30 (by decide) (fun c12 => ?_) (fun c12 => ?_)
          · have hf := zk_f c12 hf
            obtain rfl := Option.some.inj hf
            exact hk _ _ _ hP hD hS (lv_sub hl [0, 1, 2, 3] rfl)
          · have hf := zk_t c12 hf
            refine lv_aload_n hx hb dX1_readBoth_33 rfl (lv_at hl 0 rfl) ?_
            obtain ⟨v8, hv8, hf⟩ := zk_ob hf
            refine zk_go (wr := [(a_tx_places, .inl (cI, 301, .inl f_tx_places))]) (w2 := [(a_rd, .inr (1, [.ref a_tx, .int v8.1, .int v8.2, .int w6])), (a_tx, .inr (2, [.ref a_tx_bytes, .int v_tx_length, .ref a_tx_tokens, .ref a_tx_places])), (a_tx_tokens, .inl (cI, 301, .inl f_tx_tokens)), (a_tx_places, .inl (cI, 301, .inl f_tx_places))]) (zk_V (As := []) (rest := []) hx hb hml hown hts hK hG hP hD hS hA gX1_readBoth_X1_advance rfl hd_X1_advance (by omega) (by omega) hcs (zc_X1_advance l D tL tO cI cJ cB cQ a_rd a_tx a_tx_bytes a_tx_tokens a_tx_places w4 w5 w6 v_tx_length f_tx_tokens v8 hv8) rfl rfl 0 rfl hl.1 rfl rfl (Nat.le_of_ble_eq_true rfl) dX1_readBoth_34 [0, 1, 2] rfl rfl) hP hD hS hA [0, 1, 2] [3] [1, 2, 3, 0] rfl rfl rfl (by decide) rfl rfl (fun H locs hP hD hS => ?_)
            refine lv_lload_n hx hb dX1_readBoth_37 rfl (lv_at hl 2 rfl) ?_
            refine lv_aload_n hx hb dX1_readBoth_38 rfl (lv_at hl 0 rfl) ?_
            refine lv_iload_n hx hb dX1_readBoth_39 rfl (lv_at hl 1 rfl) ?_
            obtain ⟨v9, hv9, hf⟩ := zk_ob hf
            refine zk_go (wr := []) (w2 := [(a_rd, .inr (1, [.ref a_tx, .int v9.2.1, .int v9.2.2.1, .int v9.2.2.2])), (a_tx, .inr (2, [.ref a_tx_bytes, .int v_tx_length, .ref a_tx_tokens, .ref a_tx_places])), (a_tx_tokens, .inl (cI, 301, .inl f_tx_tokens)), (a_tx_places, .inl (cI, 301, .inl f_tx_places))]) (zk_V (As := [.int x0]) (rest := [.long w2]) hx hb hml hown hts hK hG hP hD hS hA gX1_readBoth_X1_readOne rfl hd_X1_readOne (by omega) (by omega) hcs (hone x0 v8.1 v8.2 w6 v_tx_length f_tx_tokens f_tx_places v9 hv9) rfl rfl 0 rfl hl.1 rfl rfl (Nat.le_of_ble_eq_true rfl) dX1_readBoth_40 [0, 1, 2, 3] rfl rfl) hP hD hS hA [0, 1, 2, 3] [] [0, 1, 2, 3] rfl rfl rfl (by decide) rfl rfl (fun H locs hP hD hS => ?_)
            refine lv_land hx hb dX1_readBoth_43 ?_
            obtain ⟨y10, ey10, hf⟩ := zk_lt_s hf
            refine zk_topl ey10 ?_
            refine lv_lstore_n (lv' := [(2, .long y10), (0, .ref a_rd), (1, .int x0), (4, .int w3)]) hx hb dX1_readBoth_44 rfl hl (by decide) rfl (fun ls hl => ?_)
            obtain ⟨y11, ey11, hf⟩ := zk_lt_s hf
            refine lv_iinc (v := y11) (lv' := [(4, .int y11), (2, .long y10), (0, .ref a_rd), (1, .int x0)]) hx hb dX1_readBoth_45 hl (k := 3) rfl (by rw [ey11]; rfl) (by decide) rfl (fun ls hl => ?_)
            refine lv_goto (tgt := 9) hx hb dX1_readBoth_48 (by decide) ?_
            exact ih y10 y11 v9.2.1 v9.2.2.1 v9.2.2.2 _ _ _ _ hf hP hD hS (lv_sub hl [2, 3, 1, 0] rfl) hk
  obtain ⟨v15, hv15, hf⟩ := zk_ob hf
  refine lp9 zk_F v1.1 (0 : Int32) v1.2.1 v1.2.2.1 v1.2.2.2 v15 _ _ _ hv15 hP hD hS (lv_sub hl [2, 3, 1, 0] rfl) ?_
  intro H locs ls hP hD hS hl
  refine lv_lload_n hx hb dX1_readBoth_51 rfl (lv_at hl 2 rfl) ?_
  obtain rfl := Option.some.inj hf
  exact hret trivial _ _ _ _ hP hD hS dX1_readBoth_52
def zl_X1_readSaying_9 (one : Int32 → Int32 → Int32 → Int32 → (Nat → Int32) → (Nat → Int32) → Option (Int64 × Int32 × Int32 × Int32)) (x0 : Int32) (f_tx_tokens : Nat → Int32) (f_tx_places : Nat → Int32) : Nat → (Int64) → (Int32) → (Int32) → (Int32) → (Int32) → Option (Int64 × Int32 × Int32 × Int32 × Int32)
  | 0, _, _, _, _, _ => none
  | n + 1, w2, w3, w4, w5, w6 =>
    if (300 : Int32) ≤ w3 then
    some (w2, w3, w4, w5, w6)
    else
    (zf_X1_isFaulty w6).bind (fun v7 =>
    if v7 = 0 then
    if w5 = (124 : Int32) then
    (zf_X1_advance w4 w5 f_tx_tokens).bind (fun v8 =>
    (zf_X1_readBoth one x0 v8.1 v8.2 w6 f_tx_tokens f_tx_places).bind (fun v9 =>
    zk_lt (w2 ||| v9.1) (fun y10 =>
    zk_lt (w3 + 1) (fun y11 =>
    zl_X1_readSaying_9 one x0 f_tx_tokens f_tx_places n y10 y11 v9.2.1 v9.2.2.1 v9.2.2.2))))
    else
    some (w2, w3, w4, w5, w6)
    else
    some (w2, w3, w4, w5, w6))
def zf_X1_readSaying (one : Int32 → Int32 → Int32 → Int32 → (Nat → Int32) → (Nat → Int32) → Option (Int64 × Int32 × Int32 × Int32)) (x0 : Int32) (v_rd_at : Int32) (v_rd_token : Int32) (v_rd_fault : Int32) (f_tx_tokens : Nat → Int32) (f_tx_places : Nat → Int32) : Option (Int64 × Int32 × Int32 × Int32) :=
  (zf_X1_readBoth one x0 v_rd_at v_rd_token v_rd_fault f_tx_tokens f_tx_places).bind (fun v1 =>
  (zl_X1_readSaying_9 one x0 f_tx_tokens f_tx_places zk_F v1.1 (0 : Int32) v1.2.1 v1.2.2.1 v1.2.2.2).bind (fun v15 =>
  some (v15.1, v15.2.2.1, v15.2.2.2.1, v15.2.2.2.2)))
theorem hd_X1_readSaying : yX1_readSaying.cls = RX1 ∧ yX1_readSaying.cls ≠ "java/lang/invoke/MethodHandle" ∧ yX1_readSaying.cls ≠ "java/lang/invoke/VarHandle" ∧ (parseMethodDescriptor yX1_readSaying.desc).map (fun d => d.parameters.length) = some 1 := by decide +kernel
set_option maxHeartbeats 4000000 in
set_option maxRecDepth 100000 in
theorem zc_X1_readSaying (l : Launch) (D : va_G) (tL tO : Nat) (cI cJ cB cQ : ClassId) (a_rd a_tx a_tx_bytes a_tx_tokens a_tx_places : Nat) (one : Int32 → Int32 → Int32 → Int32 → (Nat → Int32) → (Nat → Int32) → Option (Int64 × Int32 × Int32 × Int32)) (fr lo : Nat) (hone : ∀ (x0 v_rd_at v_rd_token v_rd_fault v_tx_length : Int32) (f_tx_tokens f_tx_places : Nat → Int32) (z : Int64 × Int32 × Int32 × Int32), one x0 v_rd_at v_rd_token v_rd_fault f_tx_tokens f_tx_places = some z → zk_CT l D tL tO (zk_ty cI cJ cB cQ) yX1_readOne wsX1_readOne fr lo [.ref a_rd, .int x0] (some (.long z.1)) [(a_rd, .inr (1, [.ref a_tx, .int v_rd_at, .int v_rd_token, .int v_rd_fault])), (a_tx, .inr (2, [.ref a_tx_bytes, .int v_tx_length, .ref a_tx_tokens, .ref a_tx_places])), (a_tx_tokens, .inl (cI, 301, .inl f_tx_tokens)), (a_tx_places, .inl (cI, 301, .inl f_tx_places))] [(a_rd, .inr (1, [.ref a_tx, .int z.2.1, .int z.2.2.1, .int z.2.2.2])), (a_tx, .inr (2, [.ref a_tx_bytes, .int v_tx_length, .ref a_tx_tokens, .ref a_tx_places])), (a_tx_tokens, .inl (cI, 301, .inl f_tx_tokens)), (a_tx_places, .inl (cI, 301, .inl f_tx_places))]) (x0 : Int32) (v_rd_at : Int32) (v_rd_token : Int32) (v_rd_fault : Int32) (v_tx_length : Int32) (f_tx_tokens : Nat → Int32) (f_tx_places : Nat → Int32) (z : Int64 × Int32 × Int32 × Int32) (hf : zf_X1_readSaying one x0 v_rd_at v_rd_token v_rd_fault f_tx_tokens f_tx_places = some z) : zk_CT l D tL tO (zk_ty cI cJ cB cQ) yX1_readSaying wsX1_readSaying (fr + 4) (lo + 120) [.ref a_rd, .int x0] (some (.long z.1)) [(a_rd, .inr (1, [.ref a_tx, .int v_rd_at, .int v_rd_token, .int v_rd_fault])), (a_tx, .inr (2, [.ref a_tx_bytes, .int v_tx_length, .ref a_tx_tokens, .ref a_tx_places])), (a_tx_tokens, .inl (cI, 301, .inl f_tx_tokens)), (a_tx_places, .inl (cI, 301, .inl f_tx_places))] [(a_rd, .inr (1, [.ref a_tx, .int z.2.1, .int z.2.2.1, .int z.2.2.2])), (a_tx, .inr (2, [.ref a_tx_bytes, .int v_tx_length, .ref a_tx_tokens, .ref a_tx_places])), (a_tx_tokens, .inl (cI, 301, .inl f_tx_tokens)), (a_tx_places, .inl (cI, 301, .inl f_tx_places))] := by
  refine zk_of_l (cc := cX1_readSaying) (maxL := 5) (by decide) rfl (Nat.le_of_ble_eq_true rfl) ?_
  intro p e R s m args below meth c A Q ls hx hb hml hRf hRl hts hown hP hK hD hA hS hG hl hret
  have hl : lv_has ls 5 [(0, .ref a_rd), (1, .int x0)] := hl
  have hown : s.vm.findClass RX1 = some m.cls := hown
  have hcs : 0 ≤ R.cells ∧ 0 ≤ R.slots := ⟨Nat.zero_le _, Nat.zero_le _⟩
  have lk0 := hts (.fieldLink RX1 19 "SayingsMerged$Reader" "token" "I") (by decide +kernel)
  have inX1 : ∀ w ∈ wsX10, w ∈ wsX1_readSaying := by decide +kernel
  unfold zf_X1_readSaying at hf
  refine lv_aload_n hx hb dX1_readSaying_0 rfl (lv_at hl 0 rfl) ?_
  refine lv_iload_n hx hb dX1_readSaying_1 rfl (lv_at hl 1 rfl) ?_
  obtain ⟨v1, hv1, hf⟩ := zk_ob hf
  refine zk_go (wr := []) (w2 := [(a_rd, .inr (1, [.ref a_tx, .int v1.2.1, .int v1.2.2.1, .int v1.2.2.2])), (a_tx, .inr (2, [.ref a_tx_bytes, .int v_tx_length, .ref a_tx_tokens, .ref a_tx_places])), (a_tx_tokens, .inl (cI, 301, .inl f_tx_tokens)), (a_tx_places, .inl (cI, 301, .inl f_tx_places))]) (zk_V (As := [.int x0]) (rest := []) hx hb hml hown hts hK hG hP hD hS hA gX1_readSaying_X1_readBoth rfl hd_X1_readBoth (by omega) (by omega) hcs (zc_X1_readBoth l D tL tO cI cJ cB cQ a_rd a_tx a_tx_bytes a_tx_tokens a_tx_places one fr lo hone x0 v_rd_at v_rd_token v_rd_fault v_tx_length f_tx_tokens f_tx_places v1 hv1) rfl rfl 0 rfl hl.1 rfl rfl (Nat.le_of_ble_eq_true rfl) dX1_readSaying_2 [0, 1, 2, 3] rfl rfl) hP hD hS hA [0, 1, 2, 3] [] [0, 1, 2, 3] rfl rfl rfl (by decide) rfl rfl (fun H locs hP hD hS => ?_)
  refine lv_lstore_n (lv' := [(2, .long v1.1), (0, .ref a_rd), (1, .int x0)]) hx hb dX1_readSaying_5 rfl hl (by decide) rfl (fun ls hl => ?_)
  refine lv_iconst (v := (0 : Int32)) hx hb dX1_readSaying_6 (by decide) ?_
  refine lv_istore (lv' := [(4, .int (0 : Int32)), (2, .long v1.1), (0, .ref a_rd), (1, .int x0)]) hx hb dX1_readSaying_7 hl (by decide) rfl (fun ls hl => ?_)
  have lp9 : ∀ (n : Nat) (w2 : Int64) (w3 : Int32) (w4 : Int32) (w5 : Int32) (w6 : Int32) (z9 : Int64 × Int32 × Int32 × Int32 × Int32) (H : Heap) (locs : List Loc) (ls : Array Slot), zl_X1_readSaying_9 one x0 f_tx_tokens f_tx_places n w2 w3 w4 w5 w6 = some z9 → va_P D vwCl [(a_rd, .inr (1, [.ref a_tx, .int w4, .int w5, .int w6])), (a_tx, .inr (2, [.ref a_tx_bytes, .int v_tx_length, .ref a_tx_tokens, .ref a_tx_places])), (a_tx_tokens, .inl (cI, 301, .inl f_tx_tokens)), (a_tx_places, .inl (cI, 301, .inl f_tx_places))] H → va_D A [(a_rd, .inr (1, [.ref a_tx, .int w4, .int w5, .int w6])), (a_tx, .inr (2, [.ref a_tx_bytes, .int v_tx_length, .ref a_tx_tokens, .ref a_tx_places])), (a_tx_tokens, .inl (cI, 301, .inl f_tx_tokens)), (a_tx_places, .inl (cI, 301, .inl f_tx_places))] → va_S A s.heap H locs → lv_has ls 5 [(0, .ref a_rd), (1, .int x0), (2, .long w2), (4, .int w3)] → (∀ (H : Heap) (locs : List Loc) (ls : Array Slot), va_P D vwCl [(a_rd, .inr (1, [.ref a_tx, .int z9.2.2.1, .int z9.2.2.2.1, .int z9.2.2.2.2])), (a_tx, .inr (2, [.ref a_tx_bytes, .int v_tx_length, .ref a_tx_tokens, .ref a_tx_places])), (a_tx_tokens, .inl (cI, 301, .inl f_tx_tokens)), (a_tx_places, .inl (cI, 301, .inl f_tx_places))] H → va_D A [(a_rd, .inr (1, [.ref a_tx, .int z9.2.2.1, .int z9.2.2.2.1, .int z9.2.2.2.2])), (a_tx, .inr (2, [.ref a_tx_bytes, .int v_tx_length, .ref a_tx_tokens, .ref a_tx_places])), (a_tx_tokens, .inl (cI, 301, .inl f_tx_tokens)), (a_tx_places, .inl (cI, 301, .inl f_tx_places))] → va_S A s.heap H locs → lv_has ls 5 [(0, .ref a_rd), (1, .int x0), (2, .long z9.1), (4, .int z9.2.1)] → W p l e R s m args below meth c H locs 0 0 Q (F0 m 51 ls [])) → W p l e R s m args below meth c H locs 0 0 Q (F0 m 9 ls []) := by
    intro n
    induction n with
    | zero => intro w2 w3 w4 w5 w6 z9 H locs ls hf; exact absurd (show none = some z9 from hf) (by simp)
    | succ n ih =>
      intro w2 w3 w4 w5 w6 z9 H locs ls hf hP hD hS hl hk
      rw [zl_X1_readSaying_9] at hf
      refine lv_iload hx hb dX1_readSaying_9 (lv_at hl 3 rfl) ?_
      refine lv_sipush (v := (300 : Int32)) hx hb dX1_readSaying_11 (by decide) ?_
      refine lv_icmp_ge (tgt := 51) hx hb dX1_readSaying_14 (by decide) (fun c14 => ?_) (fun c14 => ?_)
      · have hf := zk_t c14 hf
        obtain rfl := Option.some.inj hf
        exact hk _ _ _ hP hD hS (lv_sub hl [0, 1, 2, 3] rfl)
      · have hf := zk_f c14 hf
        refine lv_aload_n hx hb dX1_readSaying_17 rfl (lv_at hl 0 rfl) ?_
        obtain ⟨v7, hv7, hf⟩ := zk_ob hf
        refine zk_goR (zk_V (As := []) (rest := []) hx hb hml hown hts hK hG hP hD hS hA gX1_readSaying_X1_isFaulty rfl hd_X1_isFaulty (by omega) (by omega) hcs (zc_X1_isFaulty l D tL tO cI cJ cB cQ a_rd a_tx w4 w5 w6 v7 hv7) rfl rfl 0 rfl hl.1 rfl rfl (Nat.le_of_ble_eq_true rfl) dX1_readSaying_18 [0] rfl rfl) hP hD hS hA [0] rfl (fun H locs hP hS => ?_)
        refine lv_if_ne (tgt := 51) hx hb dX1_readSaying_21 (by decide) (fun c13 => ?_) (fun c13 => ?_)
        · have hf := zk_f c13 hf
          obtain rfl := Option.some.inj hf
          exact hk _ _ _ hP hD hS (lv_sub hl [0, 1, 2, 3] rfl)
        · have hf := zk_t c13 hf
          refine lv_aload_n hx hb dX1_readSaying_24 rfl (lv_at hl 0 rfl) ?_
          refine va_get (ci := 1) (v := .int w5) (C := RX1) (T := TX1) (N := 4) hx hb hts inX1 hown hK hP 0 rfl rfl 2 (by decide) lk0 (fun _ h9 => h9) rfl dX1_readSaying_25 ?_
          refine lv_bipush (v := (124 : Int32)) hx hb dX1_readSaying_28 (by decide) ?_
          refine lv_icmp_ne (tgt := 51) hx hb dX1_readSaying_30 (by decide) (fun c12 => ?_) (fun c12 => ?_)
          · have hf := zk_f c12 hf
            obtain rfl := Option.some.inj hf
            exact hk _ _ _ hP hD hS (lv_sub hl [0, 1, 2, 3] rfl)
          · have hf := zk_t c12 hf
            refine lv_aload_n hx hb dX1_readSaying_33 rfl (lv_at hl 0 rfl) ?_
            obtain ⟨v8, hv8, hf⟩ := zk_ob hf
            refine zk_go (wr := [(a_tx_places, .inl (cI, 301, .inl f_tx_places))]) (w2 := [(a_rd, .inr (1, [.ref a_tx, .int v8.1, .int v8.2, .int w6])), (a_tx, .inr (2, [.ref a_tx_bytes, .int v_tx_length, .ref a_tx_tokens, .ref a_tx_places])), (a_tx_tokens, .inl (cI, 301, .inl f_tx_tokens)), (a_tx_places, .inl (cI, 301, .inl f_tx_places))]) (zk_V (As := []) (rest := []) hx hb hml hown hts hK hG hP hD hS hA gX1_readSaying_X1_advance rfl hd_X1_advance (by omega) (by omega) hcs (zc_X1_advance l D tL tO cI cJ cB cQ a_rd a_tx a_tx_bytes a_tx_tokens a_tx_places w4 w5 w6 v_tx_length f_tx_tokens v8 hv8) rfl rfl 0 rfl hl.1 rfl rfl (Nat.le_of_ble_eq_true rfl) dX1_readSaying_34 [0, 1, 2] rfl rfl) hP hD hS hA [0, 1, 2] [3] [1, 2, 3, 0] rfl rfl rfl (by decide) rfl rfl (fun H locs hP hD hS => ?_)
            refine lv_lload_n hx hb dX1_readSaying_37 rfl (lv_at hl 2 rfl) ?_
            refine lv_aload_n hx hb dX1_readSaying_38 rfl (lv_at hl 0 rfl) ?_
            refine lv_iload_n hx hb dX1_readSaying_39 rfl (lv_at hl 1 rfl) ?_
            obtain ⟨v9, hv9, hf⟩ := zk_ob hf
            refine zk_go (wr := []) (w2 := [(a_rd, .inr (1, [.ref a_tx, .int v9.2.1, .int v9.2.2.1, .int v9.2.2.2])), (a_tx, .inr (2, [.ref a_tx_bytes, .int v_tx_length, .ref a_tx_tokens, .ref a_tx_places])), (a_tx_tokens, .inl (cI, 301, .inl f_tx_tokens)), (a_tx_places, .inl (cI, 301, .inl f_tx_places))]) (zk_V (As := [.int x0]) (rest := [.long w2]) hx hb hml hown hts hK hG hP hD hS hA gX1_readSaying_X1_readBoth rfl hd_X1_readBoth (by omega) (by omega) hcs (zc_X1_readBoth l D tL tO cI cJ cB cQ a_rd a_tx a_tx_bytes a_tx_tokens a_tx_places one fr lo hone x0 v8.1 v8.2 w6 v_tx_length f_tx_tokens f_tx_places v9 hv9) rfl rfl 0 rfl hl.1 rfl rfl (Nat.le_of_ble_eq_true rfl) dX1_readSaying_40 [0, 1, 2, 3] rfl rfl) hP hD hS hA [0, 1, 2, 3] [] [0, 1, 2, 3] rfl rfl rfl (by decide) rfl rfl (fun H locs hP hD hS => ?_)
            refine lv_lor hx hb dX1_readSaying_43 ?_
            obtain ⟨y10, ey10, hf⟩ := zk_lt_s hf
            refine zk_topl ey10 ?_
            refine lv_lstore_n (lv' := [(2, .long y10), (0, .ref a_rd), (1, .int x0), (4, .int w3)]) hx hb dX1_readSaying_44 rfl hl (by decide) rfl (fun ls hl => ?_)
            obtain ⟨y11, ey11, hf⟩ := zk_lt_s hf
            refine lv_iinc (v := y11) (lv' := [(4, .int y11), (2, .long y10), (0, .ref a_rd), (1, .int x0)]) hx hb dX1_readSaying_45 hl (k := 3) rfl (by rw [ey11]; rfl) (by decide) rfl (fun ls hl => ?_)
            refine lv_goto (tgt := 9) hx hb dX1_readSaying_48 (by decide) ?_
            exact ih y10 y11 v9.2.1 v9.2.2.1 v9.2.2.2 _ _ _ _ hf hP hD hS (lv_sub hl [2, 3, 1, 0] rfl) hk
  obtain ⟨v15, hv15, hf⟩ := zk_ob hf
  refine lp9 zk_F v1.1 (0 : Int32) v1.2.1 v1.2.2.1 v1.2.2.2 v15 _ _ _ hv15 hP hD hS (lv_sub hl [2, 3, 1, 0] rfl) ?_
  intro H locs ls hP hD hS hl
  refine lv_lload_n hx hb dX1_readSaying_51 rfl (lv_at hl 2 rfl) ?_
  obtain rfl := Option.some.inj hf
  exact hret trivial _ _ _ _ hP hD hS dX1_readSaying_52
def zf_X1_readOne : Nat → (Int32) → (Int32) → (Int32) → (Int32) → (Nat → Int32) → (Nat → Int32) → Option (Int64 × Int32 × Int32 × Int32)
  | 0, _, _, _, _, _, _ => none
  | d + 1, x0, v_rd_at, v_rd_token, v_rd_fault, f_tx_tokens, f_tx_places =>
    (zf_X1_isFaulty v_rd_fault).bind (fun v1 =>
    if v1 = 0 then
    (zf_X1_beginsOne v_rd_token x0).bind (fun v3 =>
    if v3 = 0 then
    (zf_X1_fail v_rd_at v_rd_fault f_tx_places).bind (fun v14 =>
    some ((0 : Int64), v_rd_at, v_rd_token, v14))
    else
    (zf_X1_advance v_rd_at v_rd_token f_tx_tokens).bind (fun v4 =>
    if v_rd_token = (33 : Int32) then
    (zf_X1_readOne d (x0 + (1 : Int32)) v4.1 v4.2 v_rd_fault f_tx_tokens f_tx_places).bind (fun v12 =>
    some (v12.1 ^^^ (-1 : Int64), v12.2.1, v12.2.2.1, v12.2.2.2))
    else
    if v_rd_token = (40 : Int32) then
    (zf_X1_readSaying (zf_X1_readOne d) (x0 + (1 : Int32)) v4.1 v4.2 v_rd_fault f_tx_tokens f_tx_places).bind (fun v9 =>
    (zf_X1_expect (41 : Int32) v9.2.1 v9.2.2.1 v9.2.2.2 f_tx_tokens f_tx_places).bind (fun v10 =>
    some (v9.1, v10.1, v10.2.1, v10.2.2)))
    else
    (zf_X4_isLetter v_rd_token).bind (fun v5 =>
    if v5 = 0 then
    if v_rd_token = (49 : Int32) then
    some ((-1 : Int64), v4.1, v4.2, v_rd_fault)
    else
    some ((0 : Int64), v4.1, v4.2, v_rd_fault)
    else
    zk_gd (zk_in (v_rd_token - (97 : Int32)) 6)
    (some (zk_LS (v_rd_token - (97 : Int32)).toNatClampNeg, v4.1, v4.2, v_rd_fault)))))
    else
    (zf_X1_fail v_rd_at v_rd_fault f_tx_places).bind (fun v2 =>
    some ((0 : Int64), v_rd_at, v_rd_token, v2)))
set_option maxHeartbeats 4000000 in
set_option maxRecDepth 100000 in
theorem zc_X1_readOne (l : Launch) (D : va_G) (tL tO : Nat) (cI cJ cB cQ : ClassId) (a_rd a_tx a_tx_bytes a_tx_tokens a_tx_places : Nat) : ∀ (d : Nat) (x0 : Int32) (v_rd_at : Int32) (v_rd_token : Int32) (v_rd_fault : Int32) (v_tx_length : Int32) (f_tx_tokens : Nat → Int32) (f_tx_places : Nat → Int32) (z : Int64 × Int32 × Int32 × Int32), zf_X1_readOne d x0 v_rd_at v_rd_token v_rd_fault f_tx_tokens f_tx_places = some z → zk_CT l D tL tO (zk_ty cI cJ cB cQ) yX1_readOne wsX1_readOne (6 * d + 4) (200 * d + 200) [.ref a_rd, .int x0] (some (.long z.1)) [(a_rd, .inr (1, [.ref a_tx, .int v_rd_at, .int v_rd_token, .int v_rd_fault])), (a_tx, .inr (2, [.ref a_tx_bytes, .int v_tx_length, .ref a_tx_tokens, .ref a_tx_places])), (a_tx_tokens, .inl (cI, 301, .inl f_tx_tokens)), (a_tx_places, .inl (cI, 301, .inl f_tx_places))] [(a_rd, .inr (1, [.ref a_tx, .int z.2.1, .int z.2.2.1, .int z.2.2.2])), (a_tx, .inr (2, [.ref a_tx_bytes, .int v_tx_length, .ref a_tx_tokens, .ref a_tx_places])), (a_tx_tokens, .inl (cI, 301, .inl f_tx_tokens)), (a_tx_places, .inl (cI, 301, .inl f_tx_places))] := by
  intro d
  induction d with
  | zero => intro x0 v_rd_at v_rd_token v_rd_fault v_tx_length f_tx_tokens f_tx_places z hf; exact absurd (show none = some z from hf) (by simp)
  | succ d ih =>
    intro x0 v_rd_at v_rd_token v_rd_fault v_tx_length f_tx_tokens f_tx_places z hf
    refine zk_of_l (cc := cX1_readOne) (maxL := 5) (by decide) rfl (Nat.le_of_ble_eq_true rfl) ?_
    intro p e R s m args below meth c A Q ls hx hb hml hRf hRl hts hown hP hK hD hA hS hG hl hret
    have hl : lv_has ls 5 [(0, .ref a_rd), (1, .int x0)] := hl
    have hown : s.vm.findClass RX1 = some m.cls := hown
    have hcs : 0 ≤ R.cells ∧ 0 ≤ R.slots := ⟨Nat.zero_le _, Nat.zero_le _⟩
    have lk0 := hts (.fieldLink RX1 19 "SayingsMerged$Reader" "token" "I") (by decide +kernel)
    have inX1 : ∀ w ∈ wsX10, w ∈ wsX1_readOne := by decide +kernel
    have lk2 := hts (.static yX4_isLetter) (by decide +kernel)
    have lk3 := hts (.initialized RX4) (by decide +kernel)
    have lk4 := hts (.constantLong RX1 83 (-1)) (by decide +kernel)
    have lk5 : (Cond.fieldLinkNest RX1 89 "SayingsMerged" "LETTER_SO" "[J" "SayingsMerged").before args s = true := va_Nw.use rfl (hG.1 _ (by decide +kernel))
    rw [zf_X1_readOne] at hf
    refine lv_aload_n hx hb dX1_readOne_0 rfl (lv_at hl 0 rfl) ?_
    refine va_get (ci := 1) (v := .int v_rd_token) (C := RX1) (T := TX1) (N := 4) hx hb hts inX1 hown hK hP 0 rfl rfl 2 (by decide) lk0 (fun _ h9 => h9) rfl dX1_readOne_1 ?_
    refine lv_istore_n (lv' := [(2, .int v_rd_token), (0, .ref a_rd), (1, .int x0)]) hx hb dX1_readOne_4 rfl hl (by decide) rfl (fun ls hl => ?_)
    refine lv_aload_n hx hb dX1_readOne_5 rfl (lv_at hl 1 rfl) ?_
    obtain ⟨v1, hv1, hf⟩ := zk_ob hf
    refine zk_goR (zk_V (As := []) (rest := []) hx hb hml hown hts hK hG hP hD hS hA gX1_readOne_X1_isFaulty rfl hd_X1_isFaulty (by omega) (by omega) hcs (zc_X1_isFaulty l D tL tO cI cJ cB cQ a_rd a_tx v_rd_at v_rd_token v_rd_fault v1 hv1) rfl rfl 0 rfl hl.1 rfl rfl (Nat.le_of_ble_eq_true rfl) dX1_readOne_6 [0] rfl rfl) hP hD hS hA [0] rfl (fun H locs hP hS => ?_)
    refine lv_if_ne (tgt := 20) hx hb dX1_readOne_9 (by decide) (fun c16 => ?_) (fun c16 => ?_)
    · have hf := zk_f c16 hf
      refine lv_aload_n hx hb dX1_readOne_20 rfl (lv_at hl 1 rfl) ?_
      obtain ⟨v2, hv2, hf⟩ := zk_ob hf
      refine zk_go (wr := [(a_tx_tokens, .inl (cI, 301, .inl f_tx_tokens))]) (w2 := [(a_rd, .inr (1, [.ref a_tx, .int v_rd_at, .int v_rd_token, .int v2])), (a_tx, .inr (2, [.ref a_tx_bytes, .int v_tx_length, .ref a_tx_tokens, .ref a_tx_places])), (a_tx_tokens, .inl (cI, 301, .inl f_tx_tokens)), (a_tx_places, .inl (cI, 301, .inl f_tx_places))]) (zk_V (As := []) (rest := []) hx hb hml hown hts hK hG hP hD hS hA gX1_readOne_X1_fail rfl hd_X1_fail (by omega) (by omega) hcs (zc_X1_fail l D tL tO cI cJ cB cQ a_rd a_tx a_tx_bytes a_tx_tokens a_tx_places v_rd_at v_rd_token v_rd_fault v_tx_length f_tx_places v2 hv2) rfl rfl 0 rfl hl.1 rfl rfl (Nat.le_of_ble_eq_true rfl) dX1_readOne_21 [0, 1, 3] rfl rfl) hP hD hS hA [0, 1, 3] [2] [1, 2, 0, 3] rfl rfl rfl (by decide) rfl rfl (fun H locs hP hD hS => ?_)
      refine lv_lconst (v := (0 : Int64)) hx hb dX1_readOne_24 (by decide) ?_
      obtain rfl := Option.some.inj hf
      exact hret trivial _ _ _ _ hP hD hS dX1_readOne_25
    · have hf := zk_t c16 hf
      refine lv_iload_n hx hb dX1_readOne_12 rfl (lv_at hl 0 rfl) ?_
      refine lv_iload_n hx hb dX1_readOne_13 rfl (lv_at hl 2 rfl) ?_
      obtain ⟨v3, hv3, hf⟩ := zk_ob hf
      refine zk_goR (zk_S (As := [.int v_rd_token, .int x0]) (rest := []) hx hb hml hown hts hK hG hP hD hS hA gX1_readOne_X1_beginsOne rfl hd_X1_beginsOne (by omega) (by omega) hcs (zc_X1_beginsOne l D tL tO cI cJ cB cQ v_rd_token x0 v3 hv3) hl.1 rfl rfl (Nat.le_of_ble_eq_true rfl) dX1_readOne_14 [] rfl rfl) hP hD hS hA [] rfl (fun H locs hP hS => ?_)
      refine lv_if_ne (tgt := 26) hx hb dX1_readOne_17 (by decide) (fun c15 => ?_) (fun c15 => ?_)
      · have hf := zk_f c15 hf
        refine lv_aload_n hx hb dX1_readOne_26 rfl (lv_at hl 1 rfl) ?_
        obtain ⟨v4, hv4, hf⟩ := zk_ob hf
        refine zk_go (wr := [(a_tx_places, .inl (cI, 301, .inl f_tx_places))]) (w2 := [(a_rd, .inr (1, [.ref a_tx, .int v4.1, .int v4.2, .int v_rd_fault])), (a_tx, .inr (2, [.ref a_tx_bytes, .int v_tx_length, .ref a_tx_tokens, .ref a_tx_places])), (a_tx_tokens, .inl (cI, 301, .inl f_tx_tokens)), (a_tx_places, .inl (cI, 301, .inl f_tx_places))]) (zk_V (As := []) (rest := []) hx hb hml hown hts hK hG hP hD hS hA gX1_readOne_X1_advance rfl hd_X1_advance (by omega) (by omega) hcs (zc_X1_advance l D tL tO cI cJ cB cQ a_rd a_tx a_tx_bytes a_tx_tokens a_tx_places v_rd_at v_rd_token v_rd_fault v_tx_length f_tx_tokens v4 hv4) rfl rfl 0 rfl hl.1 rfl rfl (Nat.le_of_ble_eq_true rfl) dX1_readOne_27 [0, 1, 2] rfl rfl) hP hD hS hA [0, 1, 2] [3] [1, 2, 3, 0] rfl rfl rfl (by decide) rfl rfl (fun H locs hP hD hS => ?_)
        refine lv_iload_n hx hb dX1_readOne_30 rfl (lv_at hl 0 rfl) ?_
        refine lv_bipush (v := (33 : Int32)) hx hb dX1_readOne_31 (by decide) ?_
        refine lv_icmp_ne (tgt := 48) hx hb dX1_readOne_33 (by decide) (fun c13 => ?_) (fun c13 => ?_)
        · have hf := zk_f c13 hf
          refine lv_iload_n hx hb dX1_readOne_48 rfl (lv_at hl 0 rfl) ?_
          refine lv_bipush (v := (40 : Int32)) hx hb dX1_readOne_49 (by decide) ?_
          refine lv_icmp_ne (tgt := 70) hx hb dX1_readOne_51 (by decide) (fun c11 => ?_) (fun c11 => ?_)
          · have hf := zk_f c11 hf
            refine lv_iload_n hx hb dX1_readOne_70 rfl (lv_at hl 0 rfl) ?_
            obtain ⟨v5, hv5, hf⟩ := zk_ob hf
            refine zk_goR (zk_SN (host := "SayingsMerged") (As := [.int v_rd_token]) (rest := []) hx hb hml hown hts hK hG hP hD hS hA gX1_readOne_X4_isLetter_n85 (by decide +kernel) lk2 lk3 rfl hd_X4_isLetter (by omega) (by omega) hcs (zc_X4_isLetter l D tL tO cI cJ cB cQ v_rd_token v5 hv5) hl.1 rfl rfl (Nat.le_of_ble_eq_true rfl) dX1_readOne_71 [] rfl rfl) hP hD hS hA [] rfl (fun H locs hP hS => ?_)
            refine lv_if_eq (tgt := 86) hx hb dX1_readOne_74 (by decide) (fun c8 => ?_) (fun c8 => ?_)
            · have hf := zk_t c8 hf
              refine lv_iload_n hx hb dX1_readOne_86 rfl (lv_at hl 0 rfl) ?_
              refine lv_bipush (v := (49 : Int32)) hx hb dX1_readOne_87 (by decide) ?_
              refine lv_icmp_ne (tgt := 98) hx hb dX1_readOne_89 (by decide) (fun c6 => ?_) (fun c6 => ?_)
              · have hf := zk_f c6 hf
                refine lv_lconst (v := (0 : Int64)) hx hb dX1_readOne_98 (by decide) ?_
                obtain rfl := Option.some.inj hf
                exact hret trivial _ _ _ _ hP hD hS dX1_readOne_99
              · have hf := zk_t c6 hf
                refine lv_ldc2 hx hb hown lk4 dX1_readOne_92 ?_
                refine lv_goto (tgt := 99) hx hb dX1_readOne_95 (by decide) ?_
                obtain rfl := Option.some.inj hf
                exact hret trivial _ _ _ _ hP hD hS dX1_readOne_99
            · have hf := zk_f c8 hf
              refine va_getsN hx hb hG.2.1 hS hown lk5 (fun _ h9 => h9) dX1_readOne_77 ?_
              refine lv_iload_n hx hb dX1_readOne_80 rfl (lv_at hl 0 rfl) ?_
              refine lv_bipush (v := (97 : Int32)) hx hb dX1_readOne_81 (by decide) ?_
              refine lv_isub hx hb dX1_readOne_83 ?_
              obtain ⟨g7, hf⟩ := zk_gd_s hf
              refine va_tl hx hb hG.2.2.1 hS (zk_in_s g7) (v := .long (zk_LS (v_rd_token - (97 : Int32)).toNatClampNeg)) rfl dX1_readOne_84 ?_
              obtain rfl := Option.some.inj hf
              exact hret trivial _ _ _ _ hP hD hS dX1_readOne_85
          · have hf := zk_t c11 hf
            refine lv_aload_n hx hb dX1_readOne_54 rfl (lv_at hl 1 rfl) ?_
            refine lv_iload_n hx hb dX1_readOne_55 rfl (lv_at hl 2 rfl) ?_
            refine lv_iconst (v := (1 : Int32)) hx hb dX1_readOne_56 (by decide) ?_
            refine lv_iadd hx hb dX1_readOne_57 ?_
            obtain ⟨v9, hv9, hf⟩ := zk_ob hf
            refine zk_go (wr := []) (w2 := [(a_rd, .inr (1, [.ref a_tx, .int v9.2.1, .int v9.2.2.1, .int v9.2.2.2])), (a_tx, .inr (2, [.ref a_tx_bytes, .int v_tx_length, .ref a_tx_tokens, .ref a_tx_places])), (a_tx_tokens, .inl (cI, 301, .inl f_tx_tokens)), (a_tx_places, .inl (cI, 301, .inl f_tx_places))]) (zk_V (As := [.int (x0 + (1 : Int32))]) (rest := []) hx hb hml hown hts hK hG hP hD hS hA gX1_readOne_X1_readSaying rfl hd_X1_readSaying (by omega) (by omega) hcs (zc_X1_readSaying l D tL tO cI cJ cB cQ a_rd a_tx a_tx_bytes a_tx_tokens a_tx_places (zf_X1_readOne d) (6 * d + 4) (200 * d + 200) ih (x0 + (1 : Int32)) v4.1 v4.2 v_rd_fault v_tx_length f_tx_tokens f_tx_places v9 hv9) rfl rfl 0 rfl hl.1 rfl rfl (Nat.le_of_ble_eq_true rfl) dX1_readOne_58 [0, 1, 2, 3] rfl rfl) hP hD hS hA [0, 1, 2, 3] [] [0, 1, 2, 3] rfl rfl rfl (by decide) rfl rfl (fun H locs hP hD hS => ?_)
            refine lv_lstore_n (lv' := [(3, .long v9.1), (2, .int v_rd_token), (0, .ref a_rd), (1, .int x0)]) hx hb dX1_readOne_61 rfl hl (by decide) rfl (fun ls hl => ?_)
            refine lv_aload_n hx hb dX1_readOne_62 rfl (lv_at hl 2 rfl) ?_
            refine lv_bipush (v := (41 : Int32)) hx hb dX1_readOne_63 (by decide) ?_
            obtain ⟨v10, hv10, hf⟩ := zk_ob hf
            refine zk_go (wr := []) (w2 := [(a_rd, .inr (1, [.ref a_tx, .int v10.1, .int v10.2.1, .int v10.2.2])), (a_tx, .inr (2, [.ref a_tx_bytes, .int v_tx_length, .ref a_tx_tokens, .ref a_tx_places])), (a_tx_tokens, .inl (cI, 301, .inl f_tx_tokens)), (a_tx_places, .inl (cI, 301, .inl f_tx_places))]) (zk_V (As := [.int (41 : Int32)]) (rest := []) hx hb hml hown hts hK hG hP hD hS hA gX1_readOne_X1_expect rfl hd_X1_expect (by omega) (by omega) hcs (zc_X1_expect l D tL tO cI cJ cB cQ a_rd a_tx a_tx_bytes a_tx_tokens a_tx_places (41 : Int32) v9.2.1 v9.2.2.1 v9.2.2.2 v_tx_length f_tx_tokens f_tx_places v10 hv10) rfl rfl 0 rfl hl.1 rfl rfl (Nat.le_of_ble_eq_true rfl) dX1_readOne_65 [0, 1, 2, 3] rfl rfl) hP hD hS hA [0, 1, 2, 3] [] [0, 1, 2, 3] rfl rfl rfl (by decide) rfl rfl (fun H locs hP hD hS => ?_)
            refine lv_lload_n hx hb dX1_readOne_68 rfl (lv_at hl 0 rfl) ?_
            obtain rfl := Option.some.inj hf
            exact hret trivial _ _ _ _ hP hD hS dX1_readOne_69
        · have hf := zk_t c13 hf
          refine lv_aload_n hx hb dX1_readOne_36 rfl (lv_at hl 1 rfl) ?_
          refine lv_iload_n hx hb dX1_readOne_37 rfl (lv_at hl 2 rfl) ?_
          refine lv_iconst (v := (1 : Int32)) hx hb dX1_readOne_38 (by decide) ?_
          refine lv_iadd hx hb dX1_readOne_39 ?_
          obtain ⟨v12, hv12, hf⟩ := zk_ob hf
          refine zk_go (wr := []) (w2 := [(a_rd, .inr (1, [.ref a_tx, .int v12.2.1, .int v12.2.2.1, .int v12.2.2.2])), (a_tx, .inr (2, [.ref a_tx_bytes, .int v_tx_length, .ref a_tx_tokens, .ref a_tx_places])), (a_tx_tokens, .inl (cI, 301, .inl f_tx_tokens)), (a_tx_places, .inl (cI, 301, .inl f_tx_places))]) (zk_V (As := [.int (x0 + (1 : Int32))]) (rest := []) hx hb hml hown hts hK hG hP hD hS hA gX1_readOne_X1_readOne rfl hd_X1_readOne (by omega) (by omega) hcs (ih (x0 + (1 : Int32)) v4.1 v4.2 v_rd_fault v_tx_length f_tx_tokens f_tx_places v12 hv12) rfl rfl 0 rfl hl.1 rfl rfl (Nat.le_of_ble_eq_true rfl) dX1_readOne_40 [0, 1, 2, 3] rfl rfl) hP hD hS hA [0, 1, 2, 3] [] [0, 1, 2, 3] rfl rfl rfl (by decide) rfl rfl (fun H locs hP hD hS => ?_)
          refine lv_ldc2 hx hb hown lk4 dX1_readOne_43 ?_
          refine lv_lxor hx hb dX1_readOne_46 ?_
          obtain rfl := Option.some.inj hf
          exact hret trivial _ _ _ _ hP hD hS dX1_readOne_47
      · have hf := zk_t c15 hf
        refine lv_aload_n hx hb dX1_readOne_20 rfl (lv_at hl 1 rfl) ?_
        obtain ⟨v14, hv14, hf⟩ := zk_ob hf
        refine zk_go (wr := [(a_tx_tokens, .inl (cI, 301, .inl f_tx_tokens))]) (w2 := [(a_rd, .inr (1, [.ref a_tx, .int v_rd_at, .int v_rd_token, .int v14])), (a_tx, .inr (2, [.ref a_tx_bytes, .int v_tx_length, .ref a_tx_tokens, .ref a_tx_places])), (a_tx_tokens, .inl (cI, 301, .inl f_tx_tokens)), (a_tx_places, .inl (cI, 301, .inl f_tx_places))]) (zk_V (As := []) (rest := []) hx hb hml hown hts hK hG hP hD hS hA gX1_readOne_X1_fail rfl hd_X1_fail (by omega) (by omega) hcs (zc_X1_fail l D tL tO cI cJ cB cQ a_rd a_tx a_tx_bytes a_tx_tokens a_tx_places v_rd_at v_rd_token v_rd_fault v_tx_length f_tx_places v14 hv14) rfl rfl 0 rfl hl.1 rfl rfl (Nat.le_of_ble_eq_true rfl) dX1_readOne_21 [0, 1, 3] rfl rfl) hP hD hS hA [0, 1, 3] [2] [1, 2, 0, 3] rfl rfl rfl (by decide) rfl rfl (fun H locs hP hD hS => ?_)
        refine lv_lconst (v := (0 : Int64)) hx hb dX1_readOne_24 (by decide) ?_
        obtain rfl := Option.some.inj hf
        exact hret trivial _ _ _ _ hP hD hS dX1_readOne_25
