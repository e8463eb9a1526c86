def zf_J6_bitCount_0f7a4 (x0 : Int32) : Option (Int32) :=
  zk_lt (x0 - (((x0.toUInt32 >>> ((1 : Int32).toUInt32 &&& Int32.toUInt32 31)).toInt32) &&& (1431655765 : Int32))) (fun y1 =>
  zk_lt ((y1 &&& (858993459 : Int32)) + (((y1.toUInt32 >>> ((2 : Int32).toUInt32 &&& Int32.toUInt32 31)).toInt32) &&& (858993459 : Int32))) (fun y2 =>
  zk_lt ((y2 + ((y2.toUInt32 >>> ((4 : Int32).toUInt32 &&& Int32.toUInt32 31)).toInt32)) &&& (252645135 : Int32)) (fun y3 =>
  zk_lt (y3 + ((y3.toUInt32 >>> ((8 : Int32).toUInt32 &&& Int32.toUInt32 31)).toInt32)) (fun y4 =>
  zk_lt (y4 + ((y4.toUInt32 >>> ((16 : Int32).toUInt32 &&& Int32.toUInt32 31)).toInt32)) (fun y5 =>
  some (y5 &&& (63 : Int32)))))))
theorem hd_J6_bitCount_0f7a4 : yJ6_bitCount_0f7a4.cls ≠ "java/lang/invoke/MethodHandle" ∧ yJ6_bitCount_0f7a4.cls ≠ "java/lang/invoke/VarHandle" ∧ (parseMethodDescriptor yJ6_bitCount_0f7a4.desc).map (fun d => d.parameters.length) = some 1 := by decide +kernel
set_option maxHeartbeats 4000000 in
set_option maxRecDepth 100000 in
theorem zc_J6_bitCount_0f7a4 (l : Launch) (D : va_G) (tL tO : Nat) (cI cJ cB cQ : ClassId) (x0 : Int32) (z : Int32) (hf : zf_J6_bitCount_0f7a4 x0 = some z) : zk_CT l D tL tO (zk_ty cI cJ cB cQ) yJ6_bitCount_0f7a4 wsJ6_bitCount_0f7a4 0 0 [.int x0] (some (.int z)) [] [] := by
  refine zk_of_i (cc := cJ6_bitCount_0f7a4) (maxL := 1) (by decide) rfl (Nat.le_of_ble_eq_true rfl) ?_
  intro p e R s m args below meth c A Q ls hx hb hml hRf hRl hts hown hP hK hD hA hS hG hl hret
  have hl : lv_has ls 1 [(0, .int x0)] := hl
  have hown : s.vm.findClass RJ6 = some m.cls := hown
  have hcs : 0 ≤ R.cells ∧ 0 ≤ R.slots := ⟨Nat.zero_le _, Nat.zero_le _⟩
  have lk0 := hts (.constant RJ6 265 (1431655765)) (by decide +kernel)
  have lk1 := hts (.constant RJ6 266 (858993459)) (by decide +kernel)
  have lk2 := hts (.constant RJ6 267 (252645135)) (by decide +kernel)
  unfold zf_J6_bitCount_0f7a4 at hf
  refine lv_iload_n hx hb dJ6_bitCount_0f7a4_0 rfl (lv_at hl 0 rfl) ?_
  refine lv_iload_n hx hb dJ6_bitCount_0f7a4_1 rfl (lv_at hl 0 rfl) ?_
  refine lv_iconst (v := (1 : Int32)) hx hb dJ6_bitCount_0f7a4_2 (by decide) ?_
  refine lv_iushr hx hb dJ6_bitCount_0f7a4_3 rfl ?_
  refine lv_ldcw hx hb hown lk0 dJ6_bitCount_0f7a4_4 ?_
  refine lv_iand hx hb dJ6_bitCount_0f7a4_7 ?_
  refine lv_isub hx hb dJ6_bitCount_0f7a4_8 ?_
  obtain ⟨y1, ey1, hf⟩ := zk_lt_s hf
  refine zk_topi ey1 ?_
  refine lv_istore_n (lv' := [(0, .int y1)]) hx hb dJ6_bitCount_0f7a4_9 rfl hl (by decide) rfl (fun ls hl => ?_)
  refine lv_iload_n hx hb dJ6_bitCount_0f7a4_10 rfl (lv_at hl 0 rfl) ?_
  refine lv_ldcw hx hb hown lk1 dJ6_bitCount_0f7a4_11 ?_
  refine lv_iand hx hb dJ6_bitCount_0f7a4_14 ?_
  refine lv_iload_n hx hb dJ6_bitCount_0f7a4_15 rfl (lv_at hl 0 rfl) ?_
  refine lv_iconst (v := (2 : Int32)) hx hb dJ6_bitCount_0f7a4_16 (by decide) ?_
  refine lv_iushr hx hb dJ6_bitCount_0f7a4_17 rfl ?_
  refine lv_ldcw hx hb hown lk1 dJ6_bitCount_0f7a4_18 ?_
  refine lv_iand hx hb dJ6_bitCount_0f7a4_21 ?_
  refine lv_iadd hx hb dJ6_bitCount_0f7a4_22 ?_
  obtain ⟨y2, ey2, hf⟩ := zk_lt_s hf
  refine zk_topi ey2 ?_
  refine lv_istore_n (lv' := [(0, .int y2)]) hx hb dJ6_bitCount_0f7a4_23 rfl hl (by decide) rfl (fun ls hl => ?_)
  refine lv_iload_n hx hb dJ6_bitCount_0f7a4_24 rfl (lv_at hl 0 rfl) ?_
  refine lv_iload_n hx hb dJ6_bitCount_0f7a4_25 rfl (lv_at hl 0 rfl) ?_
  refine lv_iconst (v := (4 : Int32)) hx hb dJ6_bitCount_0f7a4_26 (by decide) ?_
  refine lv_iushr hx hb dJ6_bitCount_0f7a4_27 rfl ?_
  refine lv_iadd hx hb dJ6_bitCount_0f7a4_28 ?_
  refine lv_ldcw hx hb hown lk2 dJ6_bitCount_0f7a4_29 ?_
  refine lv_iand hx hb dJ6_bitCount_0f7a4_32 ?_
  obtain ⟨y3, ey3, hf⟩ := zk_lt_s hf
  refine zk_topi ey3 ?_
  refine lv_istore_n (lv' := [(0, .int y3)]) hx hb dJ6_bitCount_0f7a4_33 rfl hl (by decide) rfl (fun ls hl => ?_)
  refine lv_iload_n hx hb dJ6_bitCount_0f7a4_34 rfl (lv_at hl 0 rfl) ?_
  refine lv_iload_n hx hb dJ6_bitCount_0f7a4_35 rfl (lv_at hl 0 rfl) ?_
  refine lv_bipush (v := (8 : Int32)) hx hb dJ6_bitCount_0f7a4_36 (by decide) ?_
  refine lv_iushr hx hb dJ6_bitCount_0f7a4_38 rfl ?_
  refine lv_iadd hx hb dJ6_bitCount_0f7a4_39 ?_
  obtain ⟨y4, ey4, hf⟩ := zk_lt_s hf
  refine zk_topi ey4 ?_
  refine lv_istore_n (lv' := [(0, .int y4)]) hx hb dJ6_bitCount_0f7a4_40 rfl hl (by decide) rfl (fun ls hl => ?_)
  refine lv_iload_n hx hb dJ6_bitCount_0f7a4_41 rfl (lv_at hl 0 rfl) ?_
  refine lv_iload_n hx hb dJ6_bitCount_0f7a4_42 rfl (lv_at hl 0 rfl) ?_
  refine lv_bipush (v := (16 : Int32)) hx hb dJ6_bitCount_0f7a4_43 (by decide) ?_
  refine lv_iushr hx hb dJ6_bitCount_0f7a4_45 rfl ?_
  refine lv_iadd hx hb dJ6_bitCount_0f7a4_46 ?_
  obtain ⟨y5, ey5, hf⟩ := zk_lt_s hf
  refine zk_topi ey5 ?_
  refine lv_istore_n (lv' := [(0, .int y5)]) hx hb dJ6_bitCount_0f7a4_47 rfl hl (by decide) rfl (fun ls hl => ?_)
  refine lv_iload_n hx hb dJ6_bitCount_0f7a4_48 rfl (lv_at hl 0 rfl) ?_
  refine lv_bipush (v := (63 : Int32)) hx hb dJ6_bitCount_0f7a4_49 (by decide) ?_
  refine lv_iand hx hb dJ6_bitCount_0f7a4_51 ?_
  obtain rfl := Option.some.inj hf
  exact hret trivial _ _ _ _ hP hD hS dJ6_bitCount_0f7a4_52
def zf_J6_numberOfTrailingZeros_0f7a4 (x0 : Int32) : Option (Int32) :=
  zk_lt ((x0 ^^^ (-1 : Int32)) &&& (x0 - (1 : Int32))) (fun y1 =>
  if 0 < y1 then
  (if y1 ≤ (65536 : Int32) then
  some (y1, (1 : Int32))
  else
  zk_lt ((1 : Int32) + 16) (fun y14 =>
  zk_lt ((y1.toUInt32 >>> ((16 : Int32).toUInt32 &&& Int32.toUInt32 31)).toInt32) (fun y15 =>
  some (y15, y14)))).bind (fun v2 =>
  (if v2.1 ≤ (256 : Int32) then
  some (v2.1, v2.2)
  else
  zk_lt (v2.2 + 8) (fun y11 =>
  zk_lt ((v2.1.toUInt32 >>> ((8 : Int32).toUInt32 &&& Int32.toUInt32 31)).toInt32) (fun y12 =>
  some (y12, y11)))).bind (fun v3 =>
  (if v3.1 ≤ (16 : Int32) then
  some (v3.1, v3.2)
  else
  zk_lt (v3.2 + 4) (fun y8 =>
  zk_lt ((v3.1.toUInt32 >>> ((4 : Int32).toUInt32 &&& Int32.toUInt32 31)).toInt32) (fun y9 =>
  some (y9, y8)))).bind (fun v4 =>
  if v4.1 ≤ (4 : Int32) then
  some (v4.2 + ((v4.1.toUInt32 >>> ((1 : Int32).toUInt32 &&& Int32.toUInt32 31)).toInt32))
  else
  zk_lt (v4.2 + 2) (fun y5 =>
  zk_lt ((v4.1.toUInt32 >>> ((2 : Int32).toUInt32 &&& Int32.toUInt32 31)).toInt32) (fun y6 =>
  some (y5 + ((y6.toUInt32 >>> ((1 : Int32).toUInt32 &&& Int32.toUInt32 31)).toInt32)))))))
  else
  some (y1 &&& (32 : Int32)))
theorem hd_J6_numberOfTrailingZeros_0f7a4 : yJ6_numberOfTrailingZeros_0f7a4.cls ≠ "java/lang/invoke/MethodHandle" ∧ yJ6_numberOfTrailingZeros_0f7a4.cls ≠ "java/lang/invoke/VarHandle" ∧ (parseMethodDescriptor yJ6_numberOfTrailingZeros_0f7a4.desc).map (fun d => d.parameters.length) = some 1 := by decide +kernel
set_option maxHeartbeats 4000000 in
set_option maxRecDepth 100000 in
theorem zc_J6_numberOfTrailingZeros_0f7a4 (l : Launch) (D : va_G) (tL tO : Nat) (cI cJ cB cQ : ClassId) (x0 : Int32) (z : Int32) (hf : zf_J6_numberOfTrailingZeros_0f7a4 x0 = some z) : zk_CT l D tL tO (zk_ty cI cJ cB cQ) yJ6_numberOfTrailingZeros_0f7a4 wsJ6_numberOfTrailingZeros_0f7a4 0 0 [.int x0] (some (.int z)) [] [] := by
  refine zk_of_i (cc := cJ6_numberOfTrailingZeros_0f7a4) (maxL := 2) (by decide) rfl (Nat.le_of_ble_eq_true rfl) ?_
  intro p e R s m args below meth c A Q ls hx hb hml hRf hRl hts hown hP hK hD hA hS hG hl hret
  have hl : lv_has ls 2 [(0, .int x0)] := hl
  have hown : s.vm.findClass RJ6 = some m.cls := hown
  have hcs : 0 ≤ R.cells ∧ 0 ≤ R.slots := ⟨Nat.zero_le _, Nat.zero_le _⟩
  have lk0 := hts (.constant RJ6 264 (65536)) (by decide +kernel)
  unfold zf_J6_numberOfTrailingZeros_0f7a4 at hf
  refine lv_iload_n hx hb dJ6_numberOfTrailingZeros_0f7a4_0 rfl (lv_at hl 0 rfl) ?_
  refine lv_iconst (v := (-1 : Int32)) hx hb dJ6_numberOfTrailingZeros_0f7a4_1 (by decide) ?_
  refine lv_ixor hx hb dJ6_numberOfTrailingZeros_0f7a4_2 ?_
  refine lv_iload_n hx hb dJ6_numberOfTrailingZeros_0f7a4_3 rfl (lv_at hl 0 rfl) ?_
  refine lv_iconst (v := (1 : Int32)) hx hb dJ6_numberOfTrailingZeros_0f7a4_4 (by decide) ?_
  refine lv_isub hx hb dJ6_numberOfTrailingZeros_0f7a4_5 ?_
  refine lv_iand hx hb dJ6_numberOfTrailingZeros_0f7a4_6 ?_
  obtain ⟨y1, ey1, hf⟩ := zk_lt_s hf
  refine zk_topi ey1 ?_
  refine lv_istore_n (lv' := [(0, .int y1)]) hx hb dJ6_numberOfTrailingZeros_0f7a4_7 rfl hl (by decide) rfl (fun ls hl => ?_)
  refine lv_iload_n hx hb dJ6_numberOfTrailingZeros_0f7a4_8 rfl (lv_at hl 0 rfl) ?_
  refine lv_if_gt (tgt := 17) hx hb dJ6_numberOfTrailingZeros_0f7a4_9 (by decide) (fun c17 => ?_) (fun c17 => ?_)
  · have hf := zk_t c17 hf
    refine lv_iconst (v := (1 : Int32)) hx hb dJ6_numberOfTrailingZeros_0f7a4_17 (by decide) ?_
    refine lv_istore_n (lv' := [(1, .int (1 : Int32)), (0, .int y1)]) hx hb dJ6_numberOfTrailingZeros_0f7a4_18 rfl hl (by decide) rfl (fun ls hl => ?_)
    refine lv_iload_n hx hb dJ6_numberOfTrailingZeros_0f7a4_19 rfl (lv_at hl 1 rfl) ?_
    refine lv_ldcw hx hb hown lk0 dJ6_numberOfTrailingZeros_0f7a4_20 ?_
    obtain ⟨v2, hv2, hf⟩ := zk_ob hf
    have kv2 : ∀ (H : Heap) (locs : List Loc) (ls : Array Slot), va_P D vwCl [] H → va_D A [] → va_S A s.heap H locs → lv_has ls 2 [(0, .int v2.1), (1, .int v2.2)] → W p l e R s m args below meth c H locs 0 0 Q (F0 m 34 ls []) := by
      intro H locs ls hP hD hS hl
      refine lv_iload_n hx hb dJ6_numberOfTrailingZeros_0f7a4_34 rfl (lv_at hl 0 rfl) ?_
      refine lv_sipush (v := (256 : Int32)) hx hb dJ6_numberOfTrailingZeros_0f7a4_35 (by decide) ?_
      obtain ⟨v3, hv3, hf⟩ := zk_ob hf
      have kv3 : ∀ (H : Heap) (locs : List Loc) (ls : Array Slot), va_P D vwCl [] H → va_D A [] → va_S A s.heap H locs → lv_has ls 2 [(0, .int v3.1), (1, .int v3.2)] → W p l e R s m args below meth c H locs 0 0 Q (F0 m 49 ls []) := by
        intro H locs ls hP hD hS hl
        refine lv_iload_n hx hb dJ6_numberOfTrailingZeros_0f7a4_49 rfl (lv_at hl 0 rfl) ?_
        refine lv_bipush (v := (16 : Int32)) hx hb dJ6_numberOfTrailingZeros_0f7a4_50 (by decide) ?_
        obtain ⟨v4, hv4, hf⟩ := zk_ob hf
        have kv4 : ∀ (H : Heap) (locs : List Loc) (ls : Array Slot), va_P D vwCl [] H → va_D A [] → va_S A s.heap H locs → lv_has ls 2 [(0, .int v4.1), (1, .int v4.2)] → W p l e R s m args below meth c H locs 0 0 Q (F0 m 62 ls []) := by
          intro H locs ls hP hD hS hl
          refine lv_iload_n hx hb dJ6_numberOfTrailingZeros_0f7a4_62 rfl (lv_at hl 0 rfl) ?_
          refine lv_iconst (v := (4 : Int32)) hx hb dJ6_numberOfTrailingZeros_0f7a4_63 (by decide) ?_
          refine lv_icmp_le (tgt := 74) hx hb dJ6_numberOfTrailingZeros_0f7a4_64 (by decide) (fun c7 => ?_) (fun c7 => ?_)
          · have hf := zk_t c7 hf
            refine lv_iload_n hx hb dJ6_numberOfTrailingZeros_0f7a4_74 rfl (lv_at hl 1 rfl) ?_
            refine lv_iload_n hx hb dJ6_numberOfTrailingZeros_0f7a4_75 rfl (lv_at hl 0 rfl) ?_
            refine lv_iconst (v := (1 : Int32)) hx hb dJ6_numberOfTrailingZeros_0f7a4_76 (by decide) ?_
            refine lv_iushr hx hb dJ6_numberOfTrailingZeros_0f7a4_77 rfl ?_
            refine lv_iadd hx hb dJ6_numberOfTrailingZeros_0f7a4_78 ?_
            obtain rfl := Option.some.inj hf
            exact hret trivial _ _ _ _ hP hD hS dJ6_numberOfTrailingZeros_0f7a4_79
          · have hf := zk_f c7 hf
            obtain ⟨y5, ey5, hf⟩ := zk_lt_s hf
            refine lv_iinc (v := y5) (lv' := [(1, .int y5), (0, .int v4.1)]) hx hb dJ6_numberOfTrailingZeros_0f7a4_67 hl (k := 1) rfl (by rw [ey5]; rfl) (by decide) rfl (fun ls hl => ?_)
            refine lv_iload_n hx hb dJ6_numberOfTrailingZeros_0f7a4_70 rfl (lv_at hl 1 rfl) ?_
            refine lv_iconst (v := (2 : Int32)) hx hb dJ6_numberOfTrailingZeros_0f7a4_71 (by decide) ?_
            refine lv_iushr hx hb dJ6_numberOfTrailingZeros_0f7a4_72 rfl ?_
            obtain ⟨y6, ey6, hf⟩ := zk_lt_s hf
            refine zk_topi ey6 ?_
            refine lv_istore_n (lv' := [(0, .int y6), (1, .int y5)]) hx hb dJ6_numberOfTrailingZeros_0f7a4_73 rfl hl (by decide) rfl (fun ls hl => ?_)
            refine lv_iload_n hx hb dJ6_numberOfTrailingZeros_0f7a4_74 rfl (lv_at hl 1 rfl) ?_
            refine lv_iload_n hx hb dJ6_numberOfTrailingZeros_0f7a4_75 rfl (lv_at hl 0 rfl) ?_
            refine lv_iconst (v := (1 : Int32)) hx hb dJ6_numberOfTrailingZeros_0f7a4_76 (by decide) ?_
            refine lv_iushr hx hb dJ6_numberOfTrailingZeros_0f7a4_77 rfl ?_
            refine lv_iadd hx hb dJ6_numberOfTrailingZeros_0f7a4_78 ?_
            obtain rfl := Option.some.inj hf
            exact hret trivial _ _ _ _ hP hD hS dJ6_numberOfTrailingZeros_0f7a4_79
        replace hf := hv4
        refine lv_icmp_le (tgt := 62) hx hb dJ6_numberOfTrailingZeros_0f7a4_52 (by decide) (fun c10 => ?_) (fun c10 => ?_)
        · have hf := zk_t c10 hf
          obtain rfl := Option.some.inj hf
          exact kv4 _ _ _ hP hD hS (lv_sub hl [0, 1] rfl)
        · have hf := zk_f c10 hf
          obtain ⟨y8, ey8, hf⟩ := zk_lt_s hf
          refine lv_iinc (v := y8) (lv' := [(1, .int y8), (0, .int v3.1)]) hx hb dJ6_numberOfTrailingZeros_0f7a4_55 hl (k := 1) rfl (by rw [ey8]; rfl) (by decide) rfl (fun ls hl => ?_)
          refine lv_iload_n hx hb dJ6_numberOfTrailingZeros_0f7a4_58 rfl (lv_at hl 1 rfl) ?_
          refine lv_iconst (v := (4 : Int32)) hx hb dJ6_numberOfTrailingZeros_0f7a4_59 (by decide) ?_
          refine lv_iushr hx hb dJ6_numberOfTrailingZeros_0f7a4_60 rfl ?_
          obtain ⟨y9, ey9, hf⟩ := zk_lt_s hf
          refine zk_topi ey9 ?_
          refine lv_istore_n (lv' := [(0, .int y9), (1, .int y8)]) hx hb dJ6_numberOfTrailingZeros_0f7a4_61 rfl hl (by decide) rfl (fun ls hl => ?_)
          obtain rfl := Option.some.inj hf
          exact kv4 _ _ _ hP hD hS (lv_sub hl [0, 1] rfl)
      replace hf := hv3
      refine lv_icmp_le (tgt := 49) hx hb dJ6_numberOfTrailingZeros_0f7a4_38 (by decide) (fun c13 => ?_) (fun c13 => ?_)
      · have hf := zk_t c13 hf
        obtain rfl := Option.some.inj hf
        exact kv3 _ _ _ hP hD hS (lv_sub hl [0, 1] rfl)
      · have hf := zk_f c13 hf
        obtain ⟨y11, ey11, hf⟩ := zk_lt_s hf
        refine lv_iinc (v := y11) (lv' := [(1, .int y11), (0, .int v2.1)]) hx hb dJ6_numberOfTrailingZeros_0f7a4_41 hl (k := 1) rfl (by rw [ey11]; rfl) (by decide) rfl (fun ls hl => ?_)
        refine lv_iload_n hx hb dJ6_numberOfTrailingZeros_0f7a4_44 rfl (lv_at hl 1 rfl) ?_
        refine lv_bipush (v := (8 : Int32)) hx hb dJ6_numberOfTrailingZeros_0f7a4_45 (by decide) ?_
        refine lv_iushr hx hb dJ6_numberOfTrailingZeros_0f7a4_47 rfl ?_
        obtain ⟨y12, ey12, hf⟩ := zk_lt_s hf
        refine zk_topi ey12 ?_
        refine lv_istore_n (lv' := [(0, .int y12), (1, .int y11)]) hx hb dJ6_numberOfTrailingZeros_0f7a4_48 rfl hl (by decide) rfl (fun ls hl => ?_)
        obtain rfl := Option.some.inj hf
        exact kv3 _ _ _ hP hD hS (lv_sub hl [0, 1] rfl)
    replace hf := hv2
    refine lv_icmp_le (tgt := 34) hx hb dJ6_numberOfTrailingZeros_0f7a4_23 (by decide) (fun c16 => ?_) (fun c16 => ?_)
    · have hf := zk_t c16 hf
      obtain rfl := Option.some.inj hf
      exact kv2 _ _ _ hP hD hS (lv_sub hl [1, 0] rfl)
    · have hf := zk_f c16 hf
      obtain ⟨y14, ey14, hf⟩ := zk_lt_s hf
      refine lv_iinc (v := y14) (lv' := [(1, .int y14), (0, .int y1)]) hx hb dJ6_numberOfTrailingZeros_0f7a4_26 hl (k := 0) rfl (by rw [ey14]; rfl) (by decide) rfl (fun ls hl => ?_)
      refine lv_iload_n hx hb dJ6_numberOfTrailingZeros_0f7a4_29 rfl (lv_at hl 1 rfl) ?_
      refine lv_bipush (v := (16 : Int32)) hx hb dJ6_numberOfTrailingZeros_0f7a4_30 (by decide) ?_
      refine lv_iushr hx hb dJ6_numberOfTrailingZeros_0f7a4_32 rfl ?_
      obtain ⟨y15, ey15, hf⟩ := zk_lt_s hf
      refine zk_topi ey15 ?_
      refine lv_istore_n (lv' := [(0, .int y15), (1, .int y14)]) hx hb dJ6_numberOfTrailingZeros_0f7a4_33 rfl hl (by decide) rfl (fun ls hl => ?_)
      obtain rfl := Option.some.inj hf
      exact kv2 _ _ _ hP hD hS (lv_sub hl [0, 1] rfl)
  · have hf := zk_f c17 hf
    refine lv_iload_n hx hb dJ6_numberOfTrailingZeros_0f7a4_12 rfl (lv_at hl 0 rfl) ?_
    refine lv_bipush (v := (32 : Int32)) hx hb dJ6_numberOfTrailingZeros_0f7a4_13 (by decide) ?_
    refine lv_iand hx hb dJ6_numberOfTrailingZeros_0f7a4_15 ?_
    obtain rfl := Option.some.inj hf
    exact hret trivial _ _ _ _ hP hD hS dJ6_numberOfTrailingZeros_0f7a4_16
def zf_J13_bitCount_95d88 (x0 : Int64) : Option (Int32) :=
  zk_lt (x0 - (((x0.toUInt64 >>> ((1 : Int32).toInt64.toUInt64 &&& Int64.toUInt64 63)).toInt64) &&& (6148914691236517205 : Int64))) (fun y1 =>
  zk_lt ((y1 &&& (3689348814741910323 : Int64)) + (((y1.toUInt64 >>> ((2 : Int32).toInt64.toUInt64 &&& Int64.toUInt64 63)).toInt64) &&& (3689348814741910323 : Int64))) (fun y2 =>
  zk_lt ((y2 + ((y2.toUInt64 >>> ((4 : Int32).toInt64.toUInt64 &&& Int64.toUInt64 63)).toInt64)) &&& (1085102592571150095 : Int64)) (fun y3 =>
  zk_lt (y3 + ((y3.toUInt64 >>> ((8 : Int32).toInt64.toUInt64 &&& Int64.toUInt64 63)).toInt64)) (fun y4 =>
  zk_lt (y4 + ((y4.toUInt64 >>> ((16 : Int32).toInt64.toUInt64 &&& Int64.toUInt64 63)).toInt64)) (fun y5 =>
  zk_lt (y5 + ((y5.toUInt64 >>> ((32 : Int32).toInt64.toUInt64 &&& Int64.toUInt64 63)).toInt64)) (fun y6 =>
  some (y6.toInt32 &&& (127 : Int32))))))))
theorem hd_J13_bitCount_95d88 : yJ13_bitCount_95d88.cls ≠ "java/lang/invoke/MethodHandle" ∧ yJ13_bitCount_95d88.cls ≠ "java/lang/invoke/VarHandle" ∧ (parseMethodDescriptor yJ13_bitCount_95d88.desc).map (fun d => d.parameters.length) = some 1 := by decide +kernel
set_option maxHeartbeats 4000000 in
set_option maxRecDepth 100000 in
theorem zc_J13_bitCount_95d88 (l : Launch) (D : va_G) (tL tO : Nat) (cI cJ cB cQ : ClassId) (x0 : Int64) (z : Int32) (hf : zf_J13_bitCount_95d88 x0 = some z) : zk_CT l D tL tO (zk_ty cI cJ cB cQ) yJ13_bitCount_95d88 wsJ13_bitCount_95d88 0 0 [.long x0] (some (.int z)) [] [] := by
  refine zk_of_i (cc := cJ13_bitCount_95d88) (maxL := 2) (by decide) rfl (Nat.le_of_ble_eq_true rfl) ?_
  intro p e R s m args below meth c A Q ls hx hb hml hRf hRl hts hown hP hK hD hA hS hG hl hret
  have hl : lv_has ls 2 [(0, .long x0)] := hl
  have hown : s.vm.findClass RJ13 = some m.cls := hown
  have hcs : 0 ≤ R.cells ∧ 0 ≤ R.slots := ⟨Nat.zero_le _, Nat.zero_le _⟩
  have lk0 := hts (.constantLong RJ13 314 (6148914691236517205)) (by decide +kernel)
  have lk1 := hts (.constantLong RJ13 316 (3689348814741910323)) (by decide +kernel)
  have lk2 := hts (.constantLong RJ13 318 (1085102592571150095)) (by decide +kernel)
  unfold zf_J13_bitCount_95d88 at hf
  refine lv_lload_n hx hb dJ13_bitCount_95d88_0 rfl (lv_at hl 0 rfl) ?_
  refine lv_lload_n hx hb dJ13_bitCount_95d88_1 rfl (lv_at hl 0 rfl) ?_
  refine lv_iconst (v := (1 : Int32)) hx hb dJ13_bitCount_95d88_2 (by decide) ?_
  refine lv_lushr hx hb dJ13_bitCount_95d88_3 rfl ?_
  refine lv_ldc2 hx hb hown lk0 dJ13_bitCount_95d88_4 ?_
  refine lv_land hx hb dJ13_bitCount_95d88_7 ?_
  refine lv_lsub hx hb dJ13_bitCount_95d88_8 ?_
  obtain ⟨y1, ey1, hf⟩ := zk_lt_s hf
  refine zk_topl ey1 ?_
  refine lv_lstore_n (lv' := [(0, .long y1)]) hx hb dJ13_bitCount_95d88_9 rfl hl (by decide) rfl (fun ls hl => ?_)
  refine lv_lload_n hx hb dJ13_bitCount_95d88_10 rfl (lv_at hl 0 rfl) ?_
  refine lv_ldc2 hx hb hown lk1 dJ13_bitCount_95d88_11 ?_
  refine lv_land hx hb dJ13_bitCount_95d88_14 ?_
  refine lv_lload_n hx hb dJ13_bitCount_95d88_15 rfl (lv_at hl 0 rfl) ?_
  refine lv_iconst (v := (2 : Int32)) hx hb dJ13_bitCount_95d88_16 (by decide) ?_
  refine lv_lushr hx hb dJ13_bitCount_95d88_17 rfl ?_
  refine lv_ldc2 hx hb hown lk1 dJ13_bitCount_95d88_18 ?_
  refine lv_land hx hb dJ13_bitCount_95d88_21 ?_
  refine lv_ladd hx hb dJ13_bitCount_95d88_22 ?_
  obtain ⟨y2, ey2, hf⟩ := zk_lt_s hf
  refine zk_topl ey2 ?_
  refine lv_lstore_n (lv' := [(0, .long y2)]) hx hb dJ13_bitCount_95d88_23 rfl hl (by decide) rfl (fun ls hl => ?_)
  refine lv_lload_n hx hb dJ13_bitCount_95d88_24 rfl (lv_at hl 0 rfl) ?_
  refine lv_lload_n hx hb dJ13_bitCount_95d88_25 rfl (lv_at hl 0 rfl) ?_
  refine lv_iconst (v := (4 : Int32)) hx hb dJ13_bitCount_95d88_26 (by decide) ?_
  refine lv_lushr hx hb dJ13_bitCount_95d88_27 rfl ?_
  refine lv_ladd hx hb dJ13_bitCount_95d88_28 ?_
  refine lv_ldc2 hx hb hown lk2 dJ13_bitCount_95d88_29 ?_
  refine lv_land hx hb dJ13_bitCount_95d88_32 ?_
  obtain ⟨y3, ey3, hf⟩ := zk_lt_s hf
  refine zk_topl ey3 ?_
  refine lv_lstore_n (lv' := [(0, .long y3)]) hx hb dJ13_bitCount_95d88_33 rfl hl (by decide) rfl (fun ls hl => ?_)
  refine lv_lload_n hx hb dJ13_bitCount_95d88_34 rfl (lv_at hl 0 rfl) ?_
  refine lv_lload_n hx hb dJ13_bitCount_95d88_35 rfl (lv_at hl 0 rfl) ?_
  refine lv_bipush (v := (8 : Int32)) hx hb dJ13_bitCount_95d88_36 (by decide) ?_
  refine lv_lushr hx hb dJ13_bitCount_95d88_38 rfl ?_
  refine lv_ladd hx hb dJ13_bitCount_95d88_39 ?_
  obtain ⟨y4, ey4, hf⟩ := zk_lt_s hf
  refine zk_topl ey4 ?_
  refine lv_lstore_n (lv' := [(0, .long y4)]) hx hb dJ13_bitCount_95d88_40 rfl hl (by decide) rfl (fun ls hl => ?_)
  refine lv_lload_n hx hb dJ13_bitCount_95d88_41 rfl (lv_at hl 0 rfl) ?_
  refine lv_lload_n hx hb dJ13_bitCount_95d88_42 rfl (lv_at hl 0 rfl) ?_
  refine lv_bipush (v := (16 : Int32)) hx hb dJ13_bitCount_95d88_43 (by decide) ?_
  refine lv_lushr hx hb dJ13_bitCount_95d88_45 rfl ?_
  refine lv_ladd hx hb dJ13_bitCount_95d88_46 ?_
  obtain ⟨y5, ey5, hf⟩ := zk_lt_s hf
  refine zk_topl ey5 ?_
  refine lv_lstore_n (lv' := [(0, .long y5)]) hx hb dJ13_bitCount_95d88_47 rfl hl (by decide) rfl (fun ls hl => ?_)
  refine lv_lload_n hx hb dJ13_bitCount_95d88_48 rfl (lv_at hl 0 rfl) ?_
  refine lv_lload_n hx hb dJ13_bitCount_95d88_49 rfl (lv_at hl 0 rfl) ?_
  refine lv_bipush (v := (32 : Int32)) hx hb dJ13_bitCount_95d88_50 (by decide) ?_
  refine lv_lushr hx hb dJ13_bitCount_95d88_52 rfl ?_
  refine lv_ladd hx hb dJ13_bitCount_95d88_53 ?_
  obtain ⟨y6, ey6, hf⟩ := zk_lt_s hf
  refine zk_topl ey6 ?_
  refine lv_lstore_n (lv' := [(0, .long y6)]) hx hb dJ13_bitCount_95d88_54 rfl hl (by decide) rfl (fun ls hl => ?_)
  refine lv_lload_n hx hb dJ13_bitCount_95d88_55 rfl (lv_at hl 0 rfl) ?_
  refine lv_l2i hx hb dJ13_bitCount_95d88_56 rfl ?_
  refine lv_bipush (v := (127 : Int32)) hx hb dJ13_bitCount_95d88_57 (by decide) ?_
  refine lv_iand hx hb dJ13_bitCount_95d88_59 ?_
  obtain rfl := Option.some.inj hf
  exact hret trivial _ _ _ _ hP hD hS dJ13_bitCount_95d88_60
def zl_J7_fill_53178_5 (x1 : Int32) (n0 : Nat) (y1 : Int32) : Nat → (Int32) → (Nat → Int32) → Option (Int32 × (Nat → Int32))
  | 0, _, _ => none
  | n + 1, w2, w3 =>
    if y1 ≤ w2 then
    some (w2, w3)
    else
    zk_gd (zk_in w2 n0)
    (zk_lt (w2 + 1) (fun y5 =>
    zl_J7_fill_53178_5 x1 n0 y1 n y5 (upd w3 w2.toNatClampNeg x1)))
def zf_J7_fill_53178 (x1 : Int32) (n0 : Nat) (f_p0 : Nat → Int32) : Option (Nat → Int32) :=
  zk_lt (Int32.ofNat n0) (fun y1 =>
  (zl_J7_fill_53178_5 x1 n0 y1 zk_F (0 : Int32) f_p0).bind (fun v7 =>
  some v7.2))
theorem hd_J7_fill_53178 : yJ7_fill_53178.cls ≠ "java/lang/invoke/MethodHandle" ∧ yJ7_fill_53178.cls ≠ "java/lang/invoke/VarHandle" ∧ (parseMethodDescriptor yJ7_fill_53178.desc).map (fun d => d.parameters.length) = some 2 := by decide +kernel
set_option maxHeartbeats 4000000 in
set_option maxRecDepth 100000 in
theorem zc_J7_fill_53178 (l : Launch) (D : va_G) (tL tO : Nat) (cI cJ cB cQ : ClassId) (a_p0 : Nat) (n0 : Nat) (x1 : Int32) (f_p0 : Nat → Int32) (z : Nat → Int32) (hf : zf_J7_fill_53178 x1 n0 f_p0 = some z) : zk_CT l D tL tO (zk_ty cI cJ cB cQ) yJ7_fill_53178 wsJ7_fill_53178 0 0 [.ref a_p0, .int x1] none [(a_p0, .inl (cI, n0, .inl f_p0))] [(a_p0, .inl (cI, n0, .inl z))] := by
  refine zk_of_v (cc := cJ7_fill_53178) (maxL := 4) (by decide) rfl (Nat.le_of_ble_eq_true rfl) ?_
  intro p e R s m args below meth c A Q ls hx hb hml hRf hRl hts hown hP hK hD hA hS hG hl hret
  have hl : lv_has ls 4 [(0, .ref a_p0), (1, .int x1)] := hl
  have hown : s.vm.findClass RJ7 = some m.cls := hown
  have hcs : 0 ≤ R.cells ∧ 0 ≤ R.slots := ⟨Nat.zero_le _, Nat.zero_le _⟩
  unfold zf_J7_fill_53178 at hf
  refine lv_iconst (v := (0 : Int32)) hx hb dJ7_fill_53178_0 (by decide) ?_
  refine lv_istore_n (lv' := [(2, .int (0 : Int32)), (0, .ref a_p0), (1, .int x1)]) hx hb dJ7_fill_53178_1 rfl hl (by decide) rfl (fun ls hl => ?_)
  refine lv_aload_n hx hb dJ7_fill_53178_2 rfl (lv_at hl 1 rfl) ?_
  refine va_alen hx hb hK hP 0 0 rfl rfl (v := Int32.ofNat n0) rfl dJ7_fill_53178_3 ?_
  obtain ⟨y1, ey1, hf⟩ := zk_lt_s hf
  refine zk_topi ey1 ?_
  refine lv_istore_n (lv' := [(3, .int y1), (2, .int (0 : Int32)), (0, .ref a_p0), (1, .int x1)]) hx hb dJ7_fill_53178_4 rfl hl (by decide) rfl (fun ls hl => ?_)
  have lp5 : ∀ (n : Nat) (w2 : Int32) (w3 : Nat → Int32) (z5 : Int32 × (Nat → Int32)) (H : Heap) (locs : List Loc) (ls : Array Slot), zl_J7_fill_53178_5 x1 n0 y1 n w2 w3 = some z5 → va_P D vwCl [(a_p0, .inl (cI, n0, .inl w3))] H → va_D A [(a_p0, .inl (cI, n0, .inl w3))] → va_S A s.heap H locs → lv_has ls 4 [(0, .ref a_p0), (1, .int x1), (2, .int w2), (3, .int y1)] → (∀ (H : Heap) (locs : List Loc) (ls : Array Slot), va_P D vwCl [(a_p0, .inl (cI, n0, .inl z5.2))] H → va_D A [(a_p0, .inl (cI, n0, .inl z5.2))] → va_S A s.heap H locs → lv_has ls 4 [(0, .ref a_p0), (1, .int x1), (2, .int z5.1), (3, .int y1)] → W p l e R s m args below meth c H locs 0 0 Q (F0 m 20 ls [])) → W p l e R s m args below meth c H locs 0 0 Q (F0 m 5 ls []) := by
    intro n
    induction n with
    | zero => intro w2 w3 z5 H locs ls hf; exact absurd (show none = some z5 from hf) (by simp)
    | succ n ih =>
      intro w2 w3 z5 H locs ls hf hP hD hS hl hk
      rw [zl_J7_fill_53178_5] at hf
      refine lv_iload_n hx hb dJ7_fill_53178_5 rfl (lv_at hl 2 rfl) ?_
      refine lv_iload_n hx hb dJ7_fill_53178_6 rfl (lv_at hl 3 rfl) ?_
      refine lv_icmp_ge (tgt := 20) hx hb dJ7_fill_53178_7 (by decide) (fun c6 => ?_) (fun c6 => ?_)
      · have hf := zk_t c6 hf
        obtain rfl := Option.some.inj hf
        exact hk _ _ _ hP hD hS (lv_sub hl [0, 1, 2, 3] rfl)
      · have hf := zk_f c6 hf
        refine lv_aload_n hx hb dJ7_fill_53178_10 rfl (lv_at hl 0 rfl) ?_
        refine lv_iload_n hx hb dJ7_fill_53178_11 rfl (lv_at hl 2 rfl) ?_
        refine lv_iload_n hx hb dJ7_fill_53178_12 rfl (lv_at hl 1 rfl) ?_
        obtain ⟨g4, hf⟩ := zk_gd_s hf
        refine va_iast hx hb hK hP hD hS 0 0 rfl rfl (zk_in_s g4) dJ7_fill_53178_13 (fun H locs hP hD hS => ?_)
        have hP : va_P D vwCl [(a_p0, .inl (cI, n0, .inl (upd w3 w2.toNatClampNeg x1)))] H := hP
        have hD : va_D A [(a_p0, .inl (cI, n0, .inl (upd w3 w2.toNatClampNeg x1)))] := hD
        obtain ⟨y5, ey5, hf⟩ := zk_lt_s hf
        refine lv_iinc (v := y5) (lv' := [(2, .int y5), (0, .ref a_p0), (1, .int x1), (3, .int y1)]) hx hb dJ7_fill_53178_14 hl (k := 2) rfl (by rw [ey5]; rfl) (by decide) rfl (fun ls hl => ?_)
        refine lv_goto (tgt := 5) hx hb dJ7_fill_53178_17 (by decide) ?_
        exact ih y5 (upd w3 w2.toNatClampNeg x1) _ _ _ _ hf hP hD hS (lv_sub hl [1, 2, 0, 3] rfl) hk
  obtain ⟨v7, hv7, hf⟩ := zk_ob hf
  refine lp5 zk_F (0 : Int32) f_p0 v7 _ _ _ hv7 hP hD hS (lv_sub hl [2, 3, 1, 0] rfl) ?_
  intro H locs ls hP hD hS hl
  obtain rfl := Option.some.inj hf
  exact hret trivial _ _ _ _ hP hD hS dJ7_fill_53178_20
def zl_J7_fill_d0a16_6 (x1 : Int64) (n0 : Nat) (y1 : Int32) : Nat → (Int32) → (Nat → Int64) → Option (Int32 × (Nat → Int64))
  | 0, _, _ => none
  | n + 1, w2, w3 =>
    if y1 ≤ w2 then
    some (w2, w3)
    else
    zk_gd (zk_in w2 n0)
    (zk_lt (w2 + 1) (fun y5 =>
    zl_J7_fill_d0a16_6 x1 n0 y1 n y5 (vp_updL w3 w2.toNatClampNeg x1)))
def zf_J7_fill_d0a16 (x1 : Int64) (n0 : Nat) (f_p0 : Nat → Int64) : Option (Nat → Int64) :=
  zk_lt (Int32.ofNat n0) (fun y1 =>
  (zl_J7_fill_d0a16_6 x1 n0 y1 zk_F (0 : Int32) f_p0).bind (fun v7 =>
  some v7.2))
theorem hd_J7_fill_d0a16 : yJ7_fill_d0a16.cls ≠ "java/lang/invoke/MethodHandle" ∧ yJ7_fill_d0a16.cls ≠ "java/lang/invoke/VarHandle" ∧ (parseMethodDescriptor yJ7_fill_d0a16.desc).map (fun d => d.parameters.length) = some 2 := by decide +kernel
set_option maxHeartbeats 4000000 in
set_option maxRecDepth 100000 in
theorem zc_J7_fill_d0a16 (l : Launch) (D : va_G) (tL tO : Nat) (cI cJ cB cQ : ClassId) (a_p0 : Nat) (n0 : Nat) (x1 : Int64) (f_p0 : Nat → Int64) (z : Nat → Int64) (hf : zf_J7_fill_d0a16 x1 n0 f_p0 = some z) : zk_CT l D tL tO (zk_ty cI cJ cB cQ) yJ7_fill_d0a16 wsJ7_fill_d0a16 0 0 [.ref a_p0, .long x1] none [(a_p0, .inl (cJ, n0, .inr (.inl f_p0)))] [(a_p0, .inl (cJ, n0, .inr (.inl z)))] := by
  refine zk_of_v (cc := cJ7_fill_d0a16) (maxL := 5) (by decide) rfl (Nat.le_of_ble_eq_true rfl) ?_
  intro p e R s m args below meth c A Q ls hx hb hml hRf hRl hts hown hP hK hD hA hS hG hl hret
  have hl : lv_has ls 5 [(0, .ref a_p0), (1, .long x1)] := hl
  have hown : s.vm.findClass RJ7 = some m.cls := hown
  have hcs : 0 ≤ R.cells ∧ 0 ≤ R.slots := ⟨Nat.zero_le _, Nat.zero_le _⟩
  unfold zf_J7_fill_d0a16 at hf
  refine lv_iconst (v := (0 : Int32)) hx hb dJ7_fill_d0a16_0 (by decide) ?_
  refine lv_istore_n (lv' := [(3, .int (0 : Int32)), (0, .ref a_p0), (1, .long x1)]) hx hb dJ7_fill_d0a16_1 rfl hl (by decide) rfl (fun ls hl => ?_)
  refine lv_aload_n hx hb dJ7_fill_d0a16_2 rfl (lv_at hl 1 rfl) ?_
  refine va_alen hx hb hK hP 0 1 rfl rfl (v := Int32.ofNat n0) rfl dJ7_fill_d0a16_3 ?_
  obtain ⟨y1, ey1, hf⟩ := zk_lt_s hf
  refine zk_topi ey1 ?_
  refine lv_istore (lv' := [(4, .int y1), (3, .int (0 : Int32)), (0, .ref a_p0), (1, .long x1)]) hx hb dJ7_fill_d0a16_4 hl (by decide) rfl (fun ls hl => ?_)
  have lp6 : ∀ (n : Nat) (w2 : Int32) (w3 : Nat → Int64) (z6 : Int32 × (Nat → Int64)) (H : Heap) (locs : List Loc) (ls : Array Slot), zl_J7_fill_d0a16_6 x1 n0 y1 n w2 w3 = some z6 → va_P D vwCl [(a_p0, .inl (cJ, n0, .inr (.inl w3)))] H → va_D A [(a_p0, .inl (cJ, n0, .inr (.inl w3)))] → va_S A s.heap H locs → lv_has ls 5 [(0, .ref a_p0), (1, .long x1), (3, .int w2), (4, .int y1)] → (∀ (H : Heap) (locs : List Loc) (ls : Array Slot), va_P D vwCl [(a_p0, .inl (cJ, n0, .inr (.inl z6.2)))] H → va_D A [(a_p0, .inl (cJ, n0, .inr (.inl z6.2)))] → va_S A s.heap H locs → lv_has ls 5 [(0, .ref a_p0), (1, .long x1), (3, .int z6.1), (4, .int y1)] → W p l e R s m args below meth c H locs 0 0 Q (F0 m 22 ls [])) → W p l e R s m args below meth c H locs 0 0 Q (F0 m 6 ls []) := by
    intro n
    induction n with
    | zero => intro w2 w3 z6 H locs ls hf; exact absurd (show none = some z6 from hf) (by simp)
    | succ n ih =>
      intro w2 w3 z6 H locs ls hf hP hD hS hl hk
      rw [zl_J7_fill_d0a16_6] at hf
      refine lv_iload_n hx hb dJ7_fill_d0a16_6 rfl (lv_at hl 2 rfl) ?_
      refine lv_iload hx hb dJ7_fill_d0a16_7 (lv_at hl 3 rfl) ?_
      refine lv_icmp_ge (tgt := 22) hx hb dJ7_fill_d0a16_9 (by decide) (fun c6 => ?_) (fun c6 => ?_)
      · have hf := zk_t c6 hf
        obtain rfl := Option.some.inj hf
        exact hk _ _ _ hP hD hS (lv_sub hl [0, 1, 2, 3] rfl)
      · have hf := zk_f c6 hf
        refine lv_aload_n hx hb dJ7_fill_d0a16_12 rfl (lv_at hl 0 rfl) ?_
        refine lv_iload_n hx hb dJ7_fill_d0a16_13 rfl (lv_at hl 2 rfl) ?_
        refine lv_lload_n hx hb dJ7_fill_d0a16_14 rfl (lv_at hl 1 rfl) ?_
        obtain ⟨g4, hf⟩ := zk_gd_s hf
        refine va_last hx hb hK hP hD hS 0 1 rfl rfl (zk_in_s g4) dJ7_fill_d0a16_15 (fun H locs hP hD hS => ?_)
        have hP : va_P D vwCl [(a_p0, .inl (cJ, n0, .inr (.inl (vp_updL w3 w2.toNatClampNeg x1))))] H := hP
        have hD : va_D A [(a_p0, .inl (cJ, n0, .inr (.inl (vp_updL w3 w2.toNatClampNeg x1))))] := hD
        obtain ⟨y5, ey5, hf⟩ := zk_lt_s hf
        refine lv_iinc (v := y5) (lv' := [(3, .int y5), (0, .ref a_p0), (1, .long x1), (4, .int y1)]) hx hb dJ7_fill_d0a16_16 hl (k := 2) rfl (by rw [ey5]; rfl) (by decide) rfl (fun ls hl => ?_)
        refine lv_goto (tgt := 6) hx hb dJ7_fill_d0a16_19 (by decide) ?_
        exact ih y5 (vp_updL w3 w2.toNatClampNeg x1) _ _ _ _ hf hP hD hS (lv_sub hl [1, 2, 0, 3] rfl) hk
  obtain ⟨v7, hv7, hf⟩ := zk_ob hf
  refine lp6 zk_F (0 : Int32) f_p0 v7 _ _ _ hv7 hP hD hS (lv_sub hl [2, 3, 1, 0] rfl) ?_
  intro H locs ls hP hD hS hl
  obtain rfl := Option.some.inj hf
  exact hret trivial _ _ _ _ hP hD hS dJ7_fill_d0a16_22
