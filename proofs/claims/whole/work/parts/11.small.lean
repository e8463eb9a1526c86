def zf_X4_isWorld (x0 : Int32) : Option (Int32) :=
  if x0 < 0 then
  some (0 : Int32)
  else
  if (64 : Int32) ≤ x0 then
  some (0 : Int32)
  else
  some (1 : Int32)
theorem hd_X4_isWorld : yX4_isWorld.cls ≠ "java/lang/invoke/MethodHandle" ∧ yX4_isWorld.cls ≠ "java/lang/invoke/VarHandle" ∧ (parseMethodDescriptor yX4_isWorld.desc).map (fun d => d.parameters.length) = some 1 := by decide +kernel
set_option maxHeartbeats 4000000 in
set_option maxRecDepth 100000 in
theorem zc_X4_isWorld (l : Launch) (D : va_G) (tL tO : Nat) (cI cJ cB cQ : ClassId) (x0 : Int32) (z : Int32) (hf : zf_X4_isWorld x0 = some z) : zk_CT l D tL tO (zk_ty cI cJ cB cQ) yX4_isWorld wsX4_isWorld 0 0 [.int x0] (some (.int z)) [] [] := by
  refine zk_of_z (cc := cX4_isWorld) (maxL := 1) (by decide) rfl (Nat.le_of_ble_eq_true rfl) ?_
  intro p e R s m args below meth c A Q ls hx hb hml hRf hRl hts hown hP hK hD hA hS hG hl hret
  have hl : lv_has ls 1 [(0, .int x0)] := hl
  have hown : s.vm.findClass RX4 = some m.cls := hown
  have hcs : 0 ≤ R.cells ∧ 0 ≤ R.slots := ⟨Nat.zero_le _, Nat.zero_le _⟩
  unfold zf_X4_isWorld at hf
  refine lv_iload_n hx hb dX4_isWorld_0 rfl (lv_at hl 0 rfl) ?_
  refine lv_if_lt (tgt := 14) hx hb dX4_isWorld_1 (by decide) (fun c2 => ?_) (fun c2 => ?_)
  · have hf := zk_t c2 hf
    refine lv_iconst (v := (0 : Int32)) hx hb dX4_isWorld_14 (by decide) ?_
    obtain rfl := Option.some.inj hf
    exact hret rfl _ _ _ _ hP hD hS dX4_isWorld_15
  · have hf := zk_f c2 hf
    refine lv_iload_n hx hb dX4_isWorld_4 rfl (lv_at hl 0 rfl) ?_
    refine lv_bipush (v := (64 : Int32)) hx hb dX4_isWorld_5 (by decide) ?_
    refine lv_icmp_ge (tgt := 14) hx hb dX4_isWorld_7 (by decide) (fun c1 => ?_) (fun c1 => ?_)
    · have hf := zk_t c1 hf
      refine lv_iconst (v := (0 : Int32)) hx hb dX4_isWorld_14 (by decide) ?_
      obtain rfl := Option.some.inj hf
      exact hret rfl _ _ _ _ hP hD hS dX4_isWorld_15
    · have hf := zk_f c1 hf
      refine lv_iconst (v := (1 : Int32)) hx hb dX4_isWorld_10 (by decide) ?_
      refine lv_goto (tgt := 15) hx hb dX4_isWorld_11 (by decide) ?_
      obtain rfl := Option.some.inj hf
      exact hret rfl _ _ _ _ hP hD hS dX4_isWorld_15
def zf_X4_isWay (x0 : Int32) : Option (Int32) :=
  if x0 < 0 then
  some (0 : Int32)
  else
  if (2 : Int32) < x0 then
  some (0 : Int32)
  else
  some (1 : Int32)
theorem hd_X4_isWay : yX4_isWay.cls ≠ "java/lang/invoke/MethodHandle" ∧ yX4_isWay.cls ≠ "java/lang/invoke/VarHandle" ∧ (parseMethodDescriptor yX4_isWay.desc).map (fun d => d.parameters.length) = some 1 := by decide +kernel
set_option maxHeartbeats 4000000 in
set_option maxRecDepth 100000 in
theorem zc_X4_isWay (l : Launch) (D : va_G) (tL tO : Nat) (cI cJ cB cQ : ClassId) (x0 : Int32) (z : Int32) (hf : zf_X4_isWay x0 = some z) : zk_CT l D tL tO (zk_ty cI cJ cB cQ) yX4_isWay wsX4_isWay 0 0 [.int x0] (some (.int z)) [] [] := by
  refine zk_of_z (cc := cX4_isWay) (maxL := 1) (by decide) rfl (Nat.le_of_ble_eq_true rfl) ?_
  intro p e R s m args below meth c A Q ls hx hb hml hRf hRl hts hown hP hK hD hA hS hG hl hret
  have hl : lv_has ls 1 [(0, .int x0)] := hl
  have hown : s.vm.findClass RX4 = some m.cls := hown
  have hcs : 0 ≤ R.cells ∧ 0 ≤ R.slots := ⟨Nat.zero_le _, Nat.zero_le _⟩
  unfold zf_X4_isWay at hf
  refine lv_iload_n hx hb dX4_isWay_0 rfl (lv_at hl 0 rfl) ?_
  refine lv_if_lt (tgt := 13) hx hb dX4_isWay_1 (by decide) (fun c2 => ?_) (fun c2 => ?_)
  · have hf := zk_t c2 hf
    refine lv_iconst (v := (0 : Int32)) hx hb dX4_isWay_13 (by decide) ?_
    obtain rfl := Option.some.inj hf
    exact hret rfl _ _ _ _ hP hD hS dX4_isWay_14
  · have hf := zk_f c2 hf
    refine lv_iload_n hx hb dX4_isWay_4 rfl (lv_at hl 0 rfl) ?_
    refine lv_iconst (v := (2 : Int32)) hx hb dX4_isWay_5 (by decide) ?_
    refine lv_icmp_gt (tgt := 13) hx hb dX4_isWay_6 (by decide) (fun c1 => ?_) (fun c1 => ?_)
    · have hf := zk_t c1 hf
      refine lv_iconst (v := (0 : Int32)) hx hb dX4_isWay_13 (by decide) ?_
      obtain rfl := Option.some.inj hf
      exact hret rfl _ _ _ _ hP hD hS dX4_isWay_14
    · have hf := zk_f c1 hf
      refine lv_iconst (v := (1 : Int32)) hx hb dX4_isWay_9 (by decide) ?_
      refine lv_goto (tgt := 14) hx hb dX4_isWay_10 (by decide) ?_
      obtain rfl := Option.some.inj hf
      exact hret rfl _ _ _ _ hP hD hS dX4_isWay_14
def zf_X4_isLetter (x0 : Int32) : Option (Int32) :=
  if x0 < (97 : Int32) then
  some (0 : Int32)
  else
  if (103 : Int32) ≤ x0 then
  some (0 : Int32)
  else
  some (1 : Int32)
theorem hd_X4_isLetter : yX4_isLetter.cls ≠ "java/lang/invoke/MethodHandle" ∧ yX4_isLetter.cls ≠ "java/lang/invoke/VarHandle" ∧ (parseMethodDescriptor yX4_isLetter.desc).map (fun d => d.parameters.length) = some 1 := by decide +kernel
set_option maxHeartbeats 4000000 in
set_option maxRecDepth 100000 in
theorem zc_X4_isLetter (l : Launch) (D : va_G) (tL tO : Nat) (cI cJ cB cQ : ClassId) (x0 : Int32) (z : Int32) (hf : zf_X4_isLetter x0 = some z) : zk_CT l D tL tO (zk_ty cI cJ cB cQ) yX4_isLetter wsX4_isLetter 0 0 [.int x0] (some (.int z)) [] [] := by
  refine zk_of_z (cc := cX4_isLetter) (maxL := 1) (by decide) rfl (Nat.le_of_ble_eq_true rfl) ?_
  intro p e R s m args below meth c A Q ls hx hb hml hRf hRl hts hown hP hK hD hA hS hG hl hret
  have hl : lv_has ls 1 [(0, .int x0)] := hl
  have hown : s.vm.findClass RX4 = some m.cls := hown
  have hcs : 0 ≤ R.cells ∧ 0 ≤ R.slots := ⟨Nat.zero_le _, Nat.zero_le _⟩
  unfold zf_X4_isLetter at hf
  refine lv_iload_n hx hb dX4_isLetter_0 rfl (lv_at hl 0 rfl) ?_
  refine lv_bipush (v := (97 : Int32)) hx hb dX4_isLetter_1 (by decide) ?_
  refine lv_icmp_lt (tgt := 16) hx hb dX4_isLetter_3 (by decide) (fun c2 => ?_) (fun c2 => ?_)
  · have hf := zk_t c2 hf
    refine lv_iconst (v := (0 : Int32)) hx hb dX4_isLetter_16 (by decide) ?_
    obtain rfl := Option.some.inj hf
    exact hret rfl _ _ _ _ hP hD hS dX4_isLetter_17
  · have hf := zk_f c2 hf
    refine lv_iload_n hx hb dX4_isLetter_6 rfl (lv_at hl 0 rfl) ?_
    refine lv_bipush (v := (103 : Int32)) hx hb dX4_isLetter_7 (by decide) ?_
    refine lv_icmp_ge (tgt := 16) hx hb dX4_isLetter_9 (by decide) (fun c1 => ?_) (fun c1 => ?_)
    · have hf := zk_t c1 hf
      refine lv_iconst (v := (0 : Int32)) hx hb dX4_isLetter_16 (by decide) ?_
      obtain rfl := Option.some.inj hf
      exact hret rfl _ _ _ _ hP hD hS dX4_isLetter_17
    · have hf := zk_f c1 hf
      refine lv_iconst (v := (1 : Int32)) hx hb dX4_isLetter_12 (by decide) ?_
      refine lv_goto (tgt := 17) hx hb dX4_isLetter_13 (by decide) ?_
      obtain rfl := Option.some.inj hf
      exact hret rfl _ _ _ _ hP hD hS dX4_isLetter_17
def zf_X4_isIn (x0 : Int64) (x1 : Int32) : Option (Int32) :=
  if (lg_cmp (((x0.toUInt64 >>> (x1.toInt64.toUInt64 &&& Int64.toUInt64 63)).toInt64) &&& (1 : Int64)) (0 : Int64)) = 0 then
  some (0 : Int32)
  else
  some (1 : Int32)
theorem hd_X4_isIn : yX4_isIn.cls ≠ "java/lang/invoke/MethodHandle" ∧ yX4_isIn.cls ≠ "java/lang/invoke/VarHandle" ∧ (parseMethodDescriptor yX4_isIn.desc).map (fun d => d.parameters.length) = some 2 := by decide +kernel
set_option maxHeartbeats 4000000 in
set_option maxRecDepth 100000 in
theorem zc_X4_isIn (l : Launch) (D : va_G) (tL tO : Nat) (cI cJ cB cQ : ClassId) (x0 : Int64) (x1 : Int32) (z : Int32) (hf : zf_X4_isIn x0 x1 = some z) : zk_CT l D tL tO (zk_ty cI cJ cB cQ) yX4_isIn wsX4_isIn 0 0 [.long x0, .int x1] (some (.int z)) [] [] := by
  refine zk_of_z (cc := cX4_isIn) (maxL := 3) (by decide) rfl (Nat.le_of_ble_eq_true rfl) ?_
  intro p e R s m args below meth c A Q ls hx hb hml hRf hRl hts hown hP hK hD hA hS hG hl hret
  have hl : lv_has ls 3 [(0, .long x0), (2, .int x1)] := hl
  have hown : s.vm.findClass RX4 = some m.cls := hown
  have hcs : 0 ≤ R.cells ∧ 0 ≤ R.slots := ⟨Nat.zero_le _, Nat.zero_le _⟩
  unfold zf_X4_isIn at hf
  refine lv_lload_n hx hb dX4_isIn_0 rfl (lv_at hl 0 rfl) ?_
  refine lv_iload_n hx hb dX4_isIn_1 rfl (lv_at hl 1 rfl) ?_
  refine lv_lushr hx hb dX4_isIn_2 rfl ?_
  refine lv_lconst (v := (1 : Int64)) hx hb dX4_isIn_3 (by decide) ?_
  refine lv_land hx hb dX4_isIn_4 ?_
  refine lv_lconst (v := (0 : Int64)) hx hb dX4_isIn_5 (by decide) ?_
  refine W.lcmp hx hb dX4_isIn_6 ?_
  refine lv_if_eq (tgt := 14) hx hb dX4_isIn_7 (by decide) (fun c1 => ?_) (fun c1 => ?_)
  · have hf := zk_t c1 hf
    refine lv_iconst (v := (0 : Int32)) hx hb dX4_isIn_14 (by decide) ?_
    obtain rfl := Option.some.inj hf
    exact hret rfl _ _ _ _ hP hD hS dX4_isIn_15
  · have hf := zk_f c1 hf
    refine lv_iconst (v := (1 : Int32)) hx hb dX4_isIn_10 (by decide) ?_
    refine lv_goto (tgt := 15) hx hb dX4_isIn_11 (by decide) ?_
    obtain rfl := Option.some.inj hf
    exact hret rfl _ _ _ _ hP hD hS dX4_isIn_15
def zl_X4_putIntoRow_7  : Nat → (Int64) → (Int64) → (Int32) → Option (Int64 × Int64 × Int32)
  | 0, _, _, _ => none
  | n + 1, w1, w2, w3 =>
    if w3 < 0 then
    some (w1, w2, w3)
    else
    if (lg_cmp w2 (0 : Int64)) ≤ 0 then
    some (w1, w2, w3)
    else
    zk_lt (((w1.toUInt64 >>> (w3.toInt64.toUInt64 &&& Int64.toUInt64 63)).toInt64) &&& (511 : Int64)) (fun y4 =>
    if (lg_cmp w2 y4) ≤ 0 then
    zk_lt (w3 + (-9)) (fun y5 =>
    zl_X4_putIntoRow_7 n w1 w2 y5)
    else
    zk_lt (w1 + ((w2 - y4) <<< (w3.toInt64 &&& 63))) (fun y6 =>
    zk_lt (w3 + (-9)) (fun y7 =>
    zl_X4_putIntoRow_7 n y6 y4 y7)))
def zf_X4_putIntoRow (x0 : Int64) (x1 : Int64) : Option (Int64) :=
  (zl_X4_putIntoRow_7 zk_F x0 x1 (54 : Int32)).bind (fun v11 =>
  some v11.1)
theorem hd_X4_putIntoRow : yX4_putIntoRow.cls ≠ "java/lang/invoke/MethodHandle" ∧ yX4_putIntoRow.cls ≠ "java/lang/invoke/VarHandle" ∧ (parseMethodDescriptor yX4_putIntoRow.desc).map (fun d => d.parameters.length) = some 2 := by decide +kernel
set_option maxHeartbeats 4000000 in
set_option maxRecDepth 100000 in
theorem zc_X4_putIntoRow (l : Launch) (D : va_G) (tL tO : Nat) (cI cJ cB cQ : ClassId) (x0 : Int64) (x1 : Int64) (z : Int64) (hf : zf_X4_putIntoRow x0 x1 = some z) : zk_CT l D tL tO (zk_ty cI cJ cB cQ) yX4_putIntoRow wsX4_putIntoRow 0 0 [.long x0, .long x1] (some (.long z)) [] [] := by
  refine zk_of_l (cc := cX4_putIntoRow) (maxL := 9) (by decide) rfl (Nat.le_of_ble_eq_true rfl) ?_
  intro p e R s m args below meth c A Q ls hx hb hml hRf hRl hts hown hP hK hD hA hS hG hl hret
  have hl : lv_has ls 9 [(0, .long x0), (2, .long x1)] := hl
  have hown : s.vm.findClass RX4 = some m.cls := hown
  have hcs : 0 ≤ R.cells ∧ 0 ≤ R.slots := ⟨Nat.zero_le _, Nat.zero_le _⟩
  have lk0 := hts (.constantLong RX4 233 (511)) (by decide +kernel)
  unfold zf_X4_putIntoRow at hf
  refine lv_lload_n hx hb dX4_putIntoRow_0 rfl (lv_at hl 1 rfl) ?_
  refine lv_lstore (lv' := [(4, .long x1), (0, .long x0), (2, .long x1)]) hx hb dX4_putIntoRow_1 hl (by decide) rfl (fun ls hl => ?_)
  refine lv_bipush (v := (54 : Int32)) hx hb dX4_putIntoRow_3 (by decide) ?_
  refine lv_istore (lv' := [(6, .int (54 : Int32)), (4, .long x1), (0, .long x0), (2, .long x1)]) hx hb dX4_putIntoRow_5 hl (by decide) rfl (fun ls hl => ?_)
  have lp7 : ∀ (n : Nat) (w1 : Int64) (w2 : Int64) (w3 : Int32) (z7 : Int64 × Int64 × Int32) (H : Heap) (locs : List Loc) (ls : Array Slot), zl_X4_putIntoRow_7 n w1 w2 w3 = some z7 → va_P D vwCl [] H → va_D A [] → va_S A s.heap H locs → lv_has ls 9 [(0, .long w1), (2, .long x1), (4, .long w2), (6, .int w3)] → (∀ (H : Heap) (locs : List Loc) (ls : Array Slot), va_P D vwCl [] H → va_D A [] → va_S A s.heap H locs → lv_has ls 9 [(0, .long z7.1), (2, .long x1), (4, .long z7.2.1), (6, .int z7.2.2)] → W p l e R s m args below meth c H locs 0 0 Q (F0 m 58 ls [])) → W p l e R s m args below meth c H locs 0 0 Q (F0 m 7 ls []) := by
    intro n
    induction n with
    | zero => intro w1 w2 w3 z7 H locs ls hf; exact absurd (show none = some z7 from hf) (by simp)
    | succ n ih =>
      intro w1 w2 w3 z7 H locs ls hf hP hD hS hl hk
      rw [zl_X4_putIntoRow_7] at hf
      refine lv_iload hx hb dX4_putIntoRow_7 (lv_at hl 3 rfl) ?_
      refine lv_if_lt (tgt := 58) hx hb dX4_putIntoRow_9 (by decide) (fun c10 => ?_) (fun c10 => ?_)
      · have hf := zk_t c10 hf
        obtain rfl := Option.some.inj hf
        exact hk _ _ _ hP hD hS (lv_sub hl [0, 1, 2, 3] rfl)
      · have hf := zk_f c10 hf
        refine lv_lload hx hb dX4_putIntoRow_12 (lv_at hl 2 rfl) ?_
        refine lv_lconst (v := (0 : Int64)) hx hb dX4_putIntoRow_14 (by decide) ?_
        refine W.lcmp hx hb dX4_putIntoRow_15 ?_
        refine lv_if_le (tgt := 58) hx hb dX4_putIntoRow_16 (by decide) (fun c9 => ?_) (fun c9 => ?_)
        · have hf := zk_t c9 hf
          obtain rfl := Option.some.inj hf
          exact hk _ _ _ hP hD hS (lv_sub hl [0, 1, 2, 3] rfl)
        · have hf := zk_f c9 hf
          refine lv_lload_n hx hb dX4_putIntoRow_19 rfl (lv_at hl 0 rfl) ?_
          refine lv_iload hx hb dX4_putIntoRow_20 (lv_at hl 3 rfl) ?_
          refine lv_lushr hx hb dX4_putIntoRow_22 rfl ?_
          refine lv_ldc2 hx hb hown lk0 dX4_putIntoRow_23 ?_
          refine lv_land hx hb dX4_putIntoRow_26 ?_
          obtain ⟨y4, ey4, hf⟩ := zk_lt_s hf
          refine zk_topl ey4 ?_
          refine lv_lstore (lv' := [(7, .long y4), (0, .long w1), (2, .long x1), (4, .long w2), (6, .int w3)]) hx hb dX4_putIntoRow_27 hl (by decide) rfl (fun ls hl => ?_)
          refine lv_lload hx hb dX4_putIntoRow_29 (lv_at hl 3 rfl) ?_
          refine lv_lload hx hb dX4_putIntoRow_31 (lv_at hl 0 rfl) ?_
          refine W.lcmp hx hb dX4_putIntoRow_33 ?_
          refine lv_if_le (tgt := 52) hx hb dX4_putIntoRow_34 (by decide) (fun c8 => ?_) (fun c8 => ?_)
          · have hf := zk_t c8 hf
            obtain ⟨y5, ey5, hf⟩ := zk_lt_s hf
            refine lv_iinc (v := y5) (lv' := [(6, .int y5), (7, .long y4), (0, .long w1), (2, .long x1), (4, .long w2)]) hx hb dX4_putIntoRow_52 hl (k := 4) rfl (by rw [ey5]; rfl) (by decide) rfl (fun ls hl => ?_)
            refine lv_goto (tgt := 7) hx hb dX4_putIntoRow_55 (by decide) ?_
            exact ih w1 w2 y5 _ _ _ _ hf hP hD hS (lv_sub hl [2, 3, 4, 0] rfl) hk
          · have hf := zk_f c8 hf
            refine lv_lload_n hx hb dX4_putIntoRow_37 rfl (lv_at hl 1 rfl) ?_
            refine lv_lload hx hb dX4_putIntoRow_38 (lv_at hl 3 rfl) ?_
            refine lv_lload hx hb dX4_putIntoRow_40 (lv_at hl 0 rfl) ?_
            refine lv_lsub hx hb dX4_putIntoRow_42 ?_
            refine lv_iload hx hb dX4_putIntoRow_43 (lv_at hl 4 rfl) ?_
            refine lv_lshl hx hb dX4_putIntoRow_45 rfl ?_
            refine lv_ladd hx hb dX4_putIntoRow_46 ?_
            obtain ⟨y6, ey6, hf⟩ := zk_lt_s hf
            refine zk_topl ey6 ?_
            refine lv_lstore_n (lv' := [(0, .long y6), (7, .long y4), (2, .long x1), (4, .long w2), (6, .int w3)]) hx hb dX4_putIntoRow_47 rfl hl (by decide) rfl (fun ls hl => ?_)
            refine lv_lload hx hb dX4_putIntoRow_48 (lv_at hl 1 rfl) ?_
            refine lv_lstore (lv' := [(4, .long y4), (0, .long y6), (7, .long y4), (2, .long x1), (6, .int w3)]) hx hb dX4_putIntoRow_50 hl (by decide) rfl (fun ls hl => ?_)
            obtain ⟨y7, ey7, hf⟩ := zk_lt_s hf
            refine lv_iinc (v := y7) (lv' := [(6, .int y7), (4, .long y4), (0, .long y6), (7, .long y4), (2, .long x1)]) hx hb dX4_putIntoRow_52 hl (k := 4) rfl (by rw [ey7]; rfl) (by decide) rfl (fun ls hl => ?_)
            refine lv_goto (tgt := 7) hx hb dX4_putIntoRow_55 (by decide) ?_
            exact ih y6 y4 y7 _ _ _ _ hf hP hD hS (lv_sub hl [2, 4, 1, 0] rfl) hk
  obtain ⟨v11, hv11, hf⟩ := zk_ob hf
  refine lp7 zk_F x0 x1 (54 : Int32) v11 _ _ _ hv11 hP hD hS (lv_sub hl [2, 3, 1, 0] rfl) ?_
  intro H locs ls hP hD hS hl
  refine lv_lload_n hx hb dX4_putIntoRow_58 rfl (lv_at hl 0 rfl) ?_
  obtain rfl := Option.some.inj hf
  exact hret trivial _ _ _ _ hP hD hS dX4_putIntoRow_59
def zf_X4_joined (x0 : Int32) (x1 : Int64) (x2 : Int64) : Option (Int64) :=
  if x0 = 0 then
  some (x1 + x2)
  else
  if x0 = (1 : Int32) then
  some (if x2 < x1 then x1 else x2)
  else
  (zf_X4_putIntoRow x1 x2).bind (fun v1 =>
  some v1)
theorem hd_X4_joined : yX4_joined.cls ≠ "java/lang/invoke/MethodHandle" ∧ yX4_joined.cls ≠ "java/lang/invoke/VarHandle" ∧ (parseMethodDescriptor yX4_joined.desc).map (fun d => d.parameters.length) = some 3 := by decide +kernel
set_option maxHeartbeats 4000000 in
set_option maxRecDepth 100000 in
theorem zc_X4_joined (l : Launch) (D : va_G) (tL tO : Nat) (cI cJ cB cQ : ClassId) (x0 : Int32) (x1 : Int64) (x2 : Int64) (z : Int64) (hf : zf_X4_joined x0 x1 x2 = some z) : zk_CT l D tL tO (zk_ty cI cJ cB cQ) yX4_joined wsX4_joined 1 28 [.int x0, .long x1, .long x2] (some (.long z)) [] [] := by
  refine zk_of_l (cc := cX4_joined) (maxL := 5) (by decide) rfl (Nat.le_of_ble_eq_true rfl) ?_
  intro p e R s m args below meth c A Q ls hx hb hml hRf hRl hts hown hP hK hD hA hS hG hl hret
  have hl : lv_has ls 5 [(0, .int x0), (1, .long x1), (3, .long x2)] := hl
  have hown : s.vm.findClass RX4 = some m.cls := hown
  have hcs : 0 ≤ R.cells ∧ 0 ≤ R.slots := ⟨Nat.zero_le _, Nat.zero_le _⟩
  have lk0 := hts (.methodLink RX4 225 Lib.MathLoose.max_long.x) (by decide +kernel)
  have lk1 := hts (.static Lib.MathLoose.max_long.x) (by decide +kernel)
  have lk2 := hts (.initialized "java/lang/Math") (by decide +kernel)
  have lk3 := hts (.code Lib.MathLoose.max_long.x Lib.MathLoose.max_long.code 4 (some .long)) (by decide +kernel)
  unfold zf_X4_joined at hf
  refine lv_iload_n hx hb dX4_joined_0 rfl (lv_at hl 0 rfl) ?_
  refine lv_if_ne (tgt := 8) hx hb dX4_joined_1 (by decide) (fun c3 => ?_) (fun c3 => ?_)
  · have hf := zk_f c3 hf
    refine lv_iload_n hx hb dX4_joined_8 rfl (lv_at hl 0 rfl) ?_
    refine lv_iconst (v := (1 : Int32)) hx hb dX4_joined_9 (by decide) ?_
    refine lv_icmp_ne (tgt := 19) hx hb dX4_joined_10 (by decide) (fun c2 => ?_) (fun c2 => ?_)
    · have hf := zk_f c2 hf
      refine lv_lload_n hx hb dX4_joined_19 rfl (lv_at hl 1 rfl) ?_
      refine lv_lload_n hx hb dX4_joined_20 rfl (lv_at hl 2 rfl) ?_
      obtain ⟨v1, hv1, hf⟩ := zk_ob hf
      refine zk_goR (zk_S (As := [.long x1, .long x2]) (rest := []) hx hb hml hown hts hK hG hP hD hS hA gX4_joined_X4_putIntoRow rfl hd_X4_putIntoRow (Nat.le_trans (Nat.le_of_ble_eq_true rfl) hRf) (Nat.le_trans (Nat.le_of_ble_eq_true rfl) hRl) hcs (zc_X4_putIntoRow l D tL tO cI cJ cB cQ x1 x2 v1 hv1) hl.1 rfl rfl (Nat.le_of_ble_eq_true rfl) dX4_joined_21 [] rfl rfl) hP hD hS hA [] rfl (fun H locs hP hS => ?_)
      obtain rfl := Option.some.inj hf
      exact hret trivial _ _ _ _ hP hD hS dX4_joined_24
    · have hf := zk_t c2 hf
      refine lv_lload_n hx hb dX4_joined_13 rfl (lv_at hl 1 rfl) ?_
      refine lv_lload_n hx hb dX4_joined_14 rfl (lv_at hl 2 rfl) ?_
      refine va_mmax_long hx hb (hml.trans hl.1.symm) hown lk0 lk1 lk2 lk3 (Nat.le_trans (Nat.le_of_ble_eq_true rfl) hRf) (Nat.le_trans (Nat.le_of_ble_eq_true rfl) hRl) (Nat.zero_le _) (Nat.zero_le _) dX4_joined_15 ?_
      obtain rfl := Option.some.inj hf
      exact hret trivial _ _ _ _ hP hD hS dX4_joined_18
  · have hf := zk_t c3 hf
    refine lv_lload_n hx hb dX4_joined_4 rfl (lv_at hl 1 rfl) ?_
    refine lv_lload_n hx hb dX4_joined_5 rfl (lv_at hl 2 rfl) ?_
    refine lv_ladd hx hb dX4_joined_6 ?_
    obtain rfl := Option.some.inj hf
    exact hret trivial _ _ _ _ hP hD hS dX4_joined_7
def zl_X4_least_10 (x0 : Int64) (f_p1 : Nat → Int64) (n1 : Nat) : Nat → (Int64) → (Int64) → (Int32) → Option (Int64 × Int64 × Int32)
  | 0, _, _, _ => none
  | n + 1, w1, w2, w3 =>
    if (64 : Int32) ≤ w3 then
    some (w1, w2, w3)
    else
    (zf_X4_isIn x0 w3).bind (fun v4 =>
    if v4 = 0 then
    zk_lt (w3 + 1) (fun y5 =>
    zl_X4_least_10 x0 f_p1 n1 n w1 w2 y5)
    else
    zk_gd (zk_in w3 n1)
    (if 0 < (lg_cmp (f_p1 w3.toNatClampNeg) w1) then
    zk_lt (w3 + 1) (fun y7 =>
    zl_X4_least_10 x0 f_p1 n1 n w1 w2 y7)
    else
    (if 0 ≤ (lg_cmp (f_p1 w3.toNatClampNeg) w1) then
    some (w1, w2)
    else
    zk_lt (f_p1 w3.toNatClampNeg) (fun y11 =>
    some (y11, (0 : Int64)))).bind (fun v8 =>
    zk_lt (v8.2 ||| ((1 : Int64) <<< (w3.toInt64 &&& 63))) (fun y9 =>
    zk_lt (w3 + 1) (fun y10 =>
    zl_X4_least_10 x0 f_p1 n1 n v8.1 y9 y10)))))
def zf_X4_least (x0 : Int64) (n1 : Nat) (f_p1 : Nat → Int64) : Option (Int64) :=
  (zl_X4_least_10 x0 f_p1 n1 zk_F (9223372036854775807 : Int64) (0 : Int64) (0 : Int32)).bind (fun v16 =>
  some v16.2.1)
theorem hd_X4_least : yX4_least.cls ≠ "java/lang/invoke/MethodHandle" ∧ yX4_least.cls ≠ "java/lang/invoke/VarHandle" ∧ (parseMethodDescriptor yX4_least.desc).map (fun d => d.parameters.length) = some 2 := by decide +kernel
set_option maxHeartbeats 4000000 in
set_option maxRecDepth 100000 in
theorem zc_X4_least (l : Launch) (D : va_G) (tL tO : Nat) (cI cJ cB cQ : ClassId) (a_p1 : Nat) (n1 : Nat) (x0 : Int64) (f_p1 : Nat → Int64) (z : Int64) (hf : zf_X4_least x0 n1 f_p1 = some z) : zk_CT l D tL tO (zk_ty cI cJ cB cQ) yX4_least wsX4_least 1 22 [.long x0, .ref a_p1] (some (.long z)) [(a_p1, .inl (cJ, n1, .inr (.inl f_p1)))] [(a_p1, .inl (cJ, n1, .inr (.inl f_p1)))] := by
  refine zk_of_l (cc := cX4_least) (maxL := 8) (by decide) rfl (Nat.le_of_ble_eq_true rfl) ?_
  intro p e R s m args below meth c A Q ls hx hb hml hRf hRl hts hown hP hK hD hA hS hG hl hret
  have hl : lv_has ls 8 [(0, .long x0), (2, .ref a_p1)] := hl
  have hown : s.vm.findClass RX4 = some m.cls := hown
  have hcs : 0 ≤ R.cells ∧ 0 ≤ R.slots := ⟨Nat.zero_le _, Nat.zero_le _⟩
  have lk0 := hts (.constantLong RX4 215 (9223372036854775807)) (by decide +kernel)
  unfold zf_X4_least at hf
  refine lv_ldc2 hx hb hown lk0 dX4_least_0 ?_
  refine lv_lstore_n (lv' := [(3, .long (9223372036854775807 : Int64)), (0, .long x0), (2, .ref a_p1)]) hx hb dX4_least_3 rfl hl (by decide) rfl (fun ls hl => ?_)
  refine lv_lconst (v := (0 : Int64)) hx hb dX4_least_4 (by decide) ?_
  refine lv_lstore (lv' := [(5, .long (0 : Int64)), (3, .long (9223372036854775807 : Int64)), (0, .long x0), (2, .ref a_p1)]) hx hb dX4_least_5 hl (by decide) rfl (fun ls hl => ?_)
  refine lv_iconst (v := (0 : Int32)) hx hb dX4_least_7 (by decide) ?_
  refine lv_istore (lv' := [(7, .int (0 : Int32)), (5, .long (0 : Int64)), (3, .long (9223372036854775807 : Int64)), (0, .long x0), (2, .ref a_p1)]) hx hb dX4_least_8 hl (by decide) rfl (fun ls hl => ?_)
  have lp10 : ∀ (n : Nat) (w1 : Int64) (w2 : Int64) (w3 : Int32) (z10 : Int64 × Int64 × Int32) (H : Heap) (locs : List Loc) (ls : Array Slot), zl_X4_least_10 x0 f_p1 n1 n w1 w2 w3 = some z10 → va_P D vwCl [(a_p1, .inl (cJ, n1, .inr (.inl f_p1)))] H → va_D A [(a_p1, .inl (cJ, n1, .inr (.inl f_p1)))] → va_S A s.heap H locs → lv_has ls 8 [(0, .long x0), (2, .ref a_p1), (3, .long w1), (5, .long w2), (7, .int w3)] → (∀ (H : Heap) (locs : List Loc) (ls : Array Slot), va_P D vwCl [(a_p1, .inl (cJ, n1, .inr (.inl f_p1)))] H → va_D A [(a_p1, .inl (cJ, n1, .inr (.inl f_p1)))] → va_S A s.heap H locs → lv_has ls 8 [(0, .long x0), (2, .ref a_p1), (3, .long z10.1), (5, .long z10.2.1), (7, .int z10.2.2)] → W p l e R s m args below meth c H locs 0 0 Q (F0 m 67 ls [])) → W p l e R s m args below meth c H locs 0 0 Q (F0 m 10 ls []) := by
    intro n
    induction n with
    | zero => intro w1 w2 w3 z10 H locs ls hf; exact absurd (show none = some z10 from hf) (by simp)
    | succ n ih =>
      intro w1 w2 w3 z10 H locs ls hf hP hD hS hl hk
      rw [zl_X4_least_10] at hf
      refine lv_iload hx hb dX4_least_10 (lv_at hl 4 rfl) ?_
      refine lv_bipush (v := (64 : Int32)) hx hb dX4_least_12 (by decide) ?_
      refine lv_icmp_ge (tgt := 67) hx hb dX4_least_14 (by decide) (fun c15 => ?_) (fun c15 => ?_)
      · have hf := zk_t c15 hf
        obtain rfl := Option.some.inj hf
        exact hk _ _ _ hP hD hS (lv_sub hl [0, 1, 2, 3, 4] rfl)
      · have hf := zk_f c15 hf
        refine lv_lload_n hx hb dX4_least_17 rfl (lv_at hl 0 rfl) ?_
        refine lv_iload hx hb dX4_least_18 (lv_at hl 4 rfl) ?_
        obtain ⟨v4, hv4, hf⟩ := zk_ob hf
        refine zk_goR (zk_S (As := [.long x0, .int w3]) (rest := []) hx hb hml hown hts hK hG hP hD hS hA gX4_least_X4_isIn rfl hd_X4_isIn (Nat.le_trans (Nat.le_of_ble_eq_true rfl) hRf) (Nat.le_trans (Nat.le_of_ble_eq_true rfl) hRl) hcs (zc_X4_isIn l D tL tO cI cJ cB cQ x0 w3 v4 hv4) hl.1 rfl rfl (Nat.le_of_ble_eq_true rfl) dX4_least_20 [] rfl rfl) hP hD hS hA [] rfl (fun H locs hP hS => ?_)
        refine lv_if_eq (tgt := 61) hx hb dX4_least_23 (by decide) (fun c14 => ?_) (fun c14 => ?_)
        · have hf := zk_t c14 hf
          obtain ⟨y5, ey5, hf⟩ := zk_lt_s hf
          refine lv_iinc (v := y5) (lv' := [(7, .int y5), (0, .long x0), (2, .ref a_p1), (3, .long w1), (5, .long w2)]) hx hb dX4_least_61 hl (k := 4) rfl (by rw [ey5]; rfl) (by decide) rfl (fun ls hl => ?_)
          refine lv_goto (tgt := 10) hx hb dX4_least_64 (by decide) ?_
          exact ih w1 w2 y5 _ _ _ _ hf hP hD hS (lv_sub hl [1, 2, 3, 4, 0] rfl) hk
        · have hf := zk_f c14 hf
          refine lv_aload_n hx hb dX4_least_26 rfl (lv_at hl 1 rfl) ?_
          refine lv_iload hx hb dX4_least_27 (lv_at hl 4 rfl) ?_
          obtain ⟨g6, hf⟩ := zk_gd_s hf
          refine va_lald hx hb hK hP 0 1 rfl rfl (zk_in_s g6) dX4_least_29 ?_
          refine lv_lload_n hx hb dX4_least_30 rfl (lv_at hl 2 rfl) ?_
          refine W.lcmp hx hb dX4_least_31 ?_
          refine lv_if_gt (tgt := 61) hx hb dX4_least_32 (by decide) (fun c13 => ?_) (fun c13 => ?_)
          · have hf := zk_t c13 hf
            obtain ⟨y7, ey7, hf⟩ := zk_lt_s hf
            refine lv_iinc (v := y7) (lv' := [(7, .int y7), (0, .long x0), (2, .ref a_p1), (3, .long w1), (5, .long w2)]) hx hb dX4_least_61 hl (k := 4) rfl (by rw [ey7]; rfl) (by decide) rfl (fun ls hl => ?_)
            refine lv_goto (tgt := 10) hx hb dX4_least_64 (by decide) ?_
            exact ih w1 w2 y7 _ _ _ _ hf hP hD hS (lv_sub hl [1, 2, 3, 4, 0] rfl) hk
          · have hf := zk_f c13 hf
            refine lv_aload_n hx hb dX4_least_35 rfl (lv_at hl 1 rfl) ?_
            refine lv_iload hx hb dX4_least_36 (lv_at hl 4 rfl) ?_
            refine va_lald hx hb hK hP 0 1 rfl rfl (zk_in_s g6) dX4_least_38 ?_
            refine lv_lload_n hx hb dX4_least_39 rfl (lv_at hl 2 rfl) ?_
            refine W.lcmp hx hb dX4_least_40 ?_
            obtain ⟨v8, hv8, hf⟩ := zk_ob hf
            have kv8 : ∀ (H : Heap) (locs : List Loc) (ls : Array Slot), va_P D vwCl [(a_p1, .inl (cJ, n1, .inr (.inl f_p1)))] H → va_D A [(a_p1, .inl (cJ, n1, .inr (.inl f_p1)))] → va_S A s.heap H locs → lv_has ls 8 [(0, .long x0), (2, .ref a_p1), (3, .long v8.1), (5, .long v8.2), (7, .int w3)] → W p l e R s m args below meth c H locs 0 0 Q (F0 m 52 ls []) := by
              intro H locs ls hP hD hS hl
              refine lv_lload hx hb dX4_least_52 (lv_at hl 3 rfl) ?_
              refine lv_lconst (v := (1 : Int64)) hx hb dX4_least_54 (by decide) ?_
              refine lv_iload hx hb dX4_least_55 (lv_at hl 4 rfl) ?_
              refine lv_lshl hx hb dX4_least_57 rfl ?_
              refine lv_lor hx hb dX4_least_58 ?_
              obtain ⟨y9, ey9, hf⟩ := zk_lt_s hf
              refine zk_topl ey9 ?_
              refine lv_lstore (lv' := [(5, .long y9), (0, .long x0), (2, .ref a_p1), (3, .long v8.1), (7, .int w3)]) hx hb dX4_least_59 hl (by decide) rfl (fun ls hl => ?_)
              obtain ⟨y10, ey10, hf⟩ := zk_lt_s hf
              refine lv_iinc (v := y10) (lv' := [(7, .int y10), (5, .long y9), (0, .long x0), (2, .ref a_p1), (3, .long v8.1)]) hx hb dX4_least_61 hl (k := 4) rfl (by rw [ey10]; rfl) (by decide) rfl (fun ls hl => ?_)
              refine lv_goto (tgt := 10) hx hb dX4_least_64 (by decide) ?_
              exact ih v8.1 y9 y10 _ _ _ _ hf hP hD hS (lv_sub hl [2, 3, 4, 1, 0] rfl) hk
            replace hf := hv8
            refine lv_if_ge (tgt := 52) hx hb dX4_least_41 (by decide) (fun c12 => ?_) (fun c12 => ?_)
            · have hf := zk_t c12 hf
              obtain rfl := Option.some.inj hf
              exact kv8 _ _ _ hP hD hS (lv_sub hl [0, 1, 2, 3, 4] rfl)
            · have hf := zk_f c12 hf
              refine lv_aload_n hx hb dX4_least_44 rfl (lv_at hl 1 rfl) ?_
              refine lv_iload hx hb dX4_least_45 (lv_at hl 4 rfl) ?_
              refine va_lald hx hb hK hP 0 1 rfl rfl (zk_in_s g6) dX4_least_47 ?_
              obtain ⟨y11, ey11, hf⟩ := zk_lt_s hf
              refine zk_topl ey11 ?_
              refine lv_lstore_n (lv' := [(3, .long y11), (0, .long x0), (2, .ref a_p1), (5, .long w2), (7, .int w3)]) hx hb dX4_least_48 rfl hl (by decide) rfl (fun ls hl => ?_)
              refine lv_lconst (v := (0 : Int64)) hx hb dX4_least_49 (by decide) ?_
              refine lv_lstore (lv' := [(5, .long (0 : Int64)), (3, .long y11), (0, .long x0), (2, .ref a_p1), (7, .int w3)]) hx hb dX4_least_50 hl (by decide) rfl (fun ls hl => ?_)
              obtain rfl := Option.some.inj hf
              exact kv8 _ _ _ hP hD hS (lv_sub hl [2, 3, 1, 0, 4] rfl)
  obtain ⟨v16, hv16, hf⟩ := zk_ob hf
  refine lp10 zk_F (9223372036854775807 : Int64) (0 : Int64) (0 : Int32) v16 _ _ _ hv16 hP hD hS (lv_sub hl [3, 4, 2, 1, 0] rfl) ?_
  intro H locs ls hP hD hS hl
  refine lv_lload hx hb dX4_least_67 (lv_at hl 3 rfl) ?_
  obtain rfl := Option.some.inj hf
  exact hret trivial _ _ _ _ hP hD hS dX4_least_69
def zl_X4_commonDivisor_7  : Nat → (Int32) → (Int32) → (Int32) → Option (Int32 × Int32 × Int32)
  | 0, _, _, _ => none
  | n + 1, w1, w2, w3 =>
    if (64 : Int32) ≤ w3 then
    some (w1, w2, w3)
    else
    if w2 = 0 then
    some (w1, w2, w3)
    else
    zk_gd (zk_nz w2)
    (zk_lt (w1 - w1 / w2 * w2) (fun y5 =>
    zk_lt (w3 + 1) (fun y6 =>
    zl_X4_commonDivisor_7 n w2 y5 y6)))
def zf_X4_commonDivisor (x0 : Int32) (x1 : Int32) : Option (Int32) :=
  (zl_X4_commonDivisor_7 zk_F x0 x1 (0 : Int32)).bind (fun v9 =>
  some v9.1)
theorem hd_X4_commonDivisor : yX4_commonDivisor.cls ≠ "java/lang/invoke/MethodHandle" ∧ yX4_commonDivisor.cls ≠ "java/lang/invoke/VarHandle" ∧ (parseMethodDescriptor yX4_commonDivisor.desc).map (fun d => d.parameters.length) = some 2 := by decide +kernel
set_option maxHeartbeats 4000000 in
set_option maxRecDepth 100000 in
theorem zc_X4_commonDivisor (l : Launch) (D : va_G) (tL tO : Nat) (cI cJ cB cQ : ClassId) (x0 : Int32) (x1 : Int32) (z : Int32) (hf : zf_X4_commonDivisor x0 x1 = some z) : zk_CT l D tL tO (zk_ty cI cJ cB cQ) yX4_commonDivisor wsX4_commonDivisor 0 0 [.int x0, .int x1] (some (.int z)) [] [] := by
  refine zk_of_i (cc := cX4_commonDivisor) (maxL := 6) (by decide) rfl (Nat.le_of_ble_eq_true rfl) ?_
  intro p e R s m args below meth c A Q ls hx hb hml hRf hRl hts hown hP hK hD hA hS hG hl hret
  have hl : lv_has ls 6 [(0, .int x0), (1, .int x1)] := hl
  have hown : s.vm.findClass RX4 = some m.cls := hown
  have hcs : 0 ≤ R.cells ∧ 0 ≤ R.slots := ⟨Nat.zero_le _, Nat.zero_le _⟩
  unfold zf_X4_commonDivisor at hf
  refine lv_iload_n hx hb dX4_commonDivisor_0 rfl (lv_at hl 0 rfl) ?_
  refine lv_istore_n (lv' := [(2, .int x0), (0, .int x0), (1, .int x1)]) hx hb dX4_commonDivisor_1 rfl hl (by decide) rfl (fun ls hl => ?_)
  refine lv_iload_n hx hb dX4_commonDivisor_2 rfl (lv_at hl 2 rfl) ?_
  refine lv_istore_n (lv' := [(3, .int x1), (2, .int x0), (0, .int x0), (1, .int x1)]) hx hb dX4_commonDivisor_3 rfl hl (by decide) rfl (fun ls hl => ?_)
  refine lv_iconst (v := (0 : Int32)) hx hb dX4_commonDivisor_4 (by decide) ?_
  refine lv_istore (lv' := [(4, .int (0 : Int32)), (3, .int x1), (2, .int x0), (0, .int x0), (1, .int x1)]) hx hb dX4_commonDivisor_5 hl (by decide) rfl (fun ls hl => ?_)
  have lp7 : ∀ (n : Nat) (w1 : Int32) (w2 : Int32) (w3 : Int32) (z7 : Int32 × Int32 × Int32) (H : Heap) (locs : List Loc) (ls : Array Slot), zl_X4_commonDivisor_7 n w1 w2 w3 = some z7 → va_P D vwCl [] H → va_D A [] → va_S A s.heap H locs → lv_has ls 6 [(0, .int x0), (1, .int x1), (2, .int w1), (3, .int w2), (4, .int w3)] → (∀ (H : Heap) (locs : List Loc) (ls : Array Slot), va_P D vwCl [] H → va_D A [] → va_S A s.heap H locs → lv_has ls 6 [(0, .int x0), (1, .int x1), (2, .int z7.1), (3, .int z7.2.1), (4, .int z7.2.2)] → W p l e R s m args below meth c H locs 0 0 Q (F0 m 34 ls [])) → W p l e R s m args below meth c H locs 0 0 Q (F0 m 7 ls []) := by
    intro n
    induction n with
    | zero => intro w1 w2 w3 z7 H locs ls hf; exact absurd (show none = some z7 from hf) (by simp)
    | succ n ih =>
      intro w1 w2 w3 z7 H locs ls hf hP hD hS hl hk
      rw [zl_X4_commonDivisor_7] at hf
      refine lv_iload hx hb dX4_commonDivisor_7 (lv_at hl 4 rfl) ?_
      refine lv_bipush (v := (64 : Int32)) hx hb dX4_commonDivisor_9 (by decide) ?_
      refine lv_icmp_ge (tgt := 34) hx hb dX4_commonDivisor_11 (by decide) (fun c8 => ?_) (fun c8 => ?_)
      · have hf := zk_t c8 hf
        obtain rfl := Option.some.inj hf
        exact hk _ _ _ hP hD hS (lv_sub hl [0, 1, 2, 3, 4] rfl)
      · have hf := zk_f c8 hf
        refine lv_iload_n hx hb dX4_commonDivisor_14 rfl (lv_at hl 3 rfl) ?_
        refine lv_if_eq (tgt := 34) hx hb dX4_commonDivisor_15 (by decide) (fun c7 => ?_) (fun c7 => ?_)
        · have hf := zk_t c7 hf
          obtain rfl := Option.some.inj hf
          exact hk _ _ _ hP hD hS (lv_sub hl [0, 1, 2, 3, 4] rfl)
        · have hf := zk_f c7 hf
          refine lv_iload_n hx hb dX4_commonDivisor_18 rfl (lv_at hl 2 rfl) ?_
          refine lv_iload_n hx hb dX4_commonDivisor_19 rfl (lv_at hl 3 rfl) ?_
          obtain ⟨g4, hf⟩ := zk_gd_s hf
          refine lv_irem hx hb dX4_commonDivisor_20 (zk_nz_s g4) ?_
          obtain ⟨y5, ey5, hf⟩ := zk_lt_s hf
          refine zk_topi ey5 ?_
          refine lv_istore (lv' := [(5, .int y5), (0, .int x0), (1, .int x1), (2, .int w1), (3, .int w2), (4, .int w3)]) hx hb dX4_commonDivisor_21 hl (by decide) rfl (fun ls hl => ?_)
          refine lv_iload_n hx hb dX4_commonDivisor_23 rfl (lv_at hl 4 rfl) ?_
          refine lv_istore_n (lv' := [(2, .int w2), (5, .int y5), (0, .int x0), (1, .int x1), (3, .int w2), (4, .int w3)]) hx hb dX4_commonDivisor_24 rfl hl (by decide) rfl (fun ls hl => ?_)
          refine lv_iload hx hb dX4_commonDivisor_25 (lv_at hl 1 rfl) ?_
          refine lv_istore_n (lv' := [(3, .int y5), (2, .int w2), (5, .int y5), (0, .int x0), (1, .int x1), (4, .int w3)]) hx hb dX4_commonDivisor_27 rfl hl (by decide) rfl (fun ls hl => ?_)
          obtain ⟨y6, ey6, hf⟩ := zk_lt_s hf
          refine lv_iinc (v := y6) (lv' := [(4, .int y6), (3, .int y5), (2, .int w2), (5, .int y5), (0, .int x0), (1, .int x1)]) hx hb dX4_commonDivisor_28 hl (k := 5) rfl (by rw [ey6]; rfl) (by decide) rfl (fun ls hl => ?_)
          refine lv_goto (tgt := 7) hx hb dX4_commonDivisor_31 (by decide) ?_
          exact ih w2 y5 y6 _ _ _ _ hf hP hD hS (lv_sub hl [4, 5, 2, 1, 0] rfl) hk
  obtain ⟨v9, hv9, hf⟩ := zk_ob hf
  refine lp7 zk_F x0 x1 (0 : Int32) v9 _ _ _ hv9 hP hD hS (lv_sub hl [3, 4, 2, 1, 0] rfl) ?_
  intro H locs ls hP hD hS hl
  refine lv_iload_n hx hb dX4_commonDivisor_34 rfl (lv_at hl 2 rfl) ?_
  obtain rfl := Option.some.inj hf
  exact hret trivial _ _ _ _ hP hD hS dX4_commonDivisor_35
def zf_X5_in (x0 : Int64) (x1 : Int64) (x2 : Int64) : Option (Int32) :=
  if (lg_cmp x0 x1) < 0 then
  some (0 : Int32)
  else
  if 0 < (lg_cmp x0 x2) then
  some (0 : Int32)
  else
  some (1 : Int32)
theorem hd_X5_in : yX5_in.cls ≠ "java/lang/invoke/MethodHandle" ∧ yX5_in.cls ≠ "java/lang/invoke/VarHandle" ∧ (parseMethodDescriptor yX5_in.desc).map (fun d => d.parameters.length) = some 3 := by decide +kernel
set_option maxHeartbeats 4000000 in
set_option maxRecDepth 100000 in
theorem zc_X5_in (l : Launch) (D : va_G) (tL tO : Nat) (cI cJ cB cQ : ClassId) (x0 : Int64) (x1 : Int64) (x2 : Int64) (z : Int32) (hf : zf_X5_in x0 x1 x2 = some z) : zk_CT l D tL tO (zk_ty cI cJ cB cQ) yX5_in wsX5_in 0 0 [.long x0, .long x1, .long x2] (some (.int z)) [] [] := by
  refine zk_of_z (cc := cX5_in) (maxL := 6) (by decide) rfl (Nat.le_of_ble_eq_true rfl) ?_
  intro p e R s m args below meth c A Q ls hx hb hml hRf hRl hts hown hP hK hD hA hS hG hl hret
  have hl : lv_has ls 6 [(0, .long x0), (2, .long x1), (4, .long x2)] := hl
  have hown : s.vm.findClass RX5 = some m.cls := hown
  have hcs : 0 ≤ R.cells ∧ 0 ≤ R.slots := ⟨Nat.zero_le _, Nat.zero_le _⟩
  unfold zf_X5_in at hf
  refine lv_lload_n hx hb dX5_in_0 rfl (lv_at hl 0 rfl) ?_
  refine lv_lload_n hx hb dX5_in_1 rfl (lv_at hl 1 rfl) ?_
  refine W.lcmp hx hb dX5_in_2 ?_
  refine lv_if_lt (tgt := 17) hx hb dX5_in_3 (by decide) (fun c2 => ?_) (fun c2 => ?_)
  · have hf := zk_t c2 hf
    refine lv_iconst (v := (0 : Int32)) hx hb dX5_in_17 (by decide) ?_
    obtain rfl := Option.some.inj hf
    exact hret rfl _ _ _ _ hP hD hS dX5_in_18
  · have hf := zk_f c2 hf
    refine lv_lload_n hx hb dX5_in_6 rfl (lv_at hl 0 rfl) ?_
    refine lv_lload hx hb dX5_in_7 (lv_at hl 2 rfl) ?_
    refine W.lcmp hx hb dX5_in_9 ?_
    refine lv_if_gt (tgt := 17) hx hb dX5_in_10 (by decide) (fun c1 => ?_) (fun c1 => ?_)
    · have hf := zk_t c1 hf
      refine lv_iconst (v := (0 : Int32)) hx hb dX5_in_17 (by decide) ?_
      obtain rfl := Option.some.inj hf
      exact hret rfl _ _ _ _ hP hD hS dX5_in_18
    · have hf := zk_f c1 hf
      refine lv_iconst (v := (1 : Int32)) hx hb dX5_in_13 (by decide) ?_
      refine lv_goto (tgt := 18) hx hb dX5_in_14 (by decide) ?_
      obtain rfl := Option.some.inj hf
      exact hret rfl _ _ _ _ hP hD hS dX5_in_18
def zf_X5_has (x0 : Int64) (x1 : Int32) : Option (Int32) :=
  if (lg_cmp ((x0 >>> (x1.toInt64 &&& 63)) &&& (1 : Int64)) (1 : Int64)) = 0 then
  some (1 : Int32)
  else
  some (0 : Int32)
theorem hd_X5_has : yX5_has.cls ≠ "java/lang/invoke/MethodHandle" ∧ yX5_has.cls ≠ "java/lang/invoke/VarHandle" ∧ (parseMethodDescriptor yX5_has.desc).map (fun d => d.parameters.length) = some 2 := by decide +kernel
set_option maxHeartbeats 4000000 in
set_option maxRecDepth 100000 in
theorem zc_X5_has (l : Launch) (D : va_G) (tL tO : Nat) (cI cJ cB cQ : ClassId) (x0 : Int64) (x1 : Int32) (z : Int32) (hf : zf_X5_has x0 x1 = some z) : zk_CT l D tL tO (zk_ty cI cJ cB cQ) yX5_has wsX5_has 0 0 [.long x0, .int x1] (some (.int z)) [] [] := by
  refine zk_of_z (cc := cX5_has) (maxL := 3) (by decide) rfl (Nat.le_of_ble_eq_true rfl) ?_
  intro p e R s m args below meth c A Q ls hx hb hml hRf hRl hts hown hP hK hD hA hS hG hl hret
  have hl : lv_has ls 3 [(0, .long x0), (2, .int x1)] := hl
  have hown : s.vm.findClass RX5 = some m.cls := hown
  have hcs : 0 ≤ R.cells ∧ 0 ≤ R.slots := ⟨Nat.zero_le _, Nat.zero_le _⟩
  unfold zf_X5_has at hf
  refine lv_lload_n hx hb dX5_has_0 rfl (lv_at hl 0 rfl) ?_
  refine lv_iload_n hx hb dX5_has_1 rfl (lv_at hl 1 rfl) ?_
  refine lv_lshr hx hb dX5_has_2 rfl ?_
  refine lv_lconst (v := (1 : Int64)) hx hb dX5_has_3 (by decide) ?_
  refine lv_land hx hb dX5_has_4 ?_
  refine lv_lconst (v := (1 : Int64)) hx hb dX5_has_5 (by decide) ?_
  refine W.lcmp hx hb dX5_has_6 ?_
  refine lv_if_ne (tgt := 14) hx hb dX5_has_7 (by decide) (fun c1 => ?_) (fun c1 => ?_)
  · have hf := zk_f c1 hf
    refine lv_iconst (v := (0 : Int32)) hx hb dX5_has_14 (by decide) ?_
    obtain rfl := Option.some.inj hf
    exact hret rfl _ _ _ _ hP hD hS dX5_has_15
  · have hf := zk_t c1 hf
    refine lv_iconst (v := (1 : Int32)) hx hb dX5_has_10 (by decide) ?_
    refine lv_goto (tgt := 15) hx hb dX5_has_11 (by decide) ?_
    obtain rfl := Option.some.inj hf
    exact hret rfl _ _ _ _ hP hD hS dX5_has_15
def zl_X5_many_4 (x0 : Int64) : Nat → (Int32) → (Int32) → Option (Int32 × Int32)
  | 0, _, _ => none
  | n + 1, w1, w2 =>
    if (64 : Int32) ≤ w2 then
    some (w1, w2)
    else
    (zf_X5_has x0 w2).bind (fun v3 =>
    if v3 = 0 then
    zk_lt (w1 + (0 : Int32)) (fun y4 =>
    zk_lt (w2 + 1) (fun y5 =>
    zl_X5_many_4 x0 n y4 y5))
    else
    zk_lt (w1 + (1 : Int32)) (fun y6 =>
    zk_lt (w2 + 1) (fun y7 =>
    zl_X5_many_4 x0 n y6 y7)))
def zf_X5_many (x0 : Int64) : Option (Int32) :=
  (zl_X5_many_4 x0 zk_F (0 : Int32) (0 : Int32)).bind (fun v10 =>
  some v10.1)
theorem hd_X5_many : yX5_many.cls ≠ "java/lang/invoke/MethodHandle" ∧ yX5_many.cls ≠ "java/lang/invoke/VarHandle" ∧ (parseMethodDescriptor yX5_many.desc).map (fun d => d.parameters.length) = some 1 := by decide +kernel
set_option maxHeartbeats 4000000 in
set_option maxRecDepth 100000 in
theorem zc_X5_many (l : Launch) (D : va_G) (tL tO : Nat) (cI cJ cB cQ : ClassId) (x0 : Int64) (z : Int32) (hf : zf_X5_many x0 = some z) : zk_CT l D tL tO (zk_ty cI cJ cB cQ) yX5_many wsX5_many 1 22 [.long x0] (some (.int z)) [] [] := by
  refine zk_of_i (cc := cX5_many) (maxL := 4) (by decide) rfl (Nat.le_of_ble_eq_true rfl) ?_
  intro p e R s m args below meth c A Q ls hx hb hml hRf hRl hts hown hP hK hD hA hS hG hl hret
  have hl : lv_has ls 4 [(0, .long x0)] := hl
  have hown : s.vm.findClass RX5 = some m.cls := hown
  have hcs : 0 ≤ R.cells ∧ 0 ≤ R.slots := ⟨Nat.zero_le _, Nat.zero_le _⟩
  unfold zf_X5_many at hf
  refine lv_iconst (v := (0 : Int32)) hx hb dX5_many_0 (by decide) ?_
  refine lv_istore_n (lv' := [(2, .int (0 : Int32)), (0, .long x0)]) hx hb dX5_many_1 rfl hl (by decide) rfl (fun ls hl => ?_)
  refine lv_iconst (v := (0 : Int32)) hx hb dX5_many_2 (by decide) ?_
  refine lv_istore_n (lv' := [(3, .int (0 : Int32)), (2, .int (0 : Int32)), (0, .long x0)]) hx hb dX5_many_3 rfl hl (by decide) rfl (fun ls hl => ?_)
  have lp4 : ∀ (n : Nat) (w1 : Int32) (w2 : Int32) (z4 : Int32 × Int32) (H : Heap) (locs : List Loc) (ls : Array Slot), zl_X5_many_4 x0 n w1 w2 = some z4 → va_P D vwCl [] H → va_D A [] → va_S A s.heap H locs → lv_has ls 4 [(0, .long x0), (2, .int w1), (3, .int w2)] → (∀ (H : Heap) (locs : List Loc) (ls : Array Slot), va_P D vwCl [] H → va_D A [] → va_S A s.heap H locs → lv_has ls 4 [(0, .long x0), (2, .int z4.1), (3, .int z4.2)] → W p l e R s m args below meth c H locs 0 0 Q (F0 m 32 ls [])) → W p l e R s m args below meth c H locs 0 0 Q (F0 m 4 ls []) := by
    intro n
    induction n with
    | zero => intro w1 w2 z4 H locs ls hf; exact absurd (show none = some z4 from hf) (by simp)
    | succ n ih =>
      intro w1 w2 z4 H locs ls hf hP hD hS hl hk
      rw [zl_X5_many_4] at hf
      refine lv_iload_n hx hb dX5_many_4 rfl (lv_at hl 2 rfl) ?_
      refine lv_bipush (v := (64 : Int32)) hx hb dX5_many_5 (by decide) ?_
      refine lv_icmp_ge (tgt := 32) hx hb dX5_many_7 (by decide) (fun c9 => ?_) (fun c9 => ?_)
      · have hf := zk_t c9 hf
        obtain rfl := Option.some.inj hf
        exact hk _ _ _ hP hD hS (lv_sub hl [0, 1, 2] rfl)
      · have hf := zk_f c9 hf
        refine lv_iload_n hx hb dX5_many_10 rfl (lv_at hl 1 rfl) ?_
        refine lv_lload_n hx hb dX5_many_11 rfl (lv_at hl 0 rfl) ?_
        refine lv_iload_n hx hb dX5_many_12 rfl (lv_at hl 2 rfl) ?_
        obtain ⟨v3, hv3, hf⟩ := zk_ob hf
        refine zk_goR (zk_S (As := [.long x0, .int w2]) (rest := [.int w1]) hx hb hml hown hts hK hG hP hD hS hA gX5_many_X5_has rfl hd_X5_has (Nat.le_trans (Nat.le_of_ble_eq_true rfl) hRf) (Nat.le_trans (Nat.le_of_ble_eq_true rfl) hRl) hcs (zc_X5_has l D tL tO cI cJ cB cQ x0 w2 v3 hv3) hl.1 rfl rfl (Nat.le_of_ble_eq_true rfl) dX5_many_13 [] rfl rfl) hP hD hS hA [] rfl (fun H locs hP hS => ?_)
        refine lv_if_eq (tgt := 23) hx hb dX5_many_16 (by decide) (fun c8 => ?_) (fun c8 => ?_)
        · have hf := zk_t c8 hf
          refine lv_iconst (v := (0 : Int32)) hx hb dX5_many_23 (by decide) ?_
          refine lv_iadd hx hb dX5_many_24 ?_
          obtain ⟨y4, ey4, hf⟩ := zk_lt_s hf
          refine zk_topi ey4 ?_
          refine lv_istore_n (lv' := [(2, .int y4), (0, .long x0), (3, .int w2)]) hx hb dX5_many_25 rfl hl (by decide) rfl (fun ls hl => ?_)
          obtain ⟨y5, ey5, hf⟩ := zk_lt_s hf
          refine lv_iinc (v := y5) (lv' := [(3, .int y5), (2, .int y4), (0, .long x0)]) hx hb dX5_many_26 hl (k := 2) rfl (by rw [ey5]; rfl) (by decide) rfl (fun ls hl => ?_)
          refine lv_goto (tgt := 4) hx hb dX5_many_29 (by decide) ?_
          exact ih y4 y5 _ _ _ _ hf hP hD hS (lv_sub hl [2, 1, 0] rfl) hk
        · have hf := zk_f c8 hf
          refine lv_iconst (v := (1 : Int32)) hx hb dX5_many_19 (by decide) ?_
          refine lv_goto (tgt := 24) hx hb dX5_many_20 (by decide) ?_
          refine lv_iadd hx hb dX5_many_24 ?_
          obtain ⟨y6, ey6, hf⟩ := zk_lt_s hf
          refine zk_topi ey6 ?_
          refine lv_istore_n (lv' := [(2, .int y6), (0, .long x0), (3, .int w2)]) hx hb dX5_many_25 rfl hl (by decide) rfl (fun ls hl => ?_)
          obtain ⟨y7, ey7, hf⟩ := zk_lt_s hf
          refine lv_iinc (v := y7) (lv' := [(3, .int y7), (2, .int y6), (0, .long x0)]) hx hb dX5_many_26 hl (k := 2) rfl (by rw [ey7]; rfl) (by decide) rfl (fun ls hl => ?_)
          refine lv_goto (tgt := 4) hx hb dX5_many_29 (by decide) ?_
          exact ih y6 y7 _ _ _ _ hf hP hD hS (lv_sub hl [2, 1, 0] rfl) hk
  obtain ⟨v10, hv10, hf⟩ := zk_ob hf
  refine lp4 zk_F (0 : Int32) (0 : Int32) v10 _ _ _ hv10 hP hD hS (lv_sub hl [2, 1, 0] rfl) ?_
  intro H locs ls hP hD hS hl
  refine lv_iload_n hx hb dX5_many_32 rfl (lv_at hl 1 rfl) ?_
  obtain rfl := Option.some.inj hf
  exact hret trivial _ _ _ _ hP hD hS dX5_many_33
def zl_X5_lettered_4 (x0 : Int32) : Nat → (Int64) → (Int32) → Option (Int64 × Int32)
  | 0, _, _ => none
  | n + 1, w1, w2 =>
    if (64 : Int32) ≤ w2 then
    some (w1, w2)
    else
    (zf_X5_has w2.toInt64 x0).bind (fun v3 =>
    if v3 = 0 then
    zk_lt (w1 ||| (0 : Int64)) (fun y4 =>
    zk_lt (w2 + 1) (fun y5 =>
    zl_X5_lettered_4 x0 n y4 y5))
    else
    zk_lt (w1 ||| ((1 : Int64) <<< (w2.toInt64 &&& 63))) (fun y6 =>
    zk_lt (w2 + 1) (fun y7 =>
    zl_X5_lettered_4 x0 n y6 y7)))
def zf_X5_lettered (x0 : Int32) : Option (Int64) :=
  (zl_X5_lettered_4 x0 zk_F (0 : Int64) (0 : Int32)).bind (fun v10 =>
  some v10.1)
theorem hd_X5_lettered : yX5_lettered.cls ≠ "java/lang/invoke/MethodHandle" ∧ yX5_lettered.cls ≠ "java/lang/invoke/VarHandle" ∧ (parseMethodDescriptor yX5_lettered.desc).map (fun d => d.parameters.length) = some 1 := by decide +kernel
set_option maxHeartbeats 4000000 in
set_option maxRecDepth 100000 in
theorem zc_X5_lettered (l : Launch) (D : va_G) (tL tO : Nat) (cI cJ cB cQ : ClassId) (x0 : Int32) (z : Int64) (hf : zf_X5_lettered x0 = some z) : zk_CT l D tL tO (zk_ty cI cJ cB cQ) yX5_lettered wsX5_lettered 1 22 [.int x0] (some (.long z)) [] [] := by
  refine zk_of_l (cc := cX5_lettered) (maxL := 4) (by decide) rfl (Nat.le_of_ble_eq_true rfl) ?_
  intro p e R s m args below meth c A Q ls hx hb hml hRf hRl hts hown hP hK hD hA hS hG hl hret
  have hl : lv_has ls 4 [(0, .int x0)] := hl
  have hown : s.vm.findClass RX5 = some m.cls := hown
  have hcs : 0 ≤ R.cells ∧ 0 ≤ R.slots := ⟨Nat.zero_le _, Nat.zero_le _⟩
  unfold zf_X5_lettered at hf
  refine lv_lconst (v := (0 : Int64)) hx hb dX5_lettered_0 (by decide) ?_
  refine lv_lstore_n (lv' := [(1, .long (0 : Int64)), (0, .int x0)]) hx hb dX5_lettered_1 rfl hl (by decide) rfl (fun ls hl => ?_)
  refine lv_iconst (v := (0 : Int32)) hx hb dX5_lettered_2 (by decide) ?_
  refine lv_istore_n (lv' := [(3, .int (0 : Int32)), (1, .long (0 : Int64)), (0, .int x0)]) hx hb dX5_lettered_3 rfl hl (by decide) rfl (fun ls hl => ?_)
  have lp4 : ∀ (n : Nat) (w1 : Int64) (w2 : Int32) (z4 : Int64 × Int32) (H : Heap) (locs : List Loc) (ls : Array Slot), zl_X5_lettered_4 x0 n w1 w2 = some z4 → va_P D vwCl [] H → va_D A [] → va_S A s.heap H locs → lv_has ls 4 [(0, .int x0), (1, .long w1), (3, .int w2)] → (∀ (H : Heap) (locs : List Loc) (ls : Array Slot), va_P D vwCl [] H → va_D A [] → va_S A s.heap H locs → lv_has ls 4 [(0, .int x0), (1, .long z4.1), (3, .int z4.2)] → W p l e R s m args below meth c H locs 0 0 Q (F0 m 35 ls [])) → W p l e R s m args below meth c H locs 0 0 Q (F0 m 4 ls []) := by
    intro n
    induction n with
    | zero => intro w1 w2 z4 H locs ls hf; exact absurd (show none = some z4 from hf) (by simp)
    | succ n ih =>
      intro w1 w2 z4 H locs ls hf hP hD hS hl hk
      rw [zl_X5_lettered_4] at hf
      refine lv_iload_n hx hb dX5_lettered_4 rfl (lv_at hl 2 rfl) ?_
      refine lv_bipush (v := (64 : Int32)) hx hb dX5_lettered_5 (by decide) ?_
      refine lv_icmp_ge (tgt := 35) hx hb dX5_lettered_7 (by decide) (fun c9 => ?_) (fun c9 => ?_)
      · have hf := zk_t c9 hf
        obtain rfl := Option.some.inj hf
        exact hk _ _ _ hP hD hS (lv_sub hl [0, 1, 2] rfl)
      · have hf := zk_f c9 hf
        refine lv_lload_n hx hb dX5_lettered_10 rfl (lv_at hl 1 rfl) ?_
        refine lv_iload_n hx hb dX5_lettered_11 rfl (lv_at hl 2 rfl) ?_
        refine lv_i2l hx hb dX5_lettered_12 rfl ?_
        refine lv_iload_n hx hb dX5_lettered_13 rfl (lv_at hl 0 rfl) ?_
        obtain ⟨v3, hv3, hf⟩ := zk_ob hf
        refine zk_goR (zk_S (As := [.long w2.toInt64, .int x0]) (rest := [.long w1]) hx hb hml hown hts hK hG hP hD hS hA gX5_lettered_X5_has rfl hd_X5_has (Nat.le_trans (Nat.le_of_ble_eq_true rfl) hRf) (Nat.le_trans (Nat.le_of_ble_eq_true rfl) hRl) hcs (zc_X5_has l D tL tO cI cJ cB cQ w2.toInt64 x0 v3 hv3) hl.1 rfl rfl (Nat.le_of_ble_eq_true rfl) dX5_lettered_14 [] rfl rfl) hP hD hS hA [] rfl (fun H locs hP hS => ?_)
        refine lv_if_eq (tgt := 26) hx hb dX5_lettered_17 (by decide) (fun c8 => ?_) (fun c8 => ?_)
        · have hf := zk_t c8 hf
          refine lv_lconst (v := (0 : Int64)) hx hb dX5_lettered_26 (by decide) ?_
          refine lv_lor hx hb dX5_lettered_27 ?_
          obtain ⟨y4, ey4, hf⟩ := zk_lt_s hf
          refine zk_topl ey4 ?_
          refine lv_lstore_n (lv' := [(1, .long y4), (0, .int x0), (3, .int w2)]) hx hb dX5_lettered_28 rfl hl (by decide) rfl (fun ls hl => ?_)
          obtain ⟨y5, ey5, hf⟩ := zk_lt_s hf
          refine lv_iinc (v := y5) (lv' := [(3, .int y5), (1, .long y4), (0, .int x0)]) hx hb dX5_lettered_29 hl (k := 2) rfl (by rw [ey5]; rfl) (by decide) rfl (fun ls hl => ?_)
          refine lv_goto (tgt := 4) hx hb dX5_lettered_32 (by decide) ?_
          exact ih y4 y5 _ _ _ _ hf hP hD hS (lv_sub hl [2, 1, 0] rfl) hk
        · have hf := zk_f c8 hf
          refine lv_lconst (v := (1 : Int64)) hx hb dX5_lettered_20 (by decide) ?_
          refine lv_iload_n hx hb dX5_lettered_21 rfl (lv_at hl 2 rfl) ?_
          refine lv_lshl hx hb dX5_lettered_22 rfl ?_
          refine lv_goto (tgt := 27) hx hb dX5_lettered_23 (by decide) ?_
          refine lv_lor hx hb dX5_lettered_27 ?_
          obtain ⟨y6, ey6, hf⟩ := zk_lt_s hf
          refine zk_topl ey6 ?_
          refine lv_lstore_n (lv' := [(1, .long y6), (0, .int x0), (3, .int w2)]) hx hb dX5_lettered_28 rfl hl (by decide) rfl (fun ls hl => ?_)
          obtain ⟨y7, ey7, hf⟩ := zk_lt_s hf
          refine lv_iinc (v := y7) (lv' := [(3, .int y7), (1, .long y6), (0, .int x0)]) hx hb dX5_lettered_29 hl (k := 2) rfl (by rw [ey7]; rfl) (by decide) rfl (fun ls hl => ?_)
          refine lv_goto (tgt := 4) hx hb dX5_lettered_32 (by decide) ?_
          exact ih y6 y7 _ _ _ _ hf hP hD hS (lv_sub hl [2, 1, 0] rfl) hk
  obtain ⟨v10, hv10, hf⟩ := zk_ob hf
  refine lp4 zk_F (0 : Int64) (0 : Int32) v10 _ _ _ hv10 hP hD hS (lv_sub hl [2, 1, 0] rfl) ?_
  intro H locs ls hP hD hS hl
  refine lv_lload_n hx hb dX5_lettered_35 rfl (lv_at hl 1 rfl) ?_
  obtain rfl := Option.some.inj hf
  exact hret trivial _ _ _ _ hP hD hS dX5_lettered_36
def zf_X5_isWorld (x0 : Int32) : Option (Int32) :=
  (zf_X5_in x0.toInt64 (0 : Int64) (63 : Int64)).bind (fun v1 =>
  zk_gd (zk_b v1) (some v1))
theorem hd_X5_isWorld : yX5_isWorld.cls ≠ "java/lang/invoke/MethodHandle" ∧ yX5_isWorld.cls ≠ "java/lang/invoke/VarHandle" ∧ (parseMethodDescriptor yX5_isWorld.desc).map (fun d => d.parameters.length) = some 1 := by decide +kernel
set_option maxHeartbeats 4000000 in
set_option maxRecDepth 100000 in
theorem zc_X5_isWorld (l : Launch) (D : va_G) (tL tO : Nat) (cI cJ cB cQ : ClassId) (x0 : Int32) (z : Int32) (hf : zf_X5_isWorld x0 = some z) : zk_CT l D tL tO (zk_ty cI cJ cB cQ) yX5_isWorld wsX5_isWorld 1 25 [.int x0] (some (.int z)) [] [] := by
  refine zk_of_z (cc := cX5_isWorld) (maxL := 1) (by decide) rfl (Nat.le_of_ble_eq_true rfl) ?_
  intro p e R s m args below meth c A Q ls hx hb hml hRf hRl hts hown hP hK hD hA hS hG hl hret
  have hl : lv_has ls 1 [(0, .int x0)] := hl
  have hown : s.vm.findClass RX5 = some m.cls := hown
  have hcs : 0 ≤ R.cells ∧ 0 ≤ R.slots := ⟨Nat.zero_le _, Nat.zero_le _⟩
  have lk0 := hts (.constantLong RX5 145 (63)) (by decide +kernel)
  unfold zf_X5_isWorld at hf
  refine lv_iload_n hx hb dX5_isWorld_0 rfl (lv_at hl 0 rfl) ?_
  refine lv_i2l hx hb dX5_isWorld_1 rfl ?_
  refine lv_lconst (v := (0 : Int64)) hx hb dX5_isWorld_2 (by decide) ?_
  refine lv_ldc2 hx hb hown lk0 dX5_isWorld_3 ?_
  obtain ⟨v1, hv1, hf⟩ := zk_ob hf
  refine zk_goR (zk_S (As := [.long x0.toInt64, .long (0 : Int64), .long (63 : Int64)]) (rest := []) hx hb hml hown hts hK hG hP hD hS hA gX5_isWorld_X5_in rfl hd_X5_in (Nat.le_trans (Nat.le_of_ble_eq_true rfl) hRf) (Nat.le_trans (Nat.le_of_ble_eq_true rfl) hRl) hcs (zc_X5_in l D tL tO cI cJ cB cQ x0.toInt64 (0 : Int64) (63 : Int64) v1 hv1) hl.1 rfl rfl (Nat.le_of_ble_eq_true rfl) dX5_isWorld_6 [] rfl rfl) hP hD hS hA [] rfl (fun H locs hP hS => ?_)
  obtain ⟨g2, hf⟩ := zk_gd_s hf
  obtain rfl := Option.some.inj hf
  exact hret (zk_b_s g2).1 _ _ _ _ hP hD hS dX5_isWorld_9
def zl_X5_orders_4 (x0 : Int32) : Nat → (Int32) → (Int32) → Option (Int32 × Int32)
  | 0, _, _ => none
  | n + 1, w1, w2 =>
    if x0 < w2 then
    some (w1, w2)
    else
    zk_lt (w1 * w2) (fun y3 =>
    zk_lt (w2 + 1) (fun y4 =>
    zl_X5_orders_4 x0 n y3 y4))
def zf_X5_orders (x0 : Int32) : Option (Int32) :=
  (zl_X5_orders_4 x0 zk_F (1 : Int32) (2 : Int32)).bind (fun v6 =>
  some v6.1)
theorem hd_X5_orders : yX5_orders.cls ≠ "java/lang/invoke/MethodHandle" ∧ yX5_orders.cls ≠ "java/lang/invoke/VarHandle" ∧ (parseMethodDescriptor yX5_orders.desc).map (fun d => d.parameters.length) = some 1 := by decide +kernel
set_option maxHeartbeats 4000000 in
set_option maxRecDepth 100000 in
theorem zc_X5_orders (l : Launch) (D : va_G) (tL tO : Nat) (cI cJ cB cQ : ClassId) (x0 : Int32) (z : Int32) (hf : zf_X5_orders x0 = some z) : zk_CT l D tL tO (zk_ty cI cJ cB cQ) yX5_orders wsX5_orders 0 0 [.int x0] (some (.int z)) [] [] := by
  refine zk_of_i (cc := cX5_orders) (maxL := 3) (by decide) rfl (Nat.le_of_ble_eq_true rfl) ?_
  intro p e R s m args below meth c A Q ls hx hb hml hRf hRl hts hown hP hK hD hA hS hG hl hret
  have hl : lv_has ls 3 [(0, .int x0)] := hl
  have hown : s.vm.findClass RX5 = some m.cls := hown
  have hcs : 0 ≤ R.cells ∧ 0 ≤ R.slots := ⟨Nat.zero_le _, Nat.zero_le _⟩
  unfold zf_X5_orders at hf
  refine lv_iconst (v := (1 : Int32)) hx hb dX5_orders_0 (by decide) ?_
  refine lv_istore_n (lv' := [(1, .int (1 : Int32)), (0, .int x0)]) hx hb dX5_orders_1 rfl hl (by decide) rfl (fun ls hl => ?_)
  refine lv_iconst (v := (2 : Int32)) hx hb dX5_orders_2 (by decide) ?_
  refine lv_istore_n (lv' := [(2, .int (2 : Int32)), (1, .int (1 : Int32)), (0, .int x0)]) hx hb dX5_orders_3 rfl hl (by decide) rfl (fun ls hl => ?_)
  have lp4 : ∀ (n : Nat) (w1 : Int32) (w2 : Int32) (z4 : Int32 × Int32) (H : Heap) (locs : List Loc) (ls : Array Slot), zl_X5_orders_4 x0 n w1 w2 = some z4 → va_P D vwCl [] H → va_D A [] → va_S A s.heap H locs → lv_has ls 3 [(0, .int x0), (1, .int w1), (2, .int w2)] → (∀ (H : Heap) (locs : List Loc) (ls : Array Slot), va_P D vwCl [] H → va_D A [] → va_S A s.heap H locs → lv_has ls 3 [(0, .int x0), (1, .int z4.1), (2, .int z4.2)] → W p l e R s m args below meth c H locs 0 0 Q (F0 m 19 ls [])) → W p l e R s m args below meth c H locs 0 0 Q (F0 m 4 ls []) := by
    intro n
    induction n with
    | zero => intro w1 w2 z4 H locs ls hf; exact absurd (show none = some z4 from hf) (by simp)
    | succ n ih =>
      intro w1 w2 z4 H locs ls hf hP hD hS hl hk
      rw [zl_X5_orders_4] at hf
      refine lv_iload_n hx hb dX5_orders_4 rfl (lv_at hl 2 rfl) ?_
      refine lv_iload_n hx hb dX5_orders_5 rfl (lv_at hl 0 rfl) ?_
      refine lv_icmp_gt (tgt := 19) hx hb dX5_orders_6 (by decide) (fun c5 => ?_) (fun c5 => ?_)
      · have hf := zk_t c5 hf
        obtain rfl := Option.some.inj hf
        exact hk _ _ _ hP hD hS (lv_sub hl [0, 1, 2] rfl)
      · have hf := zk_f c5 hf
        refine lv_iload_n hx hb dX5_orders_9 rfl (lv_at hl 1 rfl) ?_
        refine lv_iload_n hx hb dX5_orders_10 rfl (lv_at hl 2 rfl) ?_
        refine lv_imul hx hb dX5_orders_11 ?_
        obtain ⟨y3, ey3, hf⟩ := zk_lt_s hf
        refine zk_topi ey3 ?_
        refine lv_istore_n (lv' := [(1, .int y3), (0, .int x0), (2, .int w2)]) hx hb dX5_orders_12 rfl hl (by decide) rfl (fun ls hl => ?_)
        obtain ⟨y4, ey4, hf⟩ := zk_lt_s hf
        refine lv_iinc (v := y4) (lv' := [(2, .int y4), (1, .int y3), (0, .int x0)]) hx hb dX5_orders_13 hl (k := 2) rfl (by rw [ey4]; rfl) (by decide) rfl (fun ls hl => ?_)
        refine lv_goto (tgt := 4) hx hb dX5_orders_16 (by decide) ?_
        exact ih y3 y4 _ _ _ _ hf hP hD hS (lv_sub hl [2, 1, 0] rfl) hk
  obtain ⟨v6, hv6, hf⟩ := zk_ob hf
  refine lp4 zk_F (1 : Int32) (2 : Int32) v6 _ _ _ hv6 hP hD hS (lv_sub hl [2, 1, 0] rfl) ?_
  intro H locs ls hP hD hS hl
  refine lv_iload_n hx hb dX5_orders_19 rfl (lv_at hl 1 rfl) ?_
  obtain rfl := Option.some.inj hf
  exact hret trivial _ _ _ _ hP hD hS dX5_orders_20
