def zf_X4_isSayer (x0 : Int32) (v_td_sayers : Int32) : Option (Int32) :=
  if x0 < 0 then
  some (0 : Int32)
  else
  if v_td_sayers ≤ x0 then
  some (0 : Int32)
  else
  some (1 : Int32)
theorem hd_X4_isSayer : yX4_isSayer.cls = RX4 ∧ yX4_isSayer.cls ≠ "java/lang/invoke/MethodHandle" ∧ yX4_isSayer.cls ≠ "java/lang/invoke/VarHandle" ∧ (parseMethodDescriptor yX4_isSayer.desc).map (fun d => d.parameters.length) = some 1 := by decide +kernel
set_option maxHeartbeats 4000000 in
set_option maxRecDepth 100000 in
theorem zc_X4_isSayer (l : Launch) (D : va_G) (tL tO : Nat) (cI cJ cB cQ : ClassId) (a_sm a_tx a_rd a_td a_sp a_ds a_sm_fars a_sm_common a_sm_others a_sm_scale a_td_says a_td_weights : Nat) (x0 : Int32) (v_sm_asked : Int64) (v_sm_traced : Int64) (v_td_laws : Int32) (v_td_there : Int64) (v_td_sayers : Int32) (z : Int32) (hf : zf_X4_isSayer x0 v_td_sayers = some z) : zk_CT l D tL tO (zk_ty cI cJ cB cQ) yX4_isSayer wsX4_isSayer 0 0 [.ref a_sm, .int x0] (some (.int z)) [(a_sm, .inr (4, [.ref a_tx, .ref a_rd, .ref a_td, .ref a_sp, .long v_sm_asked, .ref a_ds, .ref a_sm_fars, .ref a_sm_common, .ref a_sm_others, .ref a_sm_scale, .long v_sm_traced])), (a_td, .inr (3, [.int v_td_laws, .long v_td_there, .int v_td_sayers, .ref a_td_says, .ref a_td_weights]))] [(a_sm, .inr (4, [.ref a_tx, .ref a_rd, .ref a_td, .ref a_sp, .long v_sm_asked, .ref a_ds, .ref a_sm_fars, .ref a_sm_common, .ref a_sm_others, .ref a_sm_scale, .long v_sm_traced])), (a_td, .inr (3, [.int v_td_laws, .long v_td_there, .int v_td_sayers, .ref a_td_says, .ref a_td_weights]))] := by
  refine zk_of_z (cc := cX4_isSayer) (maxL := 2) (by decide) rfl (Nat.le_of_ble_eq_true rfl) ?_
  intro p e R s m args below meth c A Q ls hx hb hml hRf hRl hts hown hP hK hD hA hS hG hl hret
  have hl : lv_has ls 2 [(0, .ref a_sm), (1, .int x0)] := hl
  have hown : s.vm.findClass RX4 = some m.cls := hown
  have hcs : 0 ≤ R.cells ∧ 0 ≤ R.slots := ⟨Nat.zero_le _, Nat.zero_le _⟩
  have lk0 := hts (.fieldLink RX4 28 "SayingsMerged" "told" "LSayingsMerged$Told;") (by decide +kernel)
  have inX4 : ∀ w ∈ wsX40, w ∈ wsX4_isSayer := by decide +kernel
  have lk2 : (Cond.fieldLinkNest RX4 94 "SayingsMerged$Told" "sayers" "I" "SayingsMerged").before args s = true := va_Nw.use rfl (hG.1 _ (by decide +kernel))
  have inX3 : ∀ w ∈ wsX30, w ∈ wsX4_isSayer := by decide +kernel
  unfold zf_X4_isSayer at hf
  refine lv_iload_n hx hb dX4_isSayer_0 rfl (lv_at hl 1 rfl) ?_
  refine lv_if_lt (tgt := 19) hx hb dX4_isSayer_1 (by decide) (fun c2 => ?_) (fun c2 => ?_)
  · have hf := zk_t c2 hf
    refine lv_iconst (v := (0 : Int32)) hx hb dX4_isSayer_19 (by decide) ?_
    obtain rfl := Option.some.inj hf
    exact hret rfl _ _ _ _ hP hD hS dX4_isSayer_20
  · have hf := zk_f c2 hf
    refine lv_iload_n hx hb dX4_isSayer_4 rfl (lv_at hl 1 rfl) ?_
    refine lv_aload_n hx hb dX4_isSayer_5 rfl (lv_at hl 0 rfl) ?_
    refine va_get (ci := 4) (v := .ref a_td) (C := RX4) (T := TX4) (N := 11) hx hb hts inX4 hown hK hP 0 rfl rfl 2 (by decide) lk0 (fun _ h9 => h9) rfl dX4_isSayer_6 ?_
    refine va_getN (ci := 3) (v := .int v_td_sayers) (C := RX3) (T := TX3) (N := 5) hx hb hts inX3 hown hK hP 1 rfl rfl 2 (by decide) lk2 (fun _ h9 => h9) rfl dX4_isSayer_9 ?_
    refine lv_icmp_ge (tgt := 19) hx hb dX4_isSayer_12 (by decide) (fun c1 => ?_) (fun c1 => ?_)
    · have hf := zk_t c1 hf
      refine lv_iconst (v := (0 : Int32)) hx hb dX4_isSayer_19 (by decide) ?_
      obtain rfl := Option.some.inj hf
      exact hret rfl _ _ _ _ hP hD hS dX4_isSayer_20
    · have hf := zk_f c1 hf
      refine lv_iconst (v := (1 : Int32)) hx hb dX4_isSayer_15 (by decide) ?_
      refine lv_goto (tgt := 20) hx hb dX4_isSayer_16 (by decide) ?_
      obtain rfl := Option.some.inj hf
      exact hret rfl _ _ _ _ hP hD hS dX4_isSayer_20
def zf_X4_setsOfSayers (v_td_sayers : Int32) : Option (Int32) :=
  some ((1 : Int32) <<< (v_td_sayers &&& 31))
theorem hd_X4_setsOfSayers : yX4_setsOfSayers.cls = RX4 ∧ yX4_setsOfSayers.cls ≠ "java/lang/invoke/MethodHandle" ∧ yX4_setsOfSayers.cls ≠ "java/lang/invoke/VarHandle" ∧ (parseMethodDescriptor yX4_setsOfSayers.desc).map (fun d => d.parameters.length) = some 0 := by decide +kernel
set_option maxHeartbeats 4000000 in
set_option maxRecDepth 100000 in
theorem zc_X4_setsOfSayers (l : Launch) (D : va_G) (tL tO : Nat) (cI cJ cB cQ : ClassId) (a_sm a_tx a_rd a_td a_sp a_ds a_sm_fars a_sm_common a_sm_others a_sm_scale a_td_says a_td_weights : Nat) (v_sm_asked : Int64) (v_sm_traced : Int64) (v_td_laws : Int32) (v_td_there : Int64) (v_td_sayers : Int32) (z : Int32) (hf : zf_X4_setsOfSayers v_td_sayers = some z) : zk_CT l D tL tO (zk_ty cI cJ cB cQ) yX4_setsOfSayers wsX4_setsOfSayers 0 0 [.ref a_sm] (some (.int z)) [(a_sm, .inr (4, [.ref a_tx, .ref a_rd, .ref a_td, .ref a_sp, .long v_sm_asked, .ref a_ds, .ref a_sm_fars, .ref a_sm_common, .ref a_sm_others, .ref a_sm_scale, .long v_sm_traced])), (a_td, .inr (3, [.int v_td_laws, .long v_td_there, .int v_td_sayers, .ref a_td_says, .ref a_td_weights]))] [(a_sm, .inr (4, [.ref a_tx, .ref a_rd, .ref a_td, .ref a_sp, .long v_sm_asked, .ref a_ds, .ref a_sm_fars, .ref a_sm_common, .ref a_sm_others, .ref a_sm_scale, .long v_sm_traced])), (a_td, .inr (3, [.int v_td_laws, .long v_td_there, .int v_td_sayers, .ref a_td_says, .ref a_td_weights]))] := by
  refine zk_of_i (cc := cX4_setsOfSayers) (maxL := 1) (by decide) rfl (Nat.le_of_ble_eq_true rfl) ?_
  intro p e R s m args below meth c A Q ls hx hb hml hRf hRl hts hown hP hK hD hA hS hG hl hret
  have hl : lv_has ls 1 [(0, .ref a_sm)] := hl
  have hown : s.vm.findClass RX4 = some m.cls := hown
  have hcs : 0 ≤ R.cells ∧ 0 ≤ R.slots := ⟨Nat.zero_le _, Nat.zero_le _⟩
  have lk0 := hts (.fieldLink RX4 28 "SayingsMerged" "told" "LSayingsMerged$Told;") (by decide +kernel)
  have inX4 : ∀ w ∈ wsX40, w ∈ wsX4_setsOfSayers := by decide +kernel
  have lk2 : (Cond.fieldLinkNest RX4 94 "SayingsMerged$Told" "sayers" "I" "SayingsMerged").before args s = true := va_Nw.use rfl (hG.1 _ (by decide +kernel))
  have inX3 : ∀ w ∈ wsX30, w ∈ wsX4_setsOfSayers := by decide +kernel
  unfold zf_X4_setsOfSayers at hf
  refine lv_iconst (v := (1 : Int32)) hx hb dX4_setsOfSayers_0 (by decide) ?_
  refine lv_aload_n hx hb dX4_setsOfSayers_1 rfl (lv_at hl 0 rfl) ?_
  refine va_get (ci := 4) (v := .ref a_td) (C := RX4) (T := TX4) (N := 11) hx hb hts inX4 hown hK hP 0 rfl rfl 2 (by decide) lk0 (fun _ h9 => h9) rfl dX4_setsOfSayers_2 ?_
  refine va_getN (ci := 3) (v := .int v_td_sayers) (C := RX3) (T := TX3) (N := 5) hx hb hts inX3 hown hK hP 1 rfl rfl 2 (by decide) lk2 (fun _ h9 => h9) rfl dX4_setsOfSayers_5 ?_
  refine lv_ishl hx hb dX4_setsOfSayers_8 ?_
  obtain rfl := Option.some.inj hf
  exact hret trivial _ _ _ _ hP hD hS dX4_setsOfSayers_9
def zf_X4_isQuarrel (x0 : Int32) (f_sm_common : Nat → Int64) : Option (Int32) :=
  zk_gd (zk_in x0 128)
  (if (lg_cmp (f_sm_common x0.toNatClampNeg) (0 : Int64)) = 0 then
  some (1 : Int32)
  else
  some (0 : Int32))
theorem hd_X4_isQuarrel : yX4_isQuarrel.cls = RX4 ∧ yX4_isQuarrel.cls ≠ "java/lang/invoke/MethodHandle" ∧ yX4_isQuarrel.cls ≠ "java/lang/invoke/VarHandle" ∧ (parseMethodDescriptor yX4_isQuarrel.desc).map (fun d => d.parameters.length) = some 1 := by decide +kernel
set_option maxHeartbeats 4000000 in
set_option maxRecDepth 100000 in
theorem zc_X4_isQuarrel (l : Launch) (D : va_G) (tL tO : Nat) (cI cJ cB cQ : ClassId) (a_sm a_tx a_rd a_td a_sp a_ds a_sm_fars a_sm_common a_sm_others a_sm_scale : Nat) (x0 : Int32) (v_sm_asked : Int64) (v_sm_traced : Int64) (f_sm_common : Nat → Int64) (z : Int32) (hf : zf_X4_isQuarrel x0 f_sm_common = some z) : zk_CT l D tL tO (zk_ty cI cJ cB cQ) yX4_isQuarrel wsX4_isQuarrel 0 0 [.ref a_sm, .int x0] (some (.int z)) [(a_sm, .inr (4, [.ref a_tx, .ref a_rd, .ref a_td, .ref a_sp, .long v_sm_asked, .ref a_ds, .ref a_sm_fars, .ref a_sm_common, .ref a_sm_others, .ref a_sm_scale, .long v_sm_traced])), (a_sm_common, .inl (cJ, 128, .inr (.inl f_sm_common)))] [(a_sm, .inr (4, [.ref a_tx, .ref a_rd, .ref a_td, .ref a_sp, .long v_sm_asked, .ref a_ds, .ref a_sm_fars, .ref a_sm_common, .ref a_sm_others, .ref a_sm_scale, .long v_sm_traced])), (a_sm_common, .inl (cJ, 128, .inr (.inl f_sm_common)))] := by
  refine zk_of_z (cc := cX4_isQuarrel) (maxL := 2) (by decide) rfl (Nat.le_of_ble_eq_true rfl) ?_
  intro p e R s m args below meth c A Q ls hx hb hml hRf hRl hts hown hP hK hD hA hS hG hl hret
  have hl : lv_has ls 2 [(0, .ref a_sm), (1, .int x0)] := hl
  have hown : s.vm.findClass RX4 = some m.cls := hown
  have hcs : 0 ≤ R.cells ∧ 0 ≤ R.slots := ⟨Nat.zero_le _, Nat.zero_le _⟩
  have lk0 := hts (.fieldLink RX4 53 "SayingsMerged" "common" "[J") (by decide +kernel)
  have inX4 : ∀ w ∈ wsX40, w ∈ wsX4_isQuarrel := by decide +kernel
  unfold zf_X4_isQuarrel at hf
  refine lv_aload_n hx hb dX4_isQuarrel_0 rfl (lv_at hl 0 rfl) ?_
  refine va_get (ci := 4) (v := .ref a_sm_common) (C := RX4) (T := TX4) (N := 11) hx hb hts inX4 hown hK hP 0 rfl rfl 7 (by decide) lk0 (fun _ h9 => h9) rfl dX4_isQuarrel_1 ?_
  refine lv_iload_n hx hb dX4_isQuarrel_4 rfl (lv_at hl 1 rfl) ?_
  obtain ⟨g1, hf⟩ := zk_gd_s hf
  refine va_lald hx hb hK hP 1 1 rfl rfl (zk_in_s g1) dX4_isQuarrel_5 ?_
  refine lv_lconst (v := (0 : Int64)) hx hb dX4_isQuarrel_6 (by decide) ?_
  refine W.lcmp hx hb dX4_isQuarrel_7 ?_
  refine lv_if_ne (tgt := 15) hx hb dX4_isQuarrel_8 (by decide) (fun c2 => ?_) (fun c2 => ?_)
  · have hf := zk_f c2 hf
    refine lv_iconst (v := (0 : Int32)) hx hb dX4_isQuarrel_15 (by decide) ?_
    obtain rfl := Option.some.inj hf
    exact hret rfl _ _ _ _ hP hD hS dX4_isQuarrel_16
  · have hf := zk_t c2 hf
    refine lv_iconst (v := (1 : Int32)) hx hb dX4_isQuarrel_11 (by decide) ?_
    refine lv_goto (tgt := 16) hx hb dX4_isQuarrel_12 (by decide) ?_
    obtain rfl := Option.some.inj hf
    exact hret rfl _ _ _ _ hP hD hS dX4_isQuarrel_16
def zl_X4_isLeastQuarrel_12 (x0 : Int32) (v_td_sayers : Int32) (f_sm_common : Nat → Int64) : Nat → (Int32) → Option ((Int32) ⊕ (Int32))
  | 0, _ => none
  | n + 1, w2 =>
    if v_td_sayers ≤ w2 then
    some (Sum.inl w2)
    else
    if (x0 &&& ((1 : Int32) <<< (w2 &&& 31))) = 0 then
    zk_lt (w2 + 1) (fun y3 =>
    zl_X4_isLeastQuarrel_12 x0 v_td_sayers f_sm_common n y3)
    else
    (zf_X4_isQuarrel (x0 &&& (((1 : Int32) <<< (w2 &&& 31)) ^^^ (-1 : Int32))) f_sm_common).bind (fun v4 =>
    if v4 = 0 then
    zk_lt (w2 + 1) (fun y5 =>
    zl_X4_isLeastQuarrel_12 x0 v_td_sayers f_sm_common n y5)
    else
    some (Sum.inr (0 : Int32)))
def zf_X4_isLeastQuarrel (x0 : Int32) (v_td_sayers : Int32) (f_sm_common : Nat → Int64) : Option (Int32) :=
  (zf_X4_isQuarrel x0 f_sm_common).bind (fun v1 =>
  if v1 = 0 then
  some (0 : Int32)
  else
  (zl_X4_isLeastQuarrel_12 x0 v_td_sayers f_sm_common zk_F (0 : Int32)).bind (fun v9 =>
  zk_su v9
  (fun u10 =>
  some (1 : Int32))
  (fun r11 => some r11)))
theorem hd_X4_isLeastQuarrel : yX4_isLeastQuarrel.cls = RX4 ∧ yX4_isLeastQuarrel.cls ≠ "java/lang/invoke/MethodHandle" ∧ yX4_isLeastQuarrel.cls ≠ "java/lang/invoke/VarHandle" ∧ (parseMethodDescriptor yX4_isLeastQuarrel.desc).map (fun d => d.parameters.length) = some 1 := by decide +kernel
set_option maxHeartbeats 4000000 in
set_option maxRecDepth 100000 in
theorem zc_X4_isLeastQuarrel (l : Launch) (D : va_G) (tL tO : Nat) (cI cJ cB cQ : ClassId) (a_sm a_tx a_rd a_td a_sp a_ds a_sm_fars a_sm_common a_sm_others a_sm_scale a_td_says a_td_weights : Nat) (x0 : Int32) (v_sm_asked : Int64) (v_sm_traced : Int64) (v_td_laws : Int32) (v_td_there : Int64) (v_td_sayers : Int32) (f_sm_common : Nat → Int64) (z : Int32) (hf : zf_X4_isLeastQuarrel x0 v_td_sayers f_sm_common = some z) : zk_CT l D tL tO (zk_ty cI cJ cB cQ) yX4_isLeastQuarrel wsX4_isLeastQuarrel 1 21 [.ref a_sm, .int x0] (some (.int z)) [(a_sm, .inr (4, [.ref a_tx, .ref a_rd, .ref a_td, .ref a_sp, .long v_sm_asked, .ref a_ds, .ref a_sm_fars, .ref a_sm_common, .ref a_sm_others, .ref a_sm_scale, .long v_sm_traced])), (a_td, .inr (3, [.int v_td_laws, .long v_td_there, .int v_td_sayers, .ref a_td_says, .ref a_td_weights])), (a_sm_common, .inl (cJ, 128, .inr (.inl f_sm_common)))] [(a_sm, .inr (4, [.ref a_tx, .ref a_rd, .ref a_td, .ref a_sp, .long v_sm_asked, .ref a_ds, .ref a_sm_fars, .ref a_sm_common, .ref a_sm_others, .ref a_sm_scale, .long v_sm_traced])), (a_td, .inr (3, [.int v_td_laws, .long v_td_there, .int v_td_sayers, .ref a_td_says, .ref a_td_weights])), (a_sm_common, .inl (cJ, 128, .inr (.inl f_sm_common)))] := by
  refine zk_of_z (cc := cX4_isLeastQuarrel) (maxL := 3) (by decide) rfl (Nat.le_of_ble_eq_true rfl) ?_
  intro p e R s m args below meth c A Q ls hx hb hml hRf hRl hts hown hP hK hD hA hS hG hl hret
  have hl : lv_has ls 3 [(0, .ref a_sm), (1, .int x0)] := hl
  have hown : s.vm.findClass RX4 = some m.cls := hown
  have hcs : 0 ≤ R.cells ∧ 0 ≤ R.slots := ⟨Nat.zero_le _, Nat.zero_le _⟩
  have lk0 := hts (.fieldLink RX4 28 "SayingsMerged" "told" "LSayingsMerged$Told;") (by decide +kernel)
  have inX4 : ∀ w ∈ wsX40, w ∈ wsX4_isLeastQuarrel := by decide +kernel
  have lk2 : (Cond.fieldLinkNest RX4 94 "SayingsMerged$Told" "sayers" "I" "SayingsMerged").before args s = true := va_Nw.use rfl (hG.1 _ (by decide +kernel))
  have inX3 : ∀ w ∈ wsX30, w ∈ wsX4_isLeastQuarrel := by decide +kernel
  unfold zf_X4_isLeastQuarrel at hf
  refine lv_aload_n hx hb dX4_isLeastQuarrel_0 rfl (lv_at hl 0 rfl) ?_
  refine lv_iload_n hx hb dX4_isLeastQuarrel_1 rfl (lv_at hl 1 rfl) ?_
  obtain ⟨v1, hv1, hf⟩ := zk_ob hf
  refine zk_goR (zk_V (As := [.int x0]) (rest := []) hx hb hml hown hts hK hG hP hD hS hA gX4_isLeastQuarrel_X4_isQuarrel rfl hd_X4_isQuarrel (Nat.le_trans (Nat.le_of_ble_eq_true rfl) hRf) (Nat.le_trans (Nat.le_of_ble_eq_true rfl) hRl) hcs (zc_X4_isQuarrel l D tL tO cI cJ cB cQ a_sm a_tx a_rd a_td a_sp a_ds a_sm_fars a_sm_common a_sm_others a_sm_scale x0 v_sm_asked v_sm_traced f_sm_common v1 hv1) rfl rfl 0 rfl hl.1 rfl rfl (Nat.le_of_ble_eq_true rfl) dX4_isLeastQuarrel_2 [0, 2] rfl rfl) hP hD hS hA [0, 2] rfl (fun H locs hP hS => ?_)
  refine lv_if_ne (tgt := 10) hx hb dX4_isLeastQuarrel_5 (by decide) (fun c12 => ?_) (fun c12 => ?_)
  · have hf := zk_f c12 hf
    refine lv_iconst (v := (0 : Int32)) hx hb dX4_isLeastQuarrel_10 (by decide) ?_
    refine lv_istore_n (lv' := [(2, .int (0 : Int32)), (0, .ref a_sm), (1, .int x0)]) hx hb dX4_isLeastQuarrel_11 rfl hl (by decide) rfl (fun ls hl => ?_)
    have lp12 : ∀ (n : Nat) (w2 : Int32) (z12 : (Int32) ⊕ (Int32)) (H : Heap) (locs : List Loc) (ls : Array Slot), zl_X4_isLeastQuarrel_12 x0 v_td_sayers f_sm_common n w2 = some z12 → va_P D vwCl [(a_sm, .inr (4, [.ref a_tx, .ref a_rd, .ref a_td, .ref a_sp, .long v_sm_asked, .ref a_ds, .ref a_sm_fars, .ref a_sm_common, .ref a_sm_others, .ref a_sm_scale, .long v_sm_traced])), (a_td, .inr (3, [.int v_td_laws, .long v_td_there, .int v_td_sayers, .ref a_td_says, .ref a_td_weights])), (a_sm_common, .inl (cJ, 128, .inr (.inl f_sm_common)))] H → va_D A [(a_sm, .inr (4, [.ref a_tx, .ref a_rd, .ref a_td, .ref a_sp, .long v_sm_asked, .ref a_ds, .ref a_sm_fars, .ref a_sm_common, .ref a_sm_others, .ref a_sm_scale, .long v_sm_traced])), (a_td, .inr (3, [.int v_td_laws, .long v_td_there, .int v_td_sayers, .ref a_td_says, .ref a_td_weights])), (a_sm_common, .inl (cJ, 128, .inr (.inl f_sm_common)))] → va_S A s.heap H locs → lv_has ls 3 [(0, .ref a_sm), (1, .int x0), (2, .int w2)] → (∀ u : Int32, z12 = Sum.inl u → ∀ (H : Heap) (locs : List Loc) (ls : Array Slot), va_P D vwCl [(a_sm, .inr (4, [.ref a_tx, .ref a_rd, .ref a_td, .ref a_sp, .long v_sm_asked, .ref a_ds, .ref a_sm_fars, .ref a_sm_common, .ref a_sm_others, .ref a_sm_scale, .long v_sm_traced])), (a_td, .inr (3, [.int v_td_laws, .long v_td_there, .int v_td_sayers, .ref a_td_says, .ref a_td_weights])), (a_sm_common, .inl (cJ, 128, .inr (.inl f_sm_common)))] H → va_D A [(a_sm, .inr (4, [.ref a_tx, .ref a_rd, .ref a_td, .ref a_sp, .long v_sm_asked, .ref a_ds, .ref a_sm_fars, .ref a_sm_common, .ref a_sm_others, .ref a_sm_scale, .long v_sm_traced])), (a_td, .inr (3, [.int v_td_laws, .long v_td_there, .int v_td_sayers, .ref a_td_says, .ref a_td_weights])), (a_sm_common, .inl (cJ, 128, .inr (.inl f_sm_common)))] → va_S A s.heap H locs → lv_has ls 3 [(0, .ref a_sm), (1, .int x0), (2, .int u)] → W p l e R s m args below meth c H locs 0 0 Q (F0 m 53 ls [])) → (∀ r : Int32, z12 = Sum.inr r → r = z) → W p l e R s m args below meth c H locs 0 0 Q (F0 m 12 ls []) := by
      intro n
      induction n with
      | zero => intro w2 z12 H locs ls hf; exact absurd (show none = some z12 from hf) (by simp)
      | succ n ih =>
        intro w2 z12 H locs ls hf hP hD hS hl hk hkr
        rw [zl_X4_isLeastQuarrel_12] at hf
        refine lv_iload_n hx hb dX4_isLeastQuarrel_12 rfl (lv_at hl 2 rfl) ?_
        refine lv_aload_n hx hb dX4_isLeastQuarrel_13 rfl (lv_at hl 0 rfl) ?_
        refine va_get (ci := 4) (v := .ref a_td) (C := RX4) (T := TX4) (N := 11) hx hb hts inX4 hown hK hP 0 rfl rfl 2 (by decide) lk0 (fun _ h9 => h9) rfl dX4_isLeastQuarrel_14 ?_
        refine va_getN (ci := 3) (v := .int v_td_sayers) (C := RX3) (T := TX3) (N := 5) hx hb hts inX3 hown hK hP 1 rfl rfl 2 (by decide) lk2 (fun _ h9 => h9) rfl dX4_isLeastQuarrel_17 ?_
        refine lv_icmp_ge (tgt := 53) hx hb dX4_isLeastQuarrel_20 (by decide) (fun c8 => ?_) (fun c8 => ?_)
        · have hf := zk_t c8 hf
          exact hk _ (Option.some.inj hf).symm _ _ _ hP hD hS (lv_sub hl [0, 1, 2] rfl)
        · have hf := zk_f c8 hf
          refine lv_iload_n hx hb dX4_isLeastQuarrel_23 rfl (lv_at hl 1 rfl) ?_
          refine lv_iconst (v := (1 : Int32)) hx hb dX4_isLeastQuarrel_24 (by decide) ?_
          refine lv_iload_n hx hb dX4_isLeastQuarrel_25 rfl (lv_at hl 2 rfl) ?_
          refine lv_ishl hx hb dX4_isLeastQuarrel_26 ?_
          refine lv_iand hx hb dX4_isLeastQuarrel_27 ?_
          refine lv_if_eq (tgt := 47) hx hb dX4_isLeastQuarrel_28 (by decide) (fun c7 => ?_) (fun c7 => ?_)
          · have hf := zk_t c7 hf
            obtain ⟨y3, ey3, hf⟩ := zk_lt_s hf
            refine lv_iinc (v := y3) (lv' := [(2, .int y3), (0, .ref a_sm), (1, .int x0)]) hx hb dX4_isLeastQuarrel_47 hl (k := 2) rfl (by rw [ey3]; rfl) (by decide) rfl (fun ls hl => ?_)
            refine lv_goto (tgt := 12) hx hb dX4_isLeastQuarrel_50 (by decide) ?_
            exact ih y3 _ _ _ _ hf hP hD hS (lv_sub hl [1, 2, 0] rfl) hk hkr
          · have hf := zk_f c7 hf
            refine lv_aload_n hx hb dX4_isLeastQuarrel_31 rfl (lv_at hl 0 rfl) ?_
            refine lv_iload_n hx hb dX4_isLeastQuarrel_32 rfl (lv_at hl 1 rfl) ?_
            refine lv_iconst (v := (1 : Int32)) hx hb dX4_isLeastQuarrel_33 (by decide) ?_
            refine lv_iload_n hx hb dX4_isLeastQuarrel_34 rfl (lv_at hl 2 rfl) ?_
            refine lv_ishl hx hb dX4_isLeastQuarrel_35 ?_
            refine lv_iconst (v := (-1 : Int32)) hx hb dX4_isLeastQuarrel_36 (by decide) ?_
            refine lv_ixor hx hb dX4_isLeastQuarrel_37 ?_
            refine lv_iand hx hb dX4_isLeastQuarrel_38 ?_
            obtain ⟨v4, hv4, hf⟩ := zk_ob hf
            refine zk_goR (zk_V (As := [.int (x0 &&& (((1 : Int32) <<< (w2 &&& 31)) ^^^ (-1 : Int32)))]) (rest := []) hx hb hml hown hts hK hG hP hD hS hA gX4_isLeastQuarrel_X4_isQuarrel rfl hd_X4_isQuarrel (Nat.le_trans (Nat.le_of_ble_eq_true rfl) hRf) (Nat.le_trans (Nat.le_of_ble_eq_true rfl) hRl) hcs (zc_X4_isQuarrel l D tL tO cI cJ cB cQ a_sm a_tx a_rd a_td a_sp a_ds a_sm_fars a_sm_common a_sm_others a_sm_scale (x0 &&& (((1 : Int32) <<< (w2 &&& 31)) ^^^ (-1 : Int32))) v_sm_asked v_sm_traced f_sm_common v4 hv4) rfl rfl 0 rfl hl.1 rfl rfl (Nat.le_of_ble_eq_true rfl) dX4_isLeastQuarrel_39 [0, 2] rfl rfl) hP hD hS hA [0, 2] rfl (fun H locs hP hS => ?_)
            refine lv_if_eq (tgt := 47) hx hb dX4_isLeastQuarrel_42 (by decide) (fun c6 => ?_) (fun c6 => ?_)
            · have hf := zk_t c6 hf
              obtain ⟨y5, ey5, hf⟩ := zk_lt_s hf
              refine lv_iinc (v := y5) (lv' := [(2, .int y5), (0, .ref a_sm), (1, .int x0)]) hx hb dX4_isLeastQuarrel_47 hl (k := 2) rfl (by rw [ey5]; rfl) (by decide) rfl (fun ls hl => ?_)
              refine lv_goto (tgt := 12) hx hb dX4_isLeastQuarrel_50 (by decide) ?_
              exact ih y5 _ _ _ _ hf hP hD hS (lv_sub hl [1, 2, 0] rfl) hk hkr
            · have hf := zk_f c6 hf
              refine lv_iconst (v := (0 : Int32)) hx hb dX4_isLeastQuarrel_45 (by decide) ?_
              obtain rfl := hkr _ (Option.some.inj hf).symm
              exact hret rfl _ _ _ _ hP hD hS dX4_isLeastQuarrel_46
    obtain ⟨v9, hv9, hf⟩ := zk_ob hf
    refine lp12 zk_F (0 : Int32) v9 _ _ _ hv9 hP hD hS (lv_sub hl [1, 2, 0] rfl) ?_ ?_
    · intro u10 hu10 H locs ls hP hD hS hl
      subst hu10
      have hf := zk_su_l hf
      refine lv_iconst (v := (1 : Int32)) hx hb dX4_isLeastQuarrel_53 (by decide) ?_
      obtain rfl := Option.some.inj hf
      exact hret rfl _ _ _ _ hP hD hS dX4_isLeastQuarrel_54
    · intro r11 hr11
      subst hr11
      have hf := zk_su_r hf
      exact Option.some.inj hf
  · have hf := zk_t c12 hf
    refine lv_iconst (v := (0 : Int32)) hx hb dX4_isLeastQuarrel_8 (by decide) ?_
    obtain rfl := Option.some.inj hf
    exact hret rfl _ _ _ _ hP hD hS dX4_isLeastQuarrel_9
def zl_X4_isGreatestAgreed_12 (x0 : Int32) (v_td_sayers : Int32) (f_sm_common : Nat → Int64) : Nat → (Int32) → Option ((Int32) ⊕ (Int32))
  | 0, _ => none
  | n + 1, w2 =>
    if v_td_sayers ≤ w2 then
    some (Sum.inl w2)
    else
    if (x0 &&& ((1 : Int32) <<< (w2 &&& 31))) = 0 then
    (zf_X4_isQuarrel (x0 ||| ((1 : Int32) <<< (w2 &&& 31))) f_sm_common).bind (fun v4 =>
    if v4 = 0 then
    some (Sum.inr (0 : Int32))
    else
    zk_lt (w2 + 1) (fun y5 =>
    zl_X4_isGreatestAgreed_12 x0 v_td_sayers f_sm_common n y5))
    else
    zk_lt (w2 + 1) (fun y3 =>
    zl_X4_isGreatestAgreed_12 x0 v_td_sayers f_sm_common n y3)
def zf_X4_isGreatestAgreed (x0 : Int32) (v_td_sayers : Int32) (f_sm_common : Nat → Int64) : Option (Int32) :=
  (zf_X4_isQuarrel x0 f_sm_common).bind (fun v1 =>
  if v1 = 0 then
  (zl_X4_isGreatestAgreed_12 x0 v_td_sayers f_sm_common zk_F (0 : Int32)).bind (fun v9 =>
  zk_su v9
  (fun u10 =>
  some (1 : Int32))
  (fun r11 => some r11))
  else
  some (0 : Int32))
theorem hd_X4_isGreatestAgreed : yX4_isGreatestAgreed.cls = RX4 ∧ yX4_isGreatestAgreed.cls ≠ "java/lang/invoke/MethodHandle" ∧ yX4_isGreatestAgreed.cls ≠ "java/lang/invoke/VarHandle" ∧ (parseMethodDescriptor yX4_isGreatestAgreed.desc).map (fun d => d.parameters.length) = some 1 := by decide +kernel
set_option maxHeartbeats 4000000 in
set_option maxRecDepth 100000 in
theorem zc_X4_isGreatestAgreed (l : Launch) (D : va_G) (tL tO : Nat) (cI cJ cB cQ : ClassId) (a_sm a_tx a_rd a_td a_sp a_ds a_sm_fars a_sm_common a_sm_others a_sm_scale a_td_says a_td_weights : Nat) (x0 : Int32) (v_sm_asked : Int64) (v_sm_traced : Int64) (v_td_laws : Int32) (v_td_there : Int64) (v_td_sayers : Int32) (f_sm_common : Nat → Int64) (z : Int32) (hf : zf_X4_isGreatestAgreed x0 v_td_sayers f_sm_common = some z) : zk_CT l D tL tO (zk_ty cI cJ cB cQ) yX4_isGreatestAgreed wsX4_isGreatestAgreed 1 21 [.ref a_sm, .int x0] (some (.int z)) [(a_sm, .inr (4, [.ref a_tx, .ref a_rd, .ref a_td, .ref a_sp, .long v_sm_asked, .ref a_ds, .ref a_sm_fars, .ref a_sm_common, .ref a_sm_others, .ref a_sm_scale, .long v_sm_traced])), (a_td, .inr (3, [.int v_td_laws, .long v_td_there, .int v_td_sayers, .ref a_td_says, .ref a_td_weights])), (a_sm_common, .inl (cJ, 128, .inr (.inl f_sm_common)))] [(a_sm, .inr (4, [.ref a_tx, .ref a_rd, .ref a_td, .ref a_sp, .long v_sm_asked, .ref a_ds, .ref a_sm_fars, .ref a_sm_common, .ref a_sm_others, .ref a_sm_scale, .long v_sm_traced])), (a_td, .inr (3, [.int v_td_laws, .long v_td_there, .int v_td_sayers, .ref a_td_says, .ref a_td_weights])), (a_sm_common, .inl (cJ, 128, .inr (.inl f_sm_common)))] := by
  refine zk_of_z (cc := cX4_isGreatestAgreed) (maxL := 3) (by decide) rfl (Nat.le_of_ble_eq_true rfl) ?_
  intro p e R s m args below meth c A Q ls hx hb hml hRf hRl hts hown hP hK hD hA hS hG hl hret
  have hl : lv_has ls 3 [(0, .ref a_sm), (1, .int x0)] := hl
  have hown : s.vm.findClass RX4 = some m.cls := hown
  have hcs : 0 ≤ R.cells ∧ 0 ≤ R.slots := ⟨Nat.zero_le _, Nat.zero_le _⟩
  have lk0 := hts (.fieldLink RX4 28 "SayingsMerged" "told" "LSayingsMerged$Told;") (by decide +kernel)
  have inX4 : ∀ w ∈ wsX40, w ∈ wsX4_isGreatestAgreed := by decide +kernel
  have lk2 : (Cond.fieldLinkNest RX4 94 "SayingsMerged$Told" "sayers" "I" "SayingsMerged").before args s = true := va_Nw.use rfl (hG.1 _ (by decide +kernel))
  have inX3 : ∀ w ∈ wsX30, w ∈ wsX4_isGreatestAgreed := by decide +kernel
  unfold zf_X4_isGreatestAgreed at hf
  refine lv_aload_n hx hb dX4_isGreatestAgreed_0 rfl (lv_at hl 0 rfl) ?_
  refine lv_iload_n hx hb dX4_isGreatestAgreed_1 rfl (lv_at hl 1 rfl) ?_
  obtain ⟨v1, hv1, hf⟩ := zk_ob hf
  refine zk_goR (zk_V (As := [.int x0]) (rest := []) hx hb hml hown hts hK hG hP hD hS hA gX4_isGreatestAgreed_X4_isQuarrel rfl hd_X4_isQuarrel (Nat.le_trans (Nat.le_of_ble_eq_true rfl) hRf) (Nat.le_trans (Nat.le_of_ble_eq_true rfl) hRl) hcs (zc_X4_isQuarrel l D tL tO cI cJ cB cQ a_sm a_tx a_rd a_td a_sp a_ds a_sm_fars a_sm_common a_sm_others a_sm_scale x0 v_sm_asked v_sm_traced f_sm_common v1 hv1) rfl rfl 0 rfl hl.1 rfl rfl (Nat.le_of_ble_eq_true rfl) dX4_isGreatestAgreed_2 [0, 2] rfl rfl) hP hD hS hA [0, 2] rfl (fun H locs hP hS => ?_)
  refine lv_if_eq (tgt := 10) hx hb dX4_isGreatestAgreed_5 (by decide) (fun c12 => ?_) (fun c12 => ?_)
  · have hf := zk_t c12 hf
    refine lv_iconst (v := (0 : Int32)) hx hb dX4_isGreatestAgreed_10 (by decide) ?_
    refine lv_istore_n (lv' := [(2, .int (0 : Int32)), (0, .ref a_sm), (1, .int x0)]) hx hb dX4_isGreatestAgreed_11 rfl hl (by decide) rfl (fun ls hl => ?_)
    have lp12 : ∀ (n : Nat) (w2 : Int32) (z12 : (Int32) ⊕ (Int32)) (H : Heap) (locs : List Loc) (ls : Array Slot), zl_X4_isGreatestAgreed_12 x0 v_td_sayers f_sm_common n w2 = some z12 → va_P D vwCl [(a_sm, .inr (4, [.ref a_tx, .ref a_rd, .ref a_td, .ref a_sp, .long v_sm_asked, .ref a_ds, .ref a_sm_fars, .ref a_sm_common, .ref a_sm_others, .ref a_sm_scale, .long v_sm_traced])), (a_td, .inr (3, [.int v_td_laws, .long v_td_there, .int v_td_sayers, .ref a_td_says, .ref a_td_weights])), (a_sm_common, .inl (cJ, 128, .inr (.inl f_sm_common)))] H → va_D A [(a_sm, .inr (4, [.ref a_tx, .ref a_rd, .ref a_td, .ref a_sp, .long v_sm_asked, .ref a_ds, .ref a_sm_fars, .ref a_sm_common, .ref a_sm_others, .ref a_sm_scale, .long v_sm_traced])), (a_td, .inr (3, [.int v_td_laws, .long v_td_there, .int v_td_sayers, .ref a_td_says, .ref a_td_weights])), (a_sm_common, .inl (cJ, 128, .inr (.inl f_sm_common)))] → va_S A s.heap H locs → lv_has ls 3 [(0, .ref a_sm), (1, .int x0), (2, .int w2)] → (∀ u : Int32, z12 = Sum.inl u → ∀ (H : Heap) (locs : List Loc) (ls : Array Slot), va_P D vwCl [(a_sm, .inr (4, [.ref a_tx, .ref a_rd, .ref a_td, .ref a_sp, .long v_sm_asked, .ref a_ds, .ref a_sm_fars, .ref a_sm_common, .ref a_sm_others, .ref a_sm_scale, .long v_sm_traced])), (a_td, .inr (3, [.int v_td_laws, .long v_td_there, .int v_td_sayers, .ref a_td_says, .ref a_td_weights])), (a_sm_common, .inl (cJ, 128, .inr (.inl f_sm_common)))] H → va_D A [(a_sm, .inr (4, [.ref a_tx, .ref a_rd, .ref a_td, .ref a_sp, .long v_sm_asked, .ref a_ds, .ref a_sm_fars, .ref a_sm_common, .ref a_sm_others, .ref a_sm_scale, .long v_sm_traced])), (a_td, .inr (3, [.int v_td_laws, .long v_td_there, .int v_td_sayers, .ref a_td_says, .ref a_td_weights])), (a_sm_common, .inl (cJ, 128, .inr (.inl f_sm_common)))] → va_S A s.heap H locs → lv_has ls 3 [(0, .ref a_sm), (1, .int x0), (2, .int u)] → W p l e R s m args below meth c H locs 0 0 Q (F0 m 51 ls [])) → (∀ r : Int32, z12 = Sum.inr r → r = z) → W p l e R s m args below meth c H locs 0 0 Q (F0 m 12 ls []) := by
      intro n
      induction n with
      | zero => intro w2 z12 H locs ls hf; exact absurd (show none = some z12 from hf) (by simp)
      | succ n ih =>
        intro w2 z12 H locs ls hf hP hD hS hl hk hkr
        rw [zl_X4_isGreatestAgreed_12] at hf
        refine lv_iload_n hx hb dX4_isGreatestAgreed_12 rfl (lv_at hl 2 rfl) ?_
        refine lv_aload_n hx hb dX4_isGreatestAgreed_13 rfl (lv_at hl 0 rfl) ?_
        refine va_get (ci := 4) (v := .ref a_td) (C := RX4) (T := TX4) (N := 11) hx hb hts inX4 hown hK hP 0 rfl rfl 2 (by decide) lk0 (fun _ h9 => h9) rfl dX4_isGreatestAgreed_14 ?_
        refine va_getN (ci := 3) (v := .int v_td_sayers) (C := RX3) (T := TX3) (N := 5) hx hb hts inX3 hown hK hP 1 rfl rfl 2 (by decide) lk2 (fun _ h9 => h9) rfl dX4_isGreatestAgreed_17 ?_
        refine lv_icmp_ge (tgt := 51) hx hb dX4_isGreatestAgreed_20 (by decide) (fun c8 => ?_) (fun c8 => ?_)
        · have hf := zk_t c8 hf
          exact hk _ (Option.some.inj hf).symm _ _ _ hP hD hS (lv_sub hl [0, 1, 2] rfl)
        · have hf := zk_f c8 hf
          refine lv_iload_n hx hb dX4_isGreatestAgreed_23 rfl (lv_at hl 1 rfl) ?_
          refine lv_iconst (v := (1 : Int32)) hx hb dX4_isGreatestAgreed_24 (by decide) ?_
          refine lv_iload_n hx hb dX4_isGreatestAgreed_25 rfl (lv_at hl 2 rfl) ?_
          refine lv_ishl hx hb dX4_isGreatestAgreed_26 ?_
          refine lv_iand hx hb dX4_isGreatestAgreed_27 ?_
          refine lv_if_ne (tgt := 45) hx hb dX4_isGreatestAgreed_28 (by decide) (fun c7 => ?_) (fun c7 => ?_)
          · have hf := zk_f c7 hf
            obtain ⟨y3, ey3, hf⟩ := zk_lt_s hf
            refine lv_iinc (v := y3) (lv' := [(2, .int y3), (0, .ref a_sm), (1, .int x0)]) hx hb dX4_isGreatestAgreed_45 hl (k := 2) rfl (by rw [ey3]; rfl) (by decide) rfl (fun ls hl => ?_)
            refine lv_goto (tgt := 12) hx hb dX4_isGreatestAgreed_48 (by decide) ?_
            exact ih y3 _ _ _ _ hf hP hD hS (lv_sub hl [1, 2, 0] rfl) hk hkr
          · have hf := zk_t c7 hf
            refine lv_aload_n hx hb dX4_isGreatestAgreed_31 rfl (lv_at hl 0 rfl) ?_
            refine lv_iload_n hx hb dX4_isGreatestAgreed_32 rfl (lv_at hl 1 rfl) ?_
            refine lv_iconst (v := (1 : Int32)) hx hb dX4_isGreatestAgreed_33 (by decide) ?_
            refine lv_iload_n hx hb dX4_isGreatestAgreed_34 rfl (lv_at hl 2 rfl) ?_
            refine lv_ishl hx hb dX4_isGreatestAgreed_35 ?_
            refine lv_ior hx hb dX4_isGreatestAgreed_36 ?_
            obtain ⟨v4, hv4, hf⟩ := zk_ob hf
            refine zk_goR (zk_V (As := [.int (x0 ||| ((1 : Int32) <<< (w2 &&& 31)))]) (rest := []) hx hb hml hown hts hK hG hP hD hS hA gX4_isGreatestAgreed_X4_isQuarrel rfl hd_X4_isQuarrel (Nat.le_trans (Nat.le_of_ble_eq_true rfl) hRf) (Nat.le_trans (Nat.le_of_ble_eq_true rfl) hRl) hcs (zc_X4_isQuarrel l D tL tO cI cJ cB cQ a_sm a_tx a_rd a_td a_sp a_ds a_sm_fars a_sm_common a_sm_others a_sm_scale (x0 ||| ((1 : Int32) <<< (w2 &&& 31))) v_sm_asked v_sm_traced f_sm_common v4 hv4) rfl rfl 0 rfl hl.1 rfl rfl (Nat.le_of_ble_eq_true rfl) dX4_isGreatestAgreed_37 [0, 2] rfl rfl) hP hD hS hA [0, 2] rfl (fun H locs hP hS => ?_)
            refine lv_if_ne (tgt := 45) hx hb dX4_isGreatestAgreed_40 (by decide) (fun c6 => ?_) (fun c6 => ?_)
            · have hf := zk_f c6 hf
              obtain ⟨y5, ey5, hf⟩ := zk_lt_s hf
              refine lv_iinc (v := y5) (lv' := [(2, .int y5), (0, .ref a_sm), (1, .int x0)]) hx hb dX4_isGreatestAgreed_45 hl (k := 2) rfl (by rw [ey5]; rfl) (by decide) rfl (fun ls hl => ?_)
              refine lv_goto (tgt := 12) hx hb dX4_isGreatestAgreed_48 (by decide) ?_
              exact ih y5 _ _ _ _ hf hP hD hS (lv_sub hl [1, 2, 0] rfl) hk hkr
            · have hf := zk_t c6 hf
              refine lv_iconst (v := (0 : Int32)) hx hb dX4_isGreatestAgreed_43 (by decide) ?_
              obtain rfl := hkr _ (Option.some.inj hf).symm
              exact hret rfl _ _ _ _ hP hD hS dX4_isGreatestAgreed_44
    obtain ⟨v9, hv9, hf⟩ := zk_ob hf
    refine lp12 zk_F (0 : Int32) v9 _ _ _ hv9 hP hD hS (lv_sub hl [1, 2, 0] rfl) ?_ ?_
    · intro u10 hu10 H locs ls hP hD hS hl
      subst hu10
      have hf := zk_su_l hf
      refine lv_iconst (v := (1 : Int32)) hx hb dX4_isGreatestAgreed_51 (by decide) ?_
      obtain rfl := Option.some.inj hf
      exact hret rfl _ _ _ _ hP hD hS dX4_isGreatestAgreed_52
    · intro r11 hr11
      subst hr11
      have hf := zk_su_r hf
      exact Option.some.inj hf
  · have hf := zk_f c12 hf
    refine lv_iconst (v := (0 : Int32)) hx hb dX4_isGreatestAgreed_8 (by decide) ?_
    obtain rfl := Option.some.inj hf
    exact hret rfl _ _ _ _ hP hD hS dX4_isGreatestAgreed_9
def zf_X4_isListed (x0 : Int32) (x1 : Int32) (v_td_sayers : Int32) (f_sm_common : Nat → Int64) : Option (Int32) :=
  if x0 = 0 then
  (zf_X4_isLeastQuarrel x1 v_td_sayers f_sm_common).bind (fun v3 =>
  zk_gd (zk_b v3) (some v3))
  else
  (zf_X4_isGreatestAgreed x1 v_td_sayers f_sm_common).bind (fun v1 =>
  zk_gd (zk_b v1) (some v1))
theorem hd_X4_isListed : yX4_isListed.cls = RX4 ∧ yX4_isListed.cls ≠ "java/lang/invoke/MethodHandle" ∧ yX4_isListed.cls ≠ "java/lang/invoke/VarHandle" ∧ (parseMethodDescriptor yX4_isListed.desc).map (fun d => d.parameters.length) = some 2 := by decide +kernel
set_option maxHeartbeats 4000000 in
set_option maxRecDepth 100000 in
theorem zc_X4_isListed (l : Launch) (D : va_G) (tL tO : Nat) (cI cJ cB cQ : ClassId) (a_sm a_tx a_rd a_td a_sp a_ds a_sm_fars a_sm_common a_sm_others a_sm_scale a_td_says a_td_weights : Nat) (x0 : Int32) (x1 : Int32) (v_sm_asked : Int64) (v_sm_traced : Int64) (v_td_laws : Int32) (v_td_there : Int64) (v_td_sayers : Int32) (f_sm_common : Nat → Int64) (z : Int32) (hf : zf_X4_isListed x0 x1 v_td_sayers f_sm_common = some z) : zk_CT l D tL tO (zk_ty cI cJ cB cQ) yX4_isListed wsX4_isListed 2 43 [.ref a_sm, .int x0, .int x1] (some (.int z)) [(a_sm, .inr (4, [.ref a_tx, .ref a_rd, .ref a_td, .ref a_sp, .long v_sm_asked, .ref a_ds, .ref a_sm_fars, .ref a_sm_common, .ref a_sm_others, .ref a_sm_scale, .long v_sm_traced])), (a_td, .inr (3, [.int v_td_laws, .long v_td_there, .int v_td_sayers, .ref a_td_says, .ref a_td_weights])), (a_sm_common, .inl (cJ, 128, .inr (.inl f_sm_common)))] [(a_sm, .inr (4, [.ref a_tx, .ref a_rd, .ref a_td, .ref a_sp, .long v_sm_asked, .ref a_ds, .ref a_sm_fars, .ref a_sm_common, .ref a_sm_others, .ref a_sm_scale, .long v_sm_traced])), (a_td, .inr (3, [.int v_td_laws, .long v_td_there, .int v_td_sayers, .ref a_td_says, .ref a_td_weights])), (a_sm_common, .inl (cJ, 128, .inr (.inl f_sm_common)))] := by
  refine zk_of_z (cc := cX4_isListed) (maxL := 3) (by decide) rfl (Nat.le_of_ble_eq_true rfl) ?_
  intro p e R s m args below meth c A Q ls hx hb hml hRf hRl hts hown hP hK hD hA hS hG hl hret
  have hl : lv_has ls 3 [(0, .ref a_sm), (1, .int x0), (2, .int x1)] := hl
  have hown : s.vm.findClass RX4 = some m.cls := hown
  have hcs : 0 ≤ R.cells ∧ 0 ≤ R.slots := ⟨Nat.zero_le _, Nat.zero_le _⟩
  unfold zf_X4_isListed at hf
  refine lv_iload_n hx hb dX4_isListed_0 rfl (lv_at hl 1 rfl) ?_
  refine lv_if_ne (tgt := 12) hx hb dX4_isListed_1 (by decide) (fun c5 => ?_) (fun c5 => ?_)
  · have hf := zk_f c5 hf
    refine lv_aload_n hx hb dX4_isListed_12 rfl (lv_at hl 0 rfl) ?_
    refine lv_iload_n hx hb dX4_isListed_13 rfl (lv_at hl 2 rfl) ?_
    obtain ⟨v1, hv1, hf⟩ := zk_ob hf
    refine zk_goR (zk_V (As := [.int x1]) (rest := []) hx hb hml hown hts hK hG hP hD hS hA gX4_isListed_X4_isGreatestAgreed rfl hd_X4_isGreatestAgreed (Nat.le_trans (Nat.le_of_ble_eq_true rfl) hRf) (Nat.le_trans (Nat.le_of_ble_eq_true rfl) hRl) hcs (zc_X4_isGreatestAgreed l D tL tO cI cJ cB cQ a_sm a_tx a_rd a_td a_sp a_ds a_sm_fars a_sm_common a_sm_others a_sm_scale a_td_says a_td_weights x1 v_sm_asked v_sm_traced v_td_laws v_td_there v_td_sayers f_sm_common v1 hv1) rfl rfl 0 rfl hl.1 rfl rfl (Nat.le_of_ble_eq_true rfl) dX4_isListed_14 [0, 1, 2] rfl rfl) hP hD hS hA [0, 1, 2] rfl (fun H locs hP hS => ?_)
    obtain ⟨g2, hf⟩ := zk_gd_s hf
    obtain rfl := Option.some.inj hf
    exact hret (zk_b_s g2).1 _ _ _ _ hP hD hS dX4_isListed_17
  · have hf := zk_t c5 hf
    refine lv_aload_n hx hb dX4_isListed_4 rfl (lv_at hl 0 rfl) ?_
    refine lv_iload_n hx hb dX4_isListed_5 rfl (lv_at hl 2 rfl) ?_
    obtain ⟨v3, hv3, hf⟩ := zk_ob hf
    refine zk_goR (zk_V (As := [.int x1]) (rest := []) hx hb hml hown hts hK hG hP hD hS hA gX4_isListed_X4_isLeastQuarrel rfl hd_X4_isLeastQuarrel (Nat.le_trans (Nat.le_of_ble_eq_true rfl) hRf) (Nat.le_trans (Nat.le_of_ble_eq_true rfl) hRl) hcs (zc_X4_isLeastQuarrel l D tL tO cI cJ cB cQ a_sm a_tx a_rd a_td a_sp a_ds a_sm_fars a_sm_common a_sm_others a_sm_scale a_td_says a_td_weights x1 v_sm_asked v_sm_traced v_td_laws v_td_there v_td_sayers f_sm_common v3 hv3) rfl rfl 0 rfl hl.1 rfl rfl (Nat.le_of_ble_eq_true rfl) dX4_isListed_6 [0, 1, 2] rfl rfl) hP hD hS hA [0, 1, 2] rfl (fun H locs hP hS => ?_)
    refine lv_goto (tgt := 17) hx hb dX4_isListed_9 (by decide) ?_
    obtain ⟨g4, hf⟩ := zk_gd_s hf
    obtain rfl := Option.some.inj hf
    exact hret (zk_b_s g4).1 _ _ _ _ hP hD hS dX4_isListed_17
def zf_X4_quarrels (x0 : Int32) (v_td_sayers : Int32) (f_sm_common : Nat → Int64) : Option (Int32) :=
  if x0 < 0 then
  some (-1 : Int32)
  else
  (zf_X4_setsOfSayers v_td_sayers).bind (fun v1 =>
  if x0 < v1 then
  (zf_X4_isQuarrel x0 f_sm_common).bind (fun v2 =>
  if v2 = 0 then
  some (0 : Int32)
  else
  some (1 : Int32))
  else
  some (-1 : Int32))
theorem hd_X4_quarrels : yX4_quarrels.cls = RX4 ∧ yX4_quarrels.cls ≠ "java/lang/invoke/MethodHandle" ∧ yX4_quarrels.cls ≠ "java/lang/invoke/VarHandle" ∧ (parseMethodDescriptor yX4_quarrels.desc).map (fun d => d.parameters.length) = some 1 := by decide +kernel
set_option maxHeartbeats 4000000 in
set_option maxRecDepth 100000 in
theorem zc_X4_quarrels (l : Launch) (D : va_G) (tL tO : Nat) (cI cJ cB cQ : ClassId) (a_sm a_tx a_rd a_td a_sp a_ds a_sm_fars a_sm_common a_sm_others a_sm_scale a_td_says a_td_weights : Nat) (x0 : Int32) (v_sm_asked : Int64) (v_sm_traced : Int64) (v_td_laws : Int32) (v_td_there : Int64) (v_td_sayers : Int32) (f_sm_common : Nat → Int64) (z : Int32) (hf : zf_X4_quarrels x0 v_td_sayers f_sm_common = some z) : zk_CT l D tL tO (zk_ty cI cJ cB cQ) yX4_quarrels wsX4_quarrels 1 21 [.ref a_sm, .int x0] (some (.int z)) [(a_sm, .inr (4, [.ref a_tx, .ref a_rd, .ref a_td, .ref a_sp, .long v_sm_asked, .ref a_ds, .ref a_sm_fars, .ref a_sm_common, .ref a_sm_others, .ref a_sm_scale, .long v_sm_traced])), (a_td, .inr (3, [.int v_td_laws, .long v_td_there, .int v_td_sayers, .ref a_td_says, .ref a_td_weights])), (a_sm_common, .inl (cJ, 128, .inr (.inl f_sm_common)))] [(a_sm, .inr (4, [.ref a_tx, .ref a_rd, .ref a_td, .ref a_sp, .long v_sm_asked, .ref a_ds, .ref a_sm_fars, .ref a_sm_common, .ref a_sm_others, .ref a_sm_scale, .long v_sm_traced])), (a_td, .inr (3, [.int v_td_laws, .long v_td_there, .int v_td_sayers, .ref a_td_says, .ref a_td_weights])), (a_sm_common, .inl (cJ, 128, .inr (.inl f_sm_common)))] := by
  refine zk_of_i (cc := cX4_quarrels) (maxL := 2) (by decide) rfl (Nat.le_of_ble_eq_true rfl) ?_
  intro p e R s m args below meth c A Q ls hx hb hml hRf hRl hts hown hP hK hD hA hS hG hl hret
  have hl : lv_has ls 2 [(0, .ref a_sm), (1, .int x0)] := hl
  have hown : s.vm.findClass RX4 = some m.cls := hown
  have hcs : 0 ≤ R.cells ∧ 0 ≤ R.slots := ⟨Nat.zero_le _, Nat.zero_le _⟩
  unfold zf_X4_quarrels at hf
  refine lv_iload_n hx hb dX4_quarrels_0 rfl (lv_at hl 1 rfl) ?_
  refine lv_if_lt (tgt := 12) hx hb dX4_quarrels_1 (by decide) (fun c5 => ?_) (fun c5 => ?_)
  · have hf := zk_t c5 hf
    refine lv_iconst (v := (-1 : Int32)) hx hb dX4_quarrels_12 (by decide) ?_
    obtain rfl := Option.some.inj hf
    exact hret trivial _ _ _ _ hP hD hS dX4_quarrels_13
  · have hf := zk_f c5 hf
    refine lv_iload_n hx hb dX4_quarrels_4 rfl (lv_at hl 1 rfl) ?_
    refine lv_aload_n hx hb dX4_quarrels_5 rfl (lv_at hl 0 rfl) ?_
    obtain ⟨v1, hv1, hf⟩ := zk_ob hf
    refine zk_goR (zk_V (As := []) (rest := [.int x0]) hx hb hml hown hts hK hG hP hD hS hA gX4_quarrels_X4_setsOfSayers rfl hd_X4_setsOfSayers (Nat.le_trans (Nat.le_of_ble_eq_true rfl) hRf) (Nat.le_trans (Nat.le_of_ble_eq_true rfl) hRl) hcs (zc_X4_setsOfSayers l D tL tO cI cJ cB cQ a_sm a_tx a_rd a_td a_sp a_ds a_sm_fars a_sm_common a_sm_others a_sm_scale a_td_says a_td_weights v_sm_asked v_sm_traced v_td_laws v_td_there v_td_sayers v1 hv1) rfl rfl 0 rfl hl.1 rfl rfl (Nat.le_of_ble_eq_true rfl) dX4_quarrels_6 [0, 1] rfl rfl) hP hD hS hA [0, 1] rfl (fun H locs hP hS => ?_)
    refine lv_icmp_lt (tgt := 14) hx hb dX4_quarrels_9 (by decide) (fun c4 => ?_) (fun c4 => ?_)
    · have hf := zk_t c4 hf
      refine lv_aload_n hx hb dX4_quarrels_14 rfl (lv_at hl 0 rfl) ?_
      refine lv_iload_n hx hb dX4_quarrels_15 rfl (lv_at hl 1 rfl) ?_
      obtain ⟨v2, hv2, hf⟩ := zk_ob hf
      refine zk_goR (zk_V (As := [.int x0]) (rest := []) hx hb hml hown hts hK hG hP hD hS hA gX4_quarrels_X4_isQuarrel rfl hd_X4_isQuarrel (Nat.le_trans (Nat.le_of_ble_eq_true rfl) hRf) (Nat.le_trans (Nat.le_of_ble_eq_true rfl) hRl) hcs (zc_X4_isQuarrel l D tL tO cI cJ cB cQ a_sm a_tx a_rd a_td a_sp a_ds a_sm_fars a_sm_common a_sm_others a_sm_scale x0 v_sm_asked v_sm_traced f_sm_common v2 hv2) rfl rfl 0 rfl hl.1 rfl rfl (Nat.le_of_ble_eq_true rfl) dX4_quarrels_16 [0, 2] rfl rfl) hP hD hS hA [0, 2] rfl (fun H locs hP hS => ?_)
      refine lv_if_eq (tgt := 26) hx hb dX4_quarrels_19 (by decide) (fun c3 => ?_) (fun c3 => ?_)
      · have hf := zk_t c3 hf
        refine lv_iconst (v := (0 : Int32)) hx hb dX4_quarrels_26 (by decide) ?_
        obtain rfl := Option.some.inj hf
        exact hret trivial _ _ _ _ hP hD hS dX4_quarrels_27
      · have hf := zk_f c3 hf
        refine lv_iconst (v := (1 : Int32)) hx hb dX4_quarrels_22 (by decide) ?_
        refine lv_goto (tgt := 27) hx hb dX4_quarrels_23 (by decide) ?_
        obtain rfl := Option.some.inj hf
        exact hret trivial _ _ _ _ hP hD hS dX4_quarrels_27
    · have hf := zk_f c4 hf
      refine lv_iconst (v := (-1 : Int32)) hx hb dX4_quarrels_12 (by decide) ?_
      obtain rfl := Option.some.inj hf
      exact hret trivial _ _ _ _ hP hD hS dX4_quarrels_13
def zl_X4_sets_57 (x0 : Int32) (x1 : Int32) (v_td_sayers : Int32) (f_sm_common : Nat → Int64) (v5 : Int32) : Nat → (Int32) → (Int32) → Option ((Int32 × Int32) ⊕ (Int32))
  | 0, _, _ => none
  | n + 1, w6, w7 =>
    (zf_X4_setsOfSayers v_td_sayers).bind (fun v8 =>
    if v8 ≤ w7 then
    some (Sum.inl (w6, w7))
    else
    (zf_J6_bitCount_0f7a4 w7).bind (fun v9 =>
    if v9 = v5 then
    (zf_X4_isListed x0 w7 v_td_sayers f_sm_common).bind (fun v11 =>
    if v11 = 0 then
    zk_lt (w7 + 1) (fun y12 =>
    zl_X4_sets_57 x0 x1 v_td_sayers f_sm_common v5 n w6 y12)
    else
    if w6 = x1 then
    some (Sum.inr w7)
    else
    zk_lt (w6 + 1) (fun y13 =>
    zk_lt (w7 + 1) (fun y14 =>
    zl_X4_sets_57 x0 x1 v_td_sayers f_sm_common v5 n y13 y14)))
    else
    zk_lt (w7 + 1) (fun y10 =>
    zl_X4_sets_57 x0 x1 v_td_sayers f_sm_common v5 n w6 y10)))
def zl_X4_sets_21 (x0 : Int32) (x1 : Int32) (v_td_sayers : Int32) (f_sm_common : Nat → Int64) : Nat → (Int32) → (Int32) → Option ((Int32 × Int32) ⊕ (Int32))
  | 0, _, _ => none
  | n + 1, w3, w4 =>
    if v_td_sayers < w4 then
    some (Sum.inl (w3, w4))
    else
    (if x0 = 0 then
    some w4
    else
    some (v_td_sayers - w4)).bind (fun v5 =>
    (zl_X4_sets_57 x0 x1 v_td_sayers f_sm_common v5 zk_F w3 (0 : Int32)).bind (fun v19 =>
    zk_su v19
    (fun u21 =>
    zk_lt (w4 + 1) (fun y22 =>
    zl_X4_sets_21 x0 x1 v_td_sayers f_sm_common n u21.1 y22))
    (fun r23 => some (Sum.inr r23))))
def zf_X4_sets (x0 : Int32) (x1 : Int32) (v_td_sayers : Int32) (f_sm_common : Nat → Int64) : Option (Int32) :=
  (if x0 = 0 then
  if (-1 : Int32) ≤ x1 then
  some (Sum.inl ())
  else
  some (Sum.inr (-1 : Int32))
  else
  if x0 = (1 : Int32) then
  if (-1 : Int32) ≤ x1 then
  some (Sum.inl ())
  else
  some (Sum.inr (-1 : Int32))
  else
  some (Sum.inr (-1 : Int32))).bind (fun v1 =>
  zk_su v1
  (fun u2 =>
  (zl_X4_sets_21 x0 x1 v_td_sayers f_sm_common zk_F (0 : Int32) (0 : Int32)).bind (fun v26 =>
  zk_su v26
  (fun u27 =>
  if x1 = (-1 : Int32) then
  some u27.1
  else
  some (-1 : Int32))
  (fun r29 => some r29)))
  (fun r34 => some r34))
theorem hd_X4_sets : yX4_sets.cls = RX4 ∧ yX4_sets.cls ≠ "java/lang/invoke/MethodHandle" ∧ yX4_sets.cls ≠ "java/lang/invoke/VarHandle" ∧ (parseMethodDescriptor yX4_sets.desc).map (fun d => d.parameters.length) = some 2 := by decide +kernel
set_option maxHeartbeats 4000000 in
set_option maxRecDepth 100000 in
theorem zc_X4_sets (l : Launch) (D : va_G) (tL tO : Nat) (cI cJ cB cQ : ClassId) (a_sm a_tx a_rd a_td a_sp a_ds a_sm_fars a_sm_common a_sm_others a_sm_scale a_td_says a_td_weights : Nat) (x0 : Int32) (x1 : Int32) (v_sm_asked : Int64) (v_sm_traced : Int64) (v_td_laws : Int32) (v_td_there : Int64) (v_td_sayers : Int32) (f_sm_common : Nat → Int64) (z : Int32) (hf : zf_X4_sets x0 x1 v_td_sayers f_sm_common = some z) : zk_CT l D tL tO (zk_ty cI cJ cB cQ) yX4_sets wsX4_sets 3 65 [.ref a_sm, .int x0, .int x1] (some (.int z)) [(a_sm, .inr (4, [.ref a_tx, .ref a_rd, .ref a_td, .ref a_sp, .long v_sm_asked, .ref a_ds, .ref a_sm_fars, .ref a_sm_common, .ref a_sm_others, .ref a_sm_scale, .long v_sm_traced])), (a_td, .inr (3, [.int v_td_laws, .long v_td_there, .int v_td_sayers, .ref a_td_says, .ref a_td_weights])), (a_sm_common, .inl (cJ, 128, .inr (.inl f_sm_common)))] [(a_sm, .inr (4, [.ref a_tx, .ref a_rd, .ref a_td, .ref a_sp, .long v_sm_asked, .ref a_ds, .ref a_sm_fars, .ref a_sm_common, .ref a_sm_others, .ref a_sm_scale, .long v_sm_traced])), (a_td, .inr (3, [.int v_td_laws, .long v_td_there, .int v_td_sayers, .ref a_td_says, .ref a_td_weights])), (a_sm_common, .inl (cJ, 128, .inr (.inl f_sm_common)))] := by
  refine zk_of_i (cc := cX4_sets) (maxL := 7) (by decide) rfl (Nat.le_of_ble_eq_true rfl) ?_
  intro p e R s m args below meth c A Q ls hx hb hml hRf hRl hts hown hP hK hD hA hS hG hl hret
  have hl : lv_has ls 7 [(0, .ref a_sm), (1, .int x0), (2, .int x1)] := hl
  have hown : s.vm.findClass RX4 = some m.cls := hown
  have hcs : 0 ≤ R.cells ∧ 0 ≤ R.slots := ⟨Nat.zero_le _, Nat.zero_le _⟩
  have lk0 := hts (.fieldLink RX4 28 "SayingsMerged" "told" "LSayingsMerged$Told;") (by decide +kernel)
  have inX4 : ∀ w ∈ wsX40, w ∈ wsX4_sets := by decide +kernel
  have lk2 : (Cond.fieldLinkNest RX4 94 "SayingsMerged$Told" "sayers" "I" "SayingsMerged").before args s = true := va_Nw.use rfl (hG.1 _ (by decide +kernel))
  have inX3 : ∀ w ∈ wsX30, w ∈ wsX4_sets := by decide +kernel
  unfold zf_X4_sets at hf
  refine lv_iload_n hx hb dX4_sets_0 rfl (lv_at hl 1 rfl) ?_
  obtain ⟨v1, hv1, hf⟩ := zk_ob hf
  have kv1_0 : ∀ u2 : Unit, v1 = Sum.inl u2 → ∀ (H : Heap) (locs : List Loc) (ls : Array Slot), va_P D vwCl [(a_sm, .inr (4, [.ref a_tx, .ref a_rd, .ref a_td, .ref a_sp, .long v_sm_asked, .ref a_ds, .ref a_sm_fars, .ref a_sm_common, .ref a_sm_others, .ref a_sm_scale, .long v_sm_traced])), (a_td, .inr (3, [.int v_td_laws, .long v_td_there, .int v_td_sayers, .ref a_td_says, .ref a_td_weights])), (a_sm_common, .inl (cJ, 128, .inr (.inl f_sm_common)))] H → va_D A [(a_sm, .inr (4, [.ref a_tx, .ref a_rd, .ref a_td, .ref a_sp, .long v_sm_asked, .ref a_ds, .ref a_sm_fars, .ref a_sm_common, .ref a_sm_others, .ref a_sm_scale, .long v_sm_traced])), (a_td, .inr (3, [.int v_td_laws, .long v_td_there, .int v_td_sayers, .ref a_td_says, .ref a_td_weights])), (a_sm_common, .inl (cJ, 128, .inr (.inl f_sm_common)))] → va_S A s.heap H locs → lv_has ls 7 [(0, .ref a_sm), (1, .int x0), (2, .int x1)] → W p l e R s m args below meth c H locs 0 0 Q (F0 m 16 ls []) := by
    intro u2 hu2 H locs ls hP hD hS hl
    subst hu2
    have hf := zk_su_l hf
    refine lv_iconst (v := (0 : Int32)) hx hb dX4_sets_16 (by decide) ?_
    refine lv_istore_n (lv' := [(3, .int (0 : Int32)), (0, .ref a_sm), (1, .int x0), (2, .int x1)]) hx hb dX4_sets_17 rfl hl (by decide) rfl (fun ls hl => ?_)
    refine lv_iconst (v := (0 : Int32)) hx hb dX4_sets_18 (by decide) ?_
    refine lv_istore (lv' := [(4, .int (0 : Int32)), (3, .int (0 : Int32)), (0, .ref a_sm), (1, .int x0), (2, .int x1)]) hx hb dX4_sets_19 hl (by decide) rfl (fun ls hl => ?_)
    have lp21 : ∀ (n : Nat) (w3 : Int32) (w4 : Int32) (z21 : (Int32 × Int32) ⊕ (Int32)) (H : Heap) (locs : List Loc) (ls : Array Slot), zl_X4_sets_21 x0 x1 v_td_sayers f_sm_common n w3 w4 = some z21 → va_P D vwCl [(a_sm, .inr (4, [.ref a_tx, .ref a_rd, .ref a_td, .ref a_sp, .long v_sm_asked, .ref a_ds, .ref a_sm_fars, .ref a_sm_common, .ref a_sm_others, .ref a_sm_scale, .long v_sm_traced])), (a_td, .inr (3, [.int v_td_laws, .long v_td_there, .int v_td_sayers, .ref a_td_says, .ref a_td_weights])), (a_sm_common, .inl (cJ, 128, .inr (.inl f_sm_common)))] H → va_D A [(a_sm, .inr (4, [.ref a_tx, .ref a_rd, .ref a_td, .ref a_sp, .long v_sm_asked, .ref a_ds, .ref a_sm_fars, .ref a_sm_common, .ref a_sm_others, .ref a_sm_scale, .long v_sm_traced])), (a_td, .inr (3, [.int v_td_laws, .long v_td_there, .int v_td_sayers, .ref a_td_says, .ref a_td_weights])), (a_sm_common, .inl (cJ, 128, .inr (.inl f_sm_common)))] → va_S A s.heap H locs → lv_has ls 7 [(0, .ref a_sm), (1, .int x0), (2, .int x1), (3, .int w3), (4, .int w4)] → (∀ u : Int32 × Int32, z21 = Sum.inl u → ∀ (H : Heap) (locs : List Loc) (ls : Array Slot), va_P D vwCl [(a_sm, .inr (4, [.ref a_tx, .ref a_rd, .ref a_td, .ref a_sp, .long v_sm_asked, .ref a_ds, .ref a_sm_fars, .ref a_sm_common, .ref a_sm_others, .ref a_sm_scale, .long v_sm_traced])), (a_td, .inr (3, [.int v_td_laws, .long v_td_there, .int v_td_sayers, .ref a_td_says, .ref a_td_weights])), (a_sm_common, .inl (cJ, 128, .inr (.inl f_sm_common)))] H → va_D A [(a_sm, .inr (4, [.ref a_tx, .ref a_rd, .ref a_td, .ref a_sp, .long v_sm_asked, .ref a_ds, .ref a_sm_fars, .ref a_sm_common, .ref a_sm_others, .ref a_sm_scale, .long v_sm_traced])), (a_td, .inr (3, [.int v_td_laws, .long v_td_there, .int v_td_sayers, .ref a_td_says, .ref a_td_weights])), (a_sm_common, .inl (cJ, 128, .inr (.inl f_sm_common)))] → va_S A s.heap H locs → lv_has ls 7 [(0, .ref a_sm), (1, .int x0), (2, .int x1), (3, .int u.1), (4, .int u.2)] → W p l e R s m args below meth c H locs 0 0 Q (F0 m 109 ls [])) → (∀ r : Int32, z21 = Sum.inr r → r = z) → W p l e R s m args below meth c H locs 0 0 Q (F0 m 21 ls []) := by
      intro n
      induction n with
      | zero => intro w3 w4 z21 H locs ls hf; exact absurd (show none = some z21 from hf) (by simp)
      | succ n ih =>
        intro w3 w4 z21 H locs ls hf hP hD hS hl hk hkr
        rw [zl_X4_sets_21] at hf
        refine lv_iload hx hb dX4_sets_21 (lv_at hl 4 rfl) ?_
        refine lv_aload_n hx hb dX4_sets_23 rfl (lv_at hl 0 rfl) ?_
        refine va_get (ci := 4) (v := .ref a_td) (C := RX4) (T := TX4) (N := 11) hx hb hts inX4 hown hK hP 0 rfl rfl 2 (by decide) lk0 (fun _ h9 => h9) rfl dX4_sets_24 ?_
        refine va_getN (ci := 3) (v := .int v_td_sayers) (C := RX3) (T := TX3) (N := 5) hx hb hts inX3 hown hK hP 1 rfl rfl 2 (by decide) lk2 (fun _ h9 => h9) rfl dX4_sets_27 ?_
        refine lv_icmp_gt (tgt := 109) hx hb dX4_sets_30 (by decide) (fun c25 => ?_) (fun c25 => ?_)
        · have hf := zk_t c25 hf
          exact hk _ (Option.some.inj hf).symm _ _ _ hP hD hS (lv_sub hl [0, 1, 2, 3, 4] rfl)
        · have hf := zk_f c25 hf
          refine lv_iload_n hx hb dX4_sets_33 rfl (lv_at hl 1 rfl) ?_
          obtain ⟨v5, hv5, hf⟩ := zk_ob hf
          have kv5 : ∀ (H : Heap) (locs : List Loc) (ls : Array Slot), va_P D vwCl [(a_sm, .inr (4, [.ref a_tx, .ref a_rd, .ref a_td, .ref a_sp, .long v_sm_asked, .ref a_ds, .ref a_sm_fars, .ref a_sm_common, .ref a_sm_others, .ref a_sm_scale, .long v_sm_traced])), (a_td, .inr (3, [.int v_td_laws, .long v_td_there, .int v_td_sayers, .ref a_td_says, .ref a_td_weights])), (a_sm_common, .inl (cJ, 128, .inr (.inl f_sm_common)))] H → va_D A [(a_sm, .inr (4, [.ref a_tx, .ref a_rd, .ref a_td, .ref a_sp, .long v_sm_asked, .ref a_ds, .ref a_sm_fars, .ref a_sm_common, .ref a_sm_others, .ref a_sm_scale, .long v_sm_traced])), (a_td, .inr (3, [.int v_td_laws, .long v_td_there, .int v_td_sayers, .ref a_td_says, .ref a_td_weights])), (a_sm_common, .inl (cJ, 128, .inr (.inl f_sm_common)))] → va_S A s.heap H locs → lv_has ls 7 [(0, .ref a_sm), (1, .int x0), (2, .int x1), (3, .int w3), (4, .int w4)] → W p l e R s m args below meth c H locs 0 0 Q (F0 m 52 ls [.int v5]) := by
            intro H locs ls hP hD hS hl
            refine lv_istore (lv' := [(5, .int v5), (0, .ref a_sm), (1, .int x0), (2, .int x1), (3, .int w3), (4, .int w4)]) hx hb dX4_sets_52 hl (by decide) rfl (fun ls hl => ?_)
            refine lv_iconst (v := (0 : Int32)) hx hb dX4_sets_54 (by decide) ?_
            refine lv_istore (lv' := [(6, .int (0 : Int32)), (5, .int v5), (0, .ref a_sm), (1, .int x0), (2, .int x1), (3, .int w3), (4, .int w4)]) hx hb dX4_sets_55 hl (by decide) rfl (fun ls hl => ?_)
            have lp57_20 : ∀ (n : Nat) (w6 : Int32) (w7 : Int32) (z57 : (Int32 × Int32) ⊕ (Int32)) (H : Heap) (locs : List Loc) (ls : Array Slot), zl_X4_sets_57 x0 x1 v_td_sayers f_sm_common v5 n w6 w7 = some z57 → va_P D vwCl [(a_sm, .inr (4, [.ref a_tx, .ref a_rd, .ref a_td, .ref a_sp, .long v_sm_asked, .ref a_ds, .ref a_sm_fars, .ref a_sm_common, .ref a_sm_others, .ref a_sm_scale, .long v_sm_traced])), (a_td, .inr (3, [.int v_td_laws, .long v_td_there, .int v_td_sayers, .ref a_td_says, .ref a_td_weights])), (a_sm_common, .inl (cJ, 128, .inr (.inl f_sm_common)))] H → va_D A [(a_sm, .inr (4, [.ref a_tx, .ref a_rd, .ref a_td, .ref a_sp, .long v_sm_asked, .ref a_ds, .ref a_sm_fars, .ref a_sm_common, .ref a_sm_others, .ref a_sm_scale, .long v_sm_traced])), (a_td, .inr (3, [.int v_td_laws, .long v_td_there, .int v_td_sayers, .ref a_td_says, .ref a_td_weights])), (a_sm_common, .inl (cJ, 128, .inr (.inl f_sm_common)))] → va_S A s.heap H locs → lv_has ls 7 [(0, .ref a_sm), (1, .int x0), (2, .int x1), (3, .int w6), (4, .int w4), (5, .int v5), (6, .int w7)] → (∀ u : Int32 × Int32, z57 = Sum.inl u → ∀ (H : Heap) (locs : List Loc) (ls : Array Slot), va_P D vwCl [(a_sm, .inr (4, [.ref a_tx, .ref a_rd, .ref a_td, .ref a_sp, .long v_sm_asked, .ref a_ds, .ref a_sm_fars, .ref a_sm_common, .ref a_sm_others, .ref a_sm_scale, .long v_sm_traced])), (a_td, .inr (3, [.int v_td_laws, .long v_td_there, .int v_td_sayers, .ref a_td_says, .ref a_td_weights])), (a_sm_common, .inl (cJ, 128, .inr (.inl f_sm_common)))] H → va_D A [(a_sm, .inr (4, [.ref a_tx, .ref a_rd, .ref a_td, .ref a_sp, .long v_sm_asked, .ref a_ds, .ref a_sm_fars, .ref a_sm_common, .ref a_sm_others, .ref a_sm_scale, .long v_sm_traced])), (a_td, .inr (3, [.int v_td_laws, .long v_td_there, .int v_td_sayers, .ref a_td_says, .ref a_td_weights])), (a_sm_common, .inl (cJ, 128, .inr (.inl f_sm_common)))] → va_S A s.heap H locs → lv_has ls 7 [(0, .ref a_sm), (1, .int x0), (2, .int x1), (3, .int u.1), (4, .int w4), (5, .int v5), (6, .int u.2)] → W p l e R s m args below meth c H locs 0 0 Q (F0 m 103 ls [])) → (∀ r : Int32, z57 = Sum.inr r → r = z) → W p l e R s m args below meth c H locs 0 0 Q (F0 m 57 ls []) := by
              intro n
              induction n with
              | zero => intro w6 w7 z57 H locs ls hf; exact absurd (show none = some z57 from hf) (by simp)
              | succ n ih =>
                intro w6 w7 z57 H locs ls hf hP hD hS hl hk hkr
                rw [zl_X4_sets_57] at hf
                refine lv_iload hx hb dX4_sets_57 (lv_at hl 6 rfl) ?_
                refine lv_aload_n hx hb dX4_sets_59 rfl (lv_at hl 0 rfl) ?_
                obtain ⟨v8, hv8, hf⟩ := zk_ob hf
                refine zk_goR (zk_V (As := []) (rest := [.int w7]) hx hb hml hown hts hK hG hP hD hS hA gX4_sets_X4_setsOfSayers rfl hd_X4_setsOfSayers (Nat.le_trans (Nat.le_of_ble_eq_true rfl) hRf) (Nat.le_trans (Nat.le_of_ble_eq_true rfl) hRl) hcs (zc_X4_setsOfSayers l D tL tO cI cJ cB cQ a_sm a_tx a_rd a_td a_sp a_ds a_sm_fars a_sm_common a_sm_others a_sm_scale a_td_says a_td_weights v_sm_asked v_sm_traced v_td_laws v_td_there v_td_sayers v8 hv8) rfl rfl 0 rfl hl.1 rfl rfl (Nat.le_of_ble_eq_true rfl) dX4_sets_60 [0, 1] rfl rfl) hP hD hS hA [0, 1] rfl (fun H locs hP hS => ?_)
                refine lv_icmp_ge (tgt := 103) hx hb dX4_sets_63 (by decide) (fun c18 => ?_) (fun c18 => ?_)
                · have hf := zk_t c18 hf
                  exact hk _ (Option.some.inj hf).symm _ _ _ hP hD hS (lv_sub hl [0, 1, 2, 3, 4, 5, 6] rfl)
                · have hf := zk_f c18 hf
                  refine lv_iload hx hb dX4_sets_66 (lv_at hl 6 rfl) ?_
                  obtain ⟨v9, hv9, hf⟩ := zk_ob hf
                  refine zk_goR (zk_S (As := [.int w7]) (rest := []) hx hb hml hown hts hK hG hP hD hS hA gX4_sets_J6_bitCount_0f7a4 rfl hd_J6_bitCount_0f7a4 (Nat.le_trans (Nat.le_of_ble_eq_true rfl) hRf) (Nat.le_trans (Nat.le_of_ble_eq_true rfl) hRl) hcs (zc_J6_bitCount_0f7a4 l D tL tO cI cJ cB cQ w7 v9 hv9) hl.1 rfl rfl (Nat.le_of_ble_eq_true rfl) dX4_sets_68 [] rfl rfl) hP hD hS hA [] rfl (fun H locs hP hS => ?_)
                  refine lv_iload hx hb dX4_sets_71 (lv_at hl 5 rfl) ?_
                  refine lv_icmp_ne (tgt := 97) hx hb dX4_sets_73 (by decide) (fun c17 => ?_) (fun c17 => ?_)
                  · have hf := zk_f c17 hf
                    obtain ⟨y10, ey10, hf⟩ := zk_lt_s hf
                    refine lv_iinc (v := y10) (lv' := [(6, .int y10), (0, .ref a_sm), (1, .int x0), (2, .int x1), (3, .int w6), (4, .int w4), (5, .int v5)]) hx hb dX4_sets_97 hl (k := 6) rfl (by rw [ey10]; rfl) (by decide) rfl (fun ls hl => ?_)
                    refine lv_goto (tgt := 57) hx hb dX4_sets_100 (by decide) ?_
                    exact ih w6 y10 _ _ _ _ hf hP hD hS (lv_sub hl [1, 2, 3, 4, 5, 6, 0] rfl) hk hkr
                  · have hf := zk_t c17 hf
                    refine lv_aload_n hx hb dX4_sets_76 rfl (lv_at hl 0 rfl) ?_
                    refine lv_iload_n hx hb dX4_sets_77 rfl (lv_at hl 1 rfl) ?_
                    refine lv_iload hx hb dX4_sets_78 (lv_at hl 6 rfl) ?_
                    obtain ⟨v11, hv11, hf⟩ := zk_ob hf
                    refine zk_goR (zk_V (As := [.int x0, .int w7]) (rest := []) hx hb hml hown hts hK hG hP hD hS hA gX4_sets_X4_isListed rfl hd_X4_isListed (Nat.le_trans (Nat.le_of_ble_eq_true rfl) hRf) (Nat.le_trans (Nat.le_of_ble_eq_true rfl) hRl) hcs (zc_X4_isListed l D tL tO cI cJ cB cQ a_sm a_tx a_rd a_td a_sp a_ds a_sm_fars a_sm_common a_sm_others a_sm_scale a_td_says a_td_weights x0 w7 v_sm_asked v_sm_traced v_td_laws v_td_there v_td_sayers f_sm_common v11 hv11) rfl rfl 0 rfl hl.1 rfl rfl (Nat.le_of_ble_eq_true rfl) dX4_sets_80 [0, 1, 2] rfl rfl) hP hD hS hA [0, 1, 2] rfl (fun H locs hP hS => ?_)
                    refine lv_if_eq (tgt := 97) hx hb dX4_sets_83 (by decide) (fun c16 => ?_) (fun c16 => ?_)
                    · have hf := zk_t c16 hf
                      obtain ⟨y12, ey12, hf⟩ := zk_lt_s hf
                      refine lv_iinc (v := y12) (lv' := [(6, .int y12), (0, .ref a_sm), (1, .int x0), (2, .int x1), (3, .int w6), (4, .int w4), (5, .int v5)]) hx hb dX4_sets_97 hl (k := 6) rfl (by rw [ey12]; rfl) (by decide) rfl (fun ls hl => ?_)
                      refine lv_goto (tgt := 57) hx hb dX4_sets_100 (by decide) ?_
                      exact ih w6 y12 _ _ _ _ hf hP hD hS (lv_sub hl [1, 2, 3, 4, 5, 6, 0] rfl) hk hkr
                    · have hf := zk_f c16 hf
                      refine lv_iload_n hx hb dX4_sets_86 rfl (lv_at hl 3 rfl) ?_
                      refine lv_iload_n hx hb dX4_sets_87 rfl (lv_at hl 2 rfl) ?_
                      refine lv_icmp_ne (tgt := 94) hx hb dX4_sets_88 (by decide) (fun c15 => ?_) (fun c15 => ?_)
                      · have hf := zk_f c15 hf
                        obtain ⟨y13, ey13, hf⟩ := zk_lt_s hf
                        refine lv_iinc (v := y13) (lv' := [(3, .int y13), (0, .ref a_sm), (1, .int x0), (2, .int x1), (4, .int w4), (5, .int v5), (6, .int w7)]) hx hb dX4_sets_94 hl (k := 3) rfl (by rw [ey13]; rfl) (by decide) rfl (fun ls hl => ?_)
                        obtain ⟨y14, ey14, hf⟩ := zk_lt_s hf
                        refine lv_iinc (v := y14) (lv' := [(6, .int y14), (3, .int y13), (0, .ref a_sm), (1, .int x0), (2, .int x1), (4, .int w4), (5, .int v5)]) hx hb dX4_sets_97 hl (k := 6) rfl (by rw [ey14]; rfl) (by decide) rfl (fun ls hl => ?_)
                        refine lv_goto (tgt := 57) hx hb dX4_sets_100 (by decide) ?_
                        exact ih y13 y14 _ _ _ _ hf hP hD hS (lv_sub hl [2, 3, 4, 1, 5, 6, 0] rfl) hk hkr
                      · have hf := zk_t c15 hf
                        refine lv_iload hx hb dX4_sets_91 (lv_at hl 6 rfl) ?_
                        obtain rfl := hkr _ (Option.some.inj hf).symm
                        exact hret trivial _ _ _ _ hP hD hS dX4_sets_93
            obtain ⟨v19, hv19, hf⟩ := zk_ob hf
            refine lp57_20 zk_F w3 (0 : Int32) v19 _ _ _ hv19 hP hD hS (lv_sub hl [2, 3, 4, 5, 6, 1, 0] rfl) ?_ ?_
            · intro u21 hu21 H locs ls hP hD hS hl
              subst hu21
              have hf := zk_su_l hf
              obtain ⟨y22, ey22, hf⟩ := zk_lt_s hf
              refine lv_iinc (v := y22) (lv' := [(4, .int y22), (0, .ref a_sm), (1, .int x0), (2, .int x1), (3, .int u21.1), (5, .int v5), (6, .int u21.2)]) hx hb dX4_sets_103 hl (k := 4) rfl (by rw [ey22]; rfl) (by decide) rfl (fun ls hl => ?_)
              refine lv_goto (tgt := 21) hx hb dX4_sets_106 (by decide) ?_
              exact ih u21.1 y22 _ _ _ _ hf hP hD hS (lv_sub hl [1, 2, 3, 4, 0] rfl) hk hkr
            · intro r23 hr23
              subst hr23
              have hf := zk_su_r hf
              exact hkr _ (Option.some.inj hf).symm
          replace hf := hv5
          refine lv_if_ne (tgt := 42) hx hb dX4_sets_34 (by decide) (fun c24 => ?_) (fun c24 => ?_)
          · have hf := zk_f c24 hf
            refine lv_aload_n hx hb dX4_sets_42 rfl (lv_at hl 0 rfl) ?_
            refine va_get (ci := 4) (v := .ref a_td) (C := RX4) (T := TX4) (N := 11) hx hb hts inX4 hown hK hP 0 rfl rfl 2 (by decide) lk0 (fun _ h9 => h9) rfl dX4_sets_43 ?_
            refine va_getN (ci := 3) (v := .int v_td_sayers) (C := RX3) (T := TX3) (N := 5) hx hb hts inX3 hown hK hP 1 rfl rfl 2 (by decide) lk2 (fun _ h9 => h9) rfl dX4_sets_46 ?_
            refine lv_iload hx hb dX4_sets_49 (lv_at hl 4 rfl) ?_
            refine lv_isub hx hb dX4_sets_51 ?_
            obtain rfl := Option.some.inj hf
            exact kv5 _ _ _ hP hD hS (lv_sub hl [0, 1, 2, 3, 4] rfl)
          · have hf := zk_t c24 hf
            refine lv_iload hx hb dX4_sets_37 (lv_at hl 4 rfl) ?_
            refine lv_goto (tgt := 52) hx hb dX4_sets_39 (by decide) ?_
            obtain rfl := Option.some.inj hf
            exact kv5 _ _ _ hP hD hS (lv_sub hl [0, 1, 2, 3, 4] rfl)
    obtain ⟨v26, hv26, hf⟩ := zk_ob hf
    refine lp21 zk_F (0 : Int32) (0 : Int32) v26 _ _ _ hv26 hP hD hS (lv_sub hl [2, 3, 4, 1, 0] rfl) ?_ ?_
    · intro u27 hu27 H locs ls hP hD hS hl
      subst hu27
      have hf := zk_su_l hf
      refine lv_iload_n hx hb dX4_sets_109 rfl (lv_at hl 2 rfl) ?_
      refine lv_iconst (v := (-1 : Int32)) hx hb dX4_sets_110 (by decide) ?_
      refine lv_icmp_ne (tgt := 118) hx hb dX4_sets_111 (by decide) (fun c28 => ?_) (fun c28 => ?_)
      · have hf := zk_f c28 hf
        refine lv_iconst (v := (-1 : Int32)) hx hb dX4_sets_118 (by decide) ?_
        obtain rfl := Option.some.inj hf
        exact hret trivial _ _ _ _ hP hD hS dX4_sets_119
      · have hf := zk_t c28 hf
        refine lv_iload_n hx hb dX4_sets_114 rfl (lv_at hl 3 rfl) ?_
        refine lv_goto (tgt := 119) hx hb dX4_sets_115 (by decide) ?_
        obtain rfl := Option.some.inj hf
        exact hret trivial _ _ _ _ hP hD hS dX4_sets_119
    · intro r29 hr29
      subst hr29
      have hf := zk_su_r hf
      exact Option.some.inj hf
  have kv1_r : ∀ r34 : Int32, v1 = Sum.inr r34 → r34 = z := by
    intro r34 hr34
    subst hr34
    have hf := zk_su_r hf
    exact Option.some.inj hf
  replace hf := hv1
  refine lv_if_eq (tgt := 9) hx hb dX4_sets_1 (by decide) (fun c33 => ?_) (fun c33 => ?_)
  · have hf := zk_t c33 hf
    refine lv_iload_n hx hb dX4_sets_9 rfl (lv_at hl 2 rfl) ?_
    refine lv_iconst (v := (-1 : Int32)) hx hb dX4_sets_10 (by decide) ?_
    refine lv_icmp_ge (tgt := 16) hx hb dX4_sets_11 (by decide) (fun c30 => ?_) (fun c30 => ?_)
    · have hf := zk_t c30 hf
      exact kv1_0 _ (Option.some.inj hf).symm _ _ _ hP hD hS (lv_sub hl [0, 1, 2] rfl)
    · have hf := zk_f c30 hf
      refine lv_iconst (v := (-1 : Int32)) hx hb dX4_sets_14 (by decide) ?_
      obtain rfl := kv1_r _ (Option.some.inj hf).symm
      exact hret trivial _ _ _ _ hP hD hS dX4_sets_15
  · have hf := zk_f c33 hf
    refine lv_iload_n hx hb dX4_sets_4 rfl (lv_at hl 1 rfl) ?_
    refine lv_iconst (v := (1 : Int32)) hx hb dX4_sets_5 (by decide) ?_
    refine lv_icmp_ne (tgt := 14) hx hb dX4_sets_6 (by decide) (fun c32 => ?_) (fun c32 => ?_)
    · have hf := zk_f c32 hf
      refine lv_iconst (v := (-1 : Int32)) hx hb dX4_sets_14 (by decide) ?_
      obtain rfl := kv1_r _ (Option.some.inj hf).symm
      exact hret trivial _ _ _ _ hP hD hS dX4_sets_15
    · have hf := zk_t c32 hf
      refine lv_iload_n hx hb dX4_sets_9 rfl (lv_at hl 2 rfl) ?_
      refine lv_iconst (v := (-1 : Int32)) hx hb dX4_sets_10 (by decide) ?_
      refine lv_icmp_ge (tgt := 16) hx hb dX4_sets_11 (by decide) (fun c31 => ?_) (fun c31 => ?_)
      · have hf := zk_t c31 hf
        exact kv1_0 _ (Option.some.inj hf).symm _ _ _ hP hD hS (lv_sub hl [0, 1, 2] rfl)
      · have hf := zk_f c31 hf
        refine lv_iconst (v := (-1 : Int32)) hx hb dX4_sets_14 (by decide) ?_
        obtain rfl := kv1_r _ (Option.some.inj hf).symm
        exact hret trivial _ _ _ _ hP hD hS dX4_sets_15
def zl_X4_free_4 (v_td_sayers : Int32) (f_sm_common : Nat → Int64) : Nat → (Int32) → (Int32) → Option (Int32 × Int32)
  | 0, _, _ => none
  | n + 1, w1, w2 =>
    (zf_X4_setsOfSayers v_td_sayers).bind (fun v3 =>
    if v3 ≤ w2 then
    some (w1, w2)
    else
    (zf_X4_isLeastQuarrel w2 v_td_sayers f_sm_common).bind (fun v4 =>
    if v4 = 0 then
    zk_lt (w2 + 1) (fun y5 =>
    zl_X4_free_4 v_td_sayers f_sm_common n w1 y5)
    else
    zk_lt (w1 ||| w2) (fun y6 =>
    zk_lt (w2 + 1) (fun y7 =>
    zl_X4_free_4 v_td_sayers f_sm_common n y6 y7))))
def zf_X4_free (v_td_sayers : Int32) (f_sm_common : Nat → Int64) : Option (Int32) :=
  (zl_X4_free_4 v_td_sayers f_sm_common zk_F (0 : Int32) (0 : Int32)).bind (fun v10 =>
  (zf_X4_setsOfSayers v_td_sayers).bind (fun v11 =>
  some ((v11 - (1 : Int32)) &&& (v10.1 ^^^ (-1 : Int32)))))
theorem hd_X4_free : yX4_free.cls = RX4 ∧ yX4_free.cls ≠ "java/lang/invoke/MethodHandle" ∧ yX4_free.cls ≠ "java/lang/invoke/VarHandle" ∧ (parseMethodDescriptor yX4_free.desc).map (fun d => d.parameters.length) = some 0 := by decide +kernel
set_option maxHeartbeats 4000000 in
set_option maxRecDepth 100000 in
theorem zc_X4_free (l : Launch) (D : va_G) (tL tO : Nat) (cI cJ cB cQ : ClassId) (a_sm a_tx a_rd a_td a_sp a_ds a_sm_fars a_sm_common a_sm_others a_sm_scale a_td_says a_td_weights : Nat) (v_sm_asked : Int64) (v_sm_traced : Int64) (v_td_laws : Int32) (v_td_there : Int64) (v_td_sayers : Int32) (f_sm_common : Nat → Int64) (z : Int32) (hf : zf_X4_free v_td_sayers f_sm_common = some z) : zk_CT l D tL tO (zk_ty cI cJ cB cQ) yX4_free wsX4_free 2 43 [.ref a_sm] (some (.int z)) [(a_sm, .inr (4, [.ref a_tx, .ref a_rd, .ref a_td, .ref a_sp, .long v_sm_asked, .ref a_ds, .ref a_sm_fars, .ref a_sm_common, .ref a_sm_others, .ref a_sm_scale, .long v_sm_traced])), (a_td, .inr (3, [.int v_td_laws, .long v_td_there, .int v_td_sayers, .ref a_td_says, .ref a_td_weights])), (a_sm_common, .inl (cJ, 128, .inr (.inl f_sm_common)))] [(a_sm, .inr (4, [.ref a_tx, .ref a_rd, .ref a_td, .ref a_sp, .long v_sm_asked, .ref a_ds, .ref a_sm_fars, .ref a_sm_common, .ref a_sm_others, .ref a_sm_scale, .long v_sm_traced])), (a_td, .inr (3, [.int v_td_laws, .long v_td_there, .int v_td_sayers, .ref a_td_says, .ref a_td_weights])), (a_sm_common, .inl (cJ, 128, .inr (.inl f_sm_common)))] := by
  refine zk_of_i (cc := cX4_free) (maxL := 3) (by decide) rfl (Nat.le_of_ble_eq_true rfl) ?_
  intro p e R s m args below meth c A Q ls hx hb hml hRf hRl hts hown hP hK hD hA hS hG hl hret
  have hl : lv_has ls 3 [(0, .ref a_sm)] := hl
  have hown : s.vm.findClass RX4 = some m.cls := hown
  have hcs : 0 ≤ R.cells ∧ 0 ≤ R.slots := ⟨Nat.zero_le _, Nat.zero_le _⟩
  unfold zf_X4_free at hf
  refine lv_iconst (v := (0 : Int32)) hx hb dX4_free_0 (by decide) ?_
  refine lv_istore_n (lv' := [(1, .int (0 : Int32)), (0, .ref a_sm)]) hx hb dX4_free_1 rfl hl (by decide) rfl (fun ls hl => ?_)
  refine lv_iconst (v := (0 : Int32)) hx hb dX4_free_2 (by decide) ?_
  refine lv_istore_n (lv' := [(2, .int (0 : Int32)), (1, .int (0 : Int32)), (0, .ref a_sm)]) hx hb dX4_free_3 rfl hl (by decide) rfl (fun ls hl => ?_)
  have lp4 : ∀ (n : Nat) (w1 : Int32) (w2 : Int32) (z4 : Int32 × Int32) (H : Heap) (locs : List Loc) (ls : Array Slot), zl_X4_free_4 v_td_sayers f_sm_common n w1 w2 = some z4 → va_P D vwCl [(a_sm, .inr (4, [.ref a_tx, .ref a_rd, .ref a_td, .ref a_sp, .long v_sm_asked, .ref a_ds, .ref a_sm_fars, .ref a_sm_common, .ref a_sm_others, .ref a_sm_scale, .long v_sm_traced])), (a_td, .inr (3, [.int v_td_laws, .long v_td_there, .int v_td_sayers, .ref a_td_says, .ref a_td_weights])), (a_sm_common, .inl (cJ, 128, .inr (.inl f_sm_common)))] H → va_D A [(a_sm, .inr (4, [.ref a_tx, .ref a_rd, .ref a_td, .ref a_sp, .long v_sm_asked, .ref a_ds, .ref a_sm_fars, .ref a_sm_common, .ref a_sm_others, .ref a_sm_scale, .long v_sm_traced])), (a_td, .inr (3, [.int v_td_laws, .long v_td_there, .int v_td_sayers, .ref a_td_says, .ref a_td_weights])), (a_sm_common, .inl (cJ, 128, .inr (.inl f_sm_common)))] → va_S A s.heap H locs → lv_has ls 3 [(0, .ref a_sm), (1, .int w1), (2, .int w2)] → (∀ (H : Heap) (locs : List Loc) (ls : Array Slot), va_P D vwCl [(a_sm, .inr (4, [.ref a_tx, .ref a_rd, .ref a_td, .ref a_sp, .long v_sm_asked, .ref a_ds, .ref a_sm_fars, .ref a_sm_common, .ref a_sm_others, .ref a_sm_scale, .long v_sm_traced])), (a_td, .inr (3, [.int v_td_laws, .long v_td_there, .int v_td_sayers, .ref a_td_says, .ref a_td_weights])), (a_sm_common, .inl (cJ, 128, .inr (.inl f_sm_common)))] H → va_D A [(a_sm, .inr (4, [.ref a_tx, .ref a_rd, .ref a_td, .ref a_sp, .long v_sm_asked, .ref a_ds, .ref a_sm_fars, .ref a_sm_common, .ref a_sm_others, .ref a_sm_scale, .long v_sm_traced])), (a_td, .inr (3, [.int v_td_laws, .long v_td_there, .int v_td_sayers, .ref a_td_says, .ref a_td_weights])), (a_sm_common, .inl (cJ, 128, .inr (.inl f_sm_common)))] → va_S A s.heap H locs → lv_has ls 3 [(0, .ref a_sm), (1, .int z4.1), (2, .int z4.2)] → W p l e R s m args below meth c H locs 0 0 Q (F0 m 30 ls [])) → W p l e R s m args below meth c H locs 0 0 Q (F0 m 4 ls []) := by
    intro n
    induction n with
    | zero => intro w1 w2 z4 H locs ls hf; exact absurd (show none = some z4 from hf) (by simp)
    | succ n ih =>
      intro w1 w2 z4 H locs ls hf hP hD hS hl hk
      rw [zl_X4_free_4] at hf
      refine lv_iload_n hx hb dX4_free_4 rfl (lv_at hl 2 rfl) ?_
      refine lv_aload_n hx hb dX4_free_5 rfl (lv_at hl 0 rfl) ?_
      obtain ⟨v3, hv3, hf⟩ := zk_ob hf
      refine zk_goR (zk_V (As := []) (rest := [.int w2]) hx hb hml hown hts hK hG hP hD hS hA gX4_free_X4_setsOfSayers rfl hd_X4_setsOfSayers (Nat.le_trans (Nat.le_of_ble_eq_true rfl) hRf) (Nat.le_trans (Nat.le_of_ble_eq_true rfl) hRl) hcs (zc_X4_setsOfSayers l D tL tO cI cJ cB cQ a_sm a_tx a_rd a_td a_sp a_ds a_sm_fars a_sm_common a_sm_others a_sm_scale a_td_says a_td_weights v_sm_asked v_sm_traced v_td_laws v_td_there v_td_sayers v3 hv3) rfl rfl 0 rfl hl.1 rfl rfl (Nat.le_of_ble_eq_true rfl) dX4_free_6 [0, 1] rfl rfl) hP hD hS hA [0, 1] rfl (fun H locs hP hS => ?_)
      refine lv_icmp_ge (tgt := 30) hx hb dX4_free_9 (by decide) (fun c9 => ?_) (fun c9 => ?_)
      · have hf := zk_t c9 hf
        obtain rfl := Option.some.inj hf
        exact hk _ _ _ hP hD hS (lv_sub hl [0, 1, 2] rfl)
      · have hf := zk_f c9 hf
        refine lv_aload_n hx hb dX4_free_12 rfl (lv_at hl 0 rfl) ?_
        refine lv_iload_n hx hb dX4_free_13 rfl (lv_at hl 2 rfl) ?_
        obtain ⟨v4, hv4, hf⟩ := zk_ob hf
        refine zk_goR (zk_V (As := [.int w2]) (rest := []) hx hb hml hown hts hK hG hP hD hS hA gX4_free_X4_isLeastQuarrel rfl hd_X4_isLeastQuarrel (Nat.le_trans (Nat.le_of_ble_eq_true rfl) hRf) (Nat.le_trans (Nat.le_of_ble_eq_true rfl) hRl) hcs (zc_X4_isLeastQuarrel l D tL tO cI cJ cB cQ a_sm a_tx a_rd a_td a_sp a_ds a_sm_fars a_sm_common a_sm_others a_sm_scale a_td_says a_td_weights w2 v_sm_asked v_sm_traced v_td_laws v_td_there v_td_sayers f_sm_common v4 hv4) rfl rfl 0 rfl hl.1 rfl rfl (Nat.le_of_ble_eq_true rfl) dX4_free_14 [0, 1, 2] rfl rfl) hP hD hS hA [0, 1, 2] rfl (fun H locs hP hS => ?_)
        refine lv_if_eq (tgt := 24) hx hb dX4_free_17 (by decide) (fun c8 => ?_) (fun c8 => ?_)
        · have hf := zk_t c8 hf
          obtain ⟨y5, ey5, hf⟩ := zk_lt_s hf
          refine lv_iinc (v := y5) (lv' := [(2, .int y5), (0, .ref a_sm), (1, .int w1)]) hx hb dX4_free_24 hl (k := 2) rfl (by rw [ey5]; rfl) (by decide) rfl (fun ls hl => ?_)
          refine lv_goto (tgt := 4) hx hb dX4_free_27 (by decide) ?_
          exact ih w1 y5 _ _ _ _ hf hP hD hS (lv_sub hl [1, 2, 0] rfl) hk
        · have hf := zk_f c8 hf
          refine lv_iload_n hx hb dX4_free_20 rfl (lv_at hl 1 rfl) ?_
          refine lv_iload_n hx hb dX4_free_21 rfl (lv_at hl 2 rfl) ?_
          refine lv_ior hx hb dX4_free_22 ?_
          obtain ⟨y6, ey6, hf⟩ := zk_lt_s hf
          refine zk_topi ey6 ?_
          refine lv_istore_n (lv' := [(1, .int y6), (0, .ref a_sm), (2, .int w2)]) hx hb dX4_free_23 rfl hl (by decide) rfl (fun ls hl => ?_)
          obtain ⟨y7, ey7, hf⟩ := zk_lt_s hf
          refine lv_iinc (v := y7) (lv' := [(2, .int y7), (1, .int y6), (0, .ref a_sm)]) hx hb dX4_free_24 hl (k := 2) rfl (by rw [ey7]; rfl) (by decide) rfl (fun ls hl => ?_)
          refine lv_goto (tgt := 4) hx hb dX4_free_27 (by decide) ?_
          exact ih y6 y7 _ _ _ _ hf hP hD hS (lv_sub hl [2, 1, 0] rfl) hk
  obtain ⟨v10, hv10, hf⟩ := zk_ob hf
  refine lp4 zk_F (0 : Int32) (0 : Int32) v10 _ _ _ hv10 hP hD hS (lv_sub hl [2, 1, 0] rfl) ?_
  intro H locs ls hP hD hS hl
  refine lv_aload_n hx hb dX4_free_30 rfl (lv_at hl 0 rfl) ?_
  obtain ⟨v11, hv11, hf⟩ := zk_ob hf
  refine zk_goR (zk_V (As := []) (rest := []) hx hb hml hown hts hK hG hP hD hS hA gX4_free_X4_setsOfSayers rfl hd_X4_setsOfSayers (Nat.le_trans (Nat.le_of_ble_eq_true rfl) hRf) (Nat.le_trans (Nat.le_of_ble_eq_true rfl) hRl) hcs (zc_X4_setsOfSayers l D tL tO cI cJ cB cQ a_sm a_tx a_rd a_td a_sp a_ds a_sm_fars a_sm_common a_sm_others a_sm_scale a_td_says a_td_weights v_sm_asked v_sm_traced v_td_laws v_td_there v_td_sayers v11 hv11) rfl rfl 0 rfl hl.1 rfl rfl (Nat.le_of_ble_eq_true rfl) dX4_free_31 [0, 1] rfl rfl) hP hD hS hA [0, 1] rfl (fun H locs hP hS => ?_)
  refine lv_iconst (v := (1 : Int32)) hx hb dX4_free_34 (by decide) ?_
  refine lv_isub hx hb dX4_free_35 ?_
  refine lv_iload_n hx hb dX4_free_36 rfl (lv_at hl 1 rfl) ?_
  refine lv_iconst (v := (-1 : Int32)) hx hb dX4_free_37 (by decide) ?_
  refine lv_ixor hx hb dX4_free_38 ?_
  refine lv_iand hx hb dX4_free_39 ?_
  obtain rfl := Option.some.inj hf
  exact hret trivial _ _ _ _ hP hD hS dX4_free_40
def zl_X4_findCommon_15 (v_td_sayers : Int32) (f_td_says : Nat → Int64) : Nat → (Int32) → (Nat → Int64) → Option (Int32 × (Nat → Int64))
  | 0, _, _ => none
  | n + 1, w2, w3 =>
    (zf_X4_setsOfSayers v_td_sayers).bind (fun v4 =>
    if v4 ≤ w2 then
    some (w2, w3)
    else
    (zf_J6_numberOfTrailingZeros_0f7a4 w2).bind (fun v5 =>
    zk_gd (zk_in (w2 &&& (((1 : Int32) <<< (v5 &&& 31)) ^^^ (-1 : Int32))) 128)
    (zk_gd (zk_in v5 7)
    (zk_gd (zk_in w2 128)
    (zk_lt (w2 + 1) (fun y9 =>
    zl_X4_findCommon_15 v_td_sayers f_td_says n y9 (vp_updL w3 w2.toNatClampNeg ((w3 (w2 &&& (((1 : Int32) <<< (v5 &&& 31)) ^^^ (-1 : Int32))).toNatClampNeg) &&& (f_td_says v5.toNatClampNeg)))))))))
def zf_X4_findCommon (v_td_there : Int64) (v_td_sayers : Int32) (f_td_says : Nat → Int64) (f_sm_common : Nat → Int64) : Option (Nat → Int64) :=
  zk_gd (zk_in (0 : Int32) 128)
  ((zl_X4_findCommon_15 v_td_sayers f_td_says zk_F (1 : Int32) (vp_updL f_sm_common (0 : Int32).toNatClampNeg v_td_there)).bind (fun v11 =>
  some v11.2))
theorem hd_X4_findCommon : yX4_findCommon.cls = RX4 ∧ yX4_findCommon.cls ≠ "java/lang/invoke/MethodHandle" ∧ yX4_findCommon.cls ≠ "java/lang/invoke/VarHandle" ∧ (parseMethodDescriptor yX4_findCommon.desc).map (fun d => d.parameters.length) = some 0 := by decide +kernel
set_option maxHeartbeats 4000000 in
set_option maxRecDepth 100000 in
theorem zc_X4_findCommon (l : Launch) (D : va_G) (tL tO : Nat) (cI cJ cB cQ : ClassId) (a_sm a_tx a_rd a_td a_sp a_ds a_sm_fars a_sm_common a_sm_others a_sm_scale a_td_says a_td_weights : Nat) (v_sm_asked : Int64) (v_sm_traced : Int64) (v_td_laws : Int32) (v_td_there : Int64) (v_td_sayers : Int32) (f_td_says : Nat → Int64) (f_sm_common : Nat → Int64) (z : Nat → Int64) (hf : zf_X4_findCommon v_td_there v_td_sayers f_td_says f_sm_common = some z) : zk_CT l D tL tO (zk_ty cI cJ cB cQ) yX4_findCommon wsX4_findCommon 1 21 [.ref a_sm] none [(a_sm, .inr (4, [.ref a_tx, .ref a_rd, .ref a_td, .ref a_sp, .long v_sm_asked, .ref a_ds, .ref a_sm_fars, .ref a_sm_common, .ref a_sm_others, .ref a_sm_scale, .long v_sm_traced])), (a_td, .inr (3, [.int v_td_laws, .long v_td_there, .int v_td_sayers, .ref a_td_says, .ref a_td_weights])), (a_td_says, .inl (cJ, 7, .inr (.inl f_td_says))), (a_sm_common, .inl (cJ, 128, .inr (.inl f_sm_common)))] [(a_sm, .inr (4, [.ref a_tx, .ref a_rd, .ref a_td, .ref a_sp, .long v_sm_asked, .ref a_ds, .ref a_sm_fars, .ref a_sm_common, .ref a_sm_others, .ref a_sm_scale, .long v_sm_traced])), (a_td, .inr (3, [.int v_td_laws, .long v_td_there, .int v_td_sayers, .ref a_td_says, .ref a_td_weights])), (a_td_says, .inl (cJ, 7, .inr (.inl f_td_says))), (a_sm_common, .inl (cJ, 128, .inr (.inl z)))] := by
  refine zk_of_v (cc := cX4_findCommon) (maxL := 3) (by decide) rfl (Nat.le_of_ble_eq_true rfl) ?_
  intro p e R s m args below meth c A Q ls hx hb hml hRf hRl hts hown hP hK hD hA hS hG hl hret
  have hl : lv_has ls 3 [(0, .ref a_sm)] := hl
  have hown : s.vm.findClass RX4 = some m.cls := hown
  have hcs : 0 ≤ R.cells ∧ 0 ≤ R.slots := ⟨Nat.zero_le _, Nat.zero_le _⟩
  have lk0 := hts (.fieldLink RX4 53 "SayingsMerged" "common" "[J") (by decide +kernel)
  have inX4 : ∀ w ∈ wsX40, w ∈ wsX4_findCommon := by decide +kernel
  have lk2 := hts (.fieldLink RX4 28 "SayingsMerged" "told" "LSayingsMerged$Told;") (by decide +kernel)
  have lk3 : (Cond.fieldLinkNest RX4 101 "SayingsMerged$Told" "there" "J" "SayingsMerged").before args s = true := va_Nw.use rfl (hG.1 _ (by decide +kernel))
  have inX3 : ∀ w ∈ wsX30, w ∈ wsX4_findCommon := by decide +kernel
  have lk5 : (Cond.fieldLinkNest RX4 108 "SayingsMerged$Told" "says" "[J" "SayingsMerged").before args s = true := va_Nw.use rfl (hG.1 _ (by decide +kernel))
  unfold zf_X4_findCommon at hf
  refine lv_aload_n hx hb dX4_findCommon_0 rfl (lv_at hl 0 rfl) ?_
  refine va_get (ci := 4) (v := .ref a_sm_common) (C := RX4) (T := TX4) (N := 11) hx hb hts inX4 hown hK hP 0 rfl rfl 7 (by decide) lk0 (fun _ h9 => h9) rfl dX4_findCommon_1 ?_
  refine lv_iconst (v := (0 : Int32)) hx hb dX4_findCommon_4 (by decide) ?_
  refine lv_aload_n hx hb dX4_findCommon_5 rfl (lv_at hl 0 rfl) ?_
  refine va_get (ci := 4) (v := .ref a_td) (C := RX4) (T := TX4) (N := 11) hx hb hts inX4 hown hK hP 0 rfl rfl 2 (by decide) lk2 (fun _ h9 => h9) rfl dX4_findCommon_6 ?_
  refine va_getN (ci := 3) (v := .long v_td_there) (C := RX3) (T := TX3) (N := 5) hx hb hts inX3 hown hK hP 1 rfl rfl 1 (by decide) lk3 (fun _ h9 => h9) rfl dX4_findCommon_9 ?_
  obtain ⟨g1, hf⟩ := zk_gd_s hf
  refine va_last hx hb hK hP hD hS 3 1 rfl rfl (zk_in_s g1) dX4_findCommon_12 (fun H locs hP hD hS => ?_)
  have hP : va_P D vwCl [(a_sm, .inr (4, [.ref a_tx, .ref a_rd, .ref a_td, .ref a_sp, .long v_sm_asked, .ref a_ds, .ref a_sm_fars, .ref a_sm_common, .ref a_sm_others, .ref a_sm_scale, .long v_sm_traced])), (a_td, .inr (3, [.int v_td_laws, .long v_td_there, .int v_td_sayers, .ref a_td_says, .ref a_td_weights])), (a_td_says, .inl (cJ, 7, .inr (.inl f_td_says))), (a_sm_common, .inl (cJ, 128, .inr (.inl (vp_updL f_sm_common (0 : Int32).toNatClampNeg v_td_there))))] H := hP
  have hD : va_D A [(a_sm, .inr (4, [.ref a_tx, .ref a_rd, .ref a_td, .ref a_sp, .long v_sm_asked, .ref a_ds, .ref a_sm_fars, .ref a_sm_common, .ref a_sm_others, .ref a_sm_scale, .long v_sm_traced])), (a_td, .inr (3, [.int v_td_laws, .long v_td_there, .int v_td_sayers, .ref a_td_says, .ref a_td_weights])), (a_td_says, .inl (cJ, 7, .inr (.inl f_td_says))), (a_sm_common, .inl (cJ, 128, .inr (.inl (vp_updL f_sm_common (0 : Int32).toNatClampNeg v_td_there))))] := hD
  refine lv_iconst (v := (1 : Int32)) hx hb dX4_findCommon_13 (by decide) ?_
  refine lv_istore_n (lv' := [(1, .int (1 : Int32)), (0, .ref a_sm)]) hx hb dX4_findCommon_14 rfl hl (by decide) rfl (fun ls hl => ?_)
  have lp15 : ∀ (n : Nat) (w2 : Int32) (w3 : Nat → Int64) (z15 : Int32 × (Nat → Int64)) (H : Heap) (locs : List Loc) (ls : Array Slot), zl_X4_findCommon_15 v_td_sayers f_td_says n w2 w3 = some z15 → va_P D vwCl [(a_sm, .inr (4, [.ref a_tx, .ref a_rd, .ref a_td, .ref a_sp, .long v_sm_asked, .ref a_ds, .ref a_sm_fars, .ref a_sm_common, .ref a_sm_others, .ref a_sm_scale, .long v_sm_traced])), (a_td, .inr (3, [.int v_td_laws, .long v_td_there, .int v_td_sayers, .ref a_td_says, .ref a_td_weights])), (a_td_says, .inl (cJ, 7, .inr (.inl f_td_says))), (a_sm_common, .inl (cJ, 128, .inr (.inl w3)))] H → va_D A [(a_sm, .inr (4, [.ref a_tx, .ref a_rd, .ref a_td, .ref a_sp, .long v_sm_asked, .ref a_ds, .ref a_sm_fars, .ref a_sm_common, .ref a_sm_others, .ref a_sm_scale, .long v_sm_traced])), (a_td, .inr (3, [.int v_td_laws, .long v_td_there, .int v_td_sayers, .ref a_td_says, .ref a_td_weights])), (a_td_says, .inl (cJ, 7, .inr (.inl f_td_says))), (a_sm_common, .inl (cJ, 128, .inr (.inl w3)))] → va_S A s.heap H locs → lv_has ls 3 [(0, .ref a_sm), (1, .int w2)] → (∀ (H : Heap) (locs : List Loc) (ls : Array Slot), va_P D vwCl [(a_sm, .inr (4, [.ref a_tx, .ref a_rd, .ref a_td, .ref a_sp, .long v_sm_asked, .ref a_ds, .ref a_sm_fars, .ref a_sm_common, .ref a_sm_others, .ref a_sm_scale, .long v_sm_traced])), (a_td, .inr (3, [.int v_td_laws, .long v_td_there, .int v_td_sayers, .ref a_td_says, .ref a_td_weights])), (a_td_says, .inl (cJ, 7, .inr (.inl f_td_says))), (a_sm_common, .inl (cJ, 128, .inr (.inl z15.2)))] H → va_D A [(a_sm, .inr (4, [.ref a_tx, .ref a_rd, .ref a_td, .ref a_sp, .long v_sm_asked, .ref a_ds, .ref a_sm_fars, .ref a_sm_common, .ref a_sm_others, .ref a_sm_scale, .long v_sm_traced])), (a_td, .inr (3, [.int v_td_laws, .long v_td_there, .int v_td_sayers, .ref a_td_says, .ref a_td_weights])), (a_td_says, .inl (cJ, 7, .inr (.inl f_td_says))), (a_sm_common, .inl (cJ, 128, .inr (.inl z15.2)))] → va_S A s.heap H locs → lv_has ls 3 [(0, .ref a_sm), (1, .int z15.1)] → W p l e R s m args below meth c H locs 0 0 Q (F0 m 62 ls [])) → W p l e R s m args below meth c H locs 0 0 Q (F0 m 15 ls []) := by
    intro n
    induction n with
    | zero => intro w2 w3 z15 H locs ls hf; exact absurd (show none = some z15 from hf) (by simp)
    | succ n ih =>
      intro w2 w3 z15 H locs ls hf hP hD hS hl hk
      rw [zl_X4_findCommon_15] at hf
      refine lv_iload_n hx hb dX4_findCommon_15 rfl (lv_at hl 1 rfl) ?_
      refine lv_aload_n hx hb dX4_findCommon_16 rfl (lv_at hl 0 rfl) ?_
      obtain ⟨v4, hv4, hf⟩ := zk_ob hf
      refine zk_goR (zk_V (As := []) (rest := [.int w2]) hx hb hml hown hts hK hG hP hD hS hA gX4_findCommon_X4_setsOfSayers rfl hd_X4_setsOfSayers (Nat.le_trans (Nat.le_of_ble_eq_true rfl) hRf) (Nat.le_trans (Nat.le_of_ble_eq_true rfl) hRl) hcs (zc_X4_setsOfSayers l D tL tO cI cJ cB cQ a_sm a_tx a_rd a_td a_sp a_ds a_sm_fars a_sm_common a_sm_others a_sm_scale a_td_says a_td_weights v_sm_asked v_sm_traced v_td_laws v_td_there v_td_sayers v4 hv4) rfl rfl 0 rfl hl.1 rfl rfl (Nat.le_of_ble_eq_true rfl) dX4_findCommon_17 [0, 1] rfl rfl) hP hD hS hA [0, 1] rfl (fun H locs hP hS => ?_)
      refine lv_icmp_ge (tgt := 62) hx hb dX4_findCommon_20 (by decide) (fun c10 => ?_) (fun c10 => ?_)
      · have hf := zk_t c10 hf
        obtain rfl := Option.some.inj hf
        exact hk _ _ _ hP hD hS (lv_sub hl [0, 1] rfl)
      · have hf := zk_f c10 hf
        refine lv_iload_n hx hb dX4_findCommon_23 rfl (lv_at hl 1 rfl) ?_
        obtain ⟨v5, hv5, hf⟩ := zk_ob hf
        refine zk_goR (zk_S (As := [.int w2]) (rest := []) hx hb hml hown hts hK hG hP hD hS hA gX4_findCommon_J6_numberOfTrailingZeros_0f7a4 rfl hd_J6_numberOfTrailingZeros_0f7a4 (Nat.le_trans (Nat.le_of_ble_eq_true rfl) hRf) (Nat.le_trans (Nat.le_of_ble_eq_true rfl) hRl) hcs (zc_J6_numberOfTrailingZeros_0f7a4 l D tL tO cI cJ cB cQ w2 v5 hv5) hl.1 rfl rfl (Nat.le_of_ble_eq_true rfl) dX4_findCommon_24 [] rfl rfl) hP hD hS hA [] rfl (fun H locs hP hS => ?_)
        refine lv_istore_n (lv' := [(2, .int v5), (0, .ref a_sm), (1, .int w2)]) hx hb dX4_findCommon_27 rfl hl (by decide) rfl (fun ls hl => ?_)
        refine lv_aload_n hx hb dX4_findCommon_28 rfl (lv_at hl 1 rfl) ?_
        refine va_get (ci := 4) (v := .ref a_sm_common) (C := RX4) (T := TX4) (N := 11) hx hb hts inX4 hown hK hP 0 rfl rfl 7 (by decide) lk0 (fun _ h9 => h9) rfl dX4_findCommon_29 ?_
        refine lv_iload_n hx hb dX4_findCommon_32 rfl (lv_at hl 2 rfl) ?_
        refine lv_aload_n hx hb dX4_findCommon_33 rfl (lv_at hl 1 rfl) ?_
        refine va_get (ci := 4) (v := .ref a_sm_common) (C := RX4) (T := TX4) (N := 11) hx hb hts inX4 hown hK hP 0 rfl rfl 7 (by decide) lk0 (fun _ h9 => h9) rfl dX4_findCommon_34 ?_
        refine lv_iload_n hx hb dX4_findCommon_37 rfl (lv_at hl 2 rfl) ?_
        refine lv_iconst (v := (1 : Int32)) hx hb dX4_findCommon_38 (by decide) ?_
        refine lv_iload_n hx hb dX4_findCommon_39 rfl (lv_at hl 0 rfl) ?_
        refine lv_ishl hx hb dX4_findCommon_40 ?_
        refine lv_iconst (v := (-1 : Int32)) hx hb dX4_findCommon_41 (by decide) ?_
        refine lv_ixor hx hb dX4_findCommon_42 ?_
        refine lv_iand hx hb dX4_findCommon_43 ?_
        obtain ⟨g6, hf⟩ := zk_gd_s hf
        refine va_lald hx hb hK hP 3 1 rfl rfl (zk_in_s g6) dX4_findCommon_44 ?_
        refine lv_aload_n hx hb dX4_findCommon_45 rfl (lv_at hl 1 rfl) ?_
        refine va_get (ci := 4) (v := .ref a_td) (C := RX4) (T := TX4) (N := 11) hx hb hts inX4 hown hK hP 0 rfl rfl 2 (by decide) lk2 (fun _ h9 => h9) rfl dX4_findCommon_46 ?_
        refine va_getN (ci := 3) (v := .ref a_td_says) (C := RX3) (T := TX3) (N := 5) hx hb hts inX3 hown hK hP 1 rfl rfl 3 (by decide) lk5 (fun _ h9 => h9) rfl dX4_findCommon_49 ?_
        refine lv_iload_n hx hb dX4_findCommon_52 rfl (lv_at hl 0 rfl) ?_
        obtain ⟨g7, hf⟩ := zk_gd_s hf
        refine va_lald hx hb hK hP 2 1 rfl rfl (zk_in_s g7) dX4_findCommon_53 ?_
        refine lv_land hx hb dX4_findCommon_54 ?_
        obtain ⟨g8, hf⟩ := zk_gd_s hf
        refine va_last hx hb hK hP hD hS 3 1 rfl rfl (zk_in_s g8) dX4_findCommon_55 (fun H locs hP hD hS => ?_)
        have hP : va_P D vwCl [(a_sm, .inr (4, [.ref a_tx, .ref a_rd, .ref a_td, .ref a_sp, .long v_sm_asked, .ref a_ds, .ref a_sm_fars, .ref a_sm_common, .ref a_sm_others, .ref a_sm_scale, .long v_sm_traced])), (a_td, .inr (3, [.int v_td_laws, .long v_td_there, .int v_td_sayers, .ref a_td_says, .ref a_td_weights])), (a_td_says, .inl (cJ, 7, .inr (.inl f_td_says))), (a_sm_common, .inl (cJ, 128, .inr (.inl (vp_updL w3 w2.toNatClampNeg ((w3 (w2 &&& (((1 : Int32) <<< (v5 &&& 31)) ^^^ (-1 : Int32))).toNatClampNeg) &&& (f_td_says v5.toNatClampNeg))))))] H := hP
        have hD : va_D A [(a_sm, .inr (4, [.ref a_tx, .ref a_rd, .ref a_td, .ref a_sp, .long v_sm_asked, .ref a_ds, .ref a_sm_fars, .ref a_sm_common, .ref a_sm_others, .ref a_sm_scale, .long v_sm_traced])), (a_td, .inr (3, [.int v_td_laws, .long v_td_there, .int v_td_sayers, .ref a_td_says, .ref a_td_weights])), (a_td_says, .inl (cJ, 7, .inr (.inl f_td_says))), (a_sm_common, .inl (cJ, 128, .inr (.inl (vp_updL w3 w2.toNatClampNeg ((w3 (w2 &&& (((1 : Int32) <<< (v5 &&& 31)) ^^^ (-1 : Int32))).toNatClampNeg) &&& (f_td_says v5.toNatClampNeg))))))] := hD
        obtain ⟨y9, ey9, hf⟩ := zk_lt_s hf
        refine lv_iinc (v := y9) (lv' := [(1, .int y9), (2, .int v5), (0, .ref a_sm)]) hx hb dX4_findCommon_56 hl (k := 2) rfl (by rw [ey9]; rfl) (by decide) rfl (fun ls hl => ?_)
        refine lv_goto (tgt := 15) hx hb dX4_findCommon_59 (by decide) ?_
        exact ih y9 (vp_updL w3 w2.toNatClampNeg ((w3 (w2 &&& (((1 : Int32) <<< (v5 &&& 31)) ^^^ (-1 : Int32))).toNatClampNeg) &&& (f_td_says v5.toNatClampNeg))) _ _ _ _ hf hP hD hS (lv_sub hl [2, 0] rfl) hk
  obtain ⟨v11, hv11, hf⟩ := zk_ob hf
  refine lp15 zk_F (1 : Int32) (vp_updL f_sm_common (0 : Int32).toNatClampNeg v_td_there) v11 _ _ _ hv11 hP hD hS (lv_sub hl [1, 0] rfl) ?_
  intro H locs ls hP hD hS hl
  obtain rfl := Option.some.inj hf
  exact hret trivial _ _ _ _ hP hD hS dX4_findCommon_62
