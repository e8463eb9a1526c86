def zf_X4_burdenOf (x0 : Int32) (x1 : Int32) (f_td_weights : Nat → Int32) (f_sm_fars : Nat → Nat → Int64) : Option (Int64) :=
  zk_gd (zk_in x0 7)
  (zk_gd (zk_in x1 64)
  (some (((f_td_weights x0.toNatClampNeg).toInt64) * (f_sm_fars x0.toNatClampNeg x1.toNatClampNeg))))
theorem hd_X4_burdenOf : yX4_burdenOf.cls = RX4 ∧ yX4_burdenOf.cls ≠ "java/lang/invoke/MethodHandle" ∧ yX4_burdenOf.cls ≠ "java/lang/invoke/VarHandle" ∧ (parseMethodDescriptor yX4_burdenOf.desc).map (fun d => d.parameters.length) = some 2 := by decide +kernel
set_option maxHeartbeats 4000000 in
set_option maxRecDepth 100000 in
theorem zc_X4_burdenOf (l : Launch) (D : va_G) (tL tO : Nat) (cI cJ cB cQ : ClassId) (a_sm a_tx a_rd a_td a_sp a_ds a_sm_fars a_sm_common a_sm_others a_sm_scale a_td_says a_td_weights : Nat) (r_sm_fars : Nat → Nat) (x0 : Int32) (x1 : Int32) (v_sm_asked : Int64) (v_sm_traced : Int64) (v_td_laws : Int32) (v_td_there : Int64) (v_td_sayers : Int32) (f_td_weights : Nat → Int32) (f_sm_fars : Nat → Nat → Int64) (z : Int64) (hf : zf_X4_burdenOf x0 x1 f_td_weights f_sm_fars = some z) : zk_CT l D tL tO (zk_ty cI cJ cB cQ) yX4_burdenOf wsX4_burdenOf 0 0 [.ref a_sm, .int x0, .int x1] (some (.long z)) [(a_sm, .inr (4, [.ref a_tx, .ref a_rd, .ref a_td, .ref a_sp, .long v_sm_asked, .ref a_ds, .ref a_sm_fars, .ref a_sm_common, .ref a_sm_others, .ref a_sm_scale, .long v_sm_traced])), (a_td, .inr (3, [.int v_td_laws, .long v_td_there, .int v_td_sayers, .ref a_td_says, .ref a_td_weights])), (a_td_weights, .inl (cI, 7, .inl f_td_weights)), (a_sm_fars, .inl (cQ, 7, .inr (.inr (.inr (.inr (fun i => if i < 7 then some (r_sm_fars i) else none)))))), ((r_sm_fars 0), .inl (cJ, 64, .inr (.inl (f_sm_fars 0)))), ((r_sm_fars 1), .inl (cJ, 64, .inr (.inl (f_sm_fars 1)))), ((r_sm_fars 2), .inl (cJ, 64, .inr (.inl (f_sm_fars 2)))), ((r_sm_fars 3), .inl (cJ, 64, .inr (.inl (f_sm_fars 3)))), ((r_sm_fars 4), .inl (cJ, 64, .inr (.inl (f_sm_fars 4)))), ((r_sm_fars 5), .inl (cJ, 64, .inr (.inl (f_sm_fars 5)))), ((r_sm_fars 6), .inl (cJ, 64, .inr (.inl (f_sm_fars 6))))] [(a_sm, .inr (4, [.ref a_tx, .ref a_rd, .ref a_td, .ref a_sp, .long v_sm_asked, .ref a_ds, .ref a_sm_fars, .ref a_sm_common, .ref a_sm_others, .ref a_sm_scale, .long v_sm_traced])), (a_td, .inr (3, [.int v_td_laws, .long v_td_there, .int v_td_sayers, .ref a_td_says, .ref a_td_weights])), (a_td_weights, .inl (cI, 7, .inl f_td_weights)), (a_sm_fars, .inl (cQ, 7, .inr (.inr (.inr (.inr (fun i => if i < 7 then some (r_sm_fars i) else none)))))), ((r_sm_fars 0), .inl (cJ, 64, .inr (.inl (f_sm_fars 0)))), ((r_sm_fars 1), .inl (cJ, 64, .inr (.inl (f_sm_fars 1)))), ((r_sm_fars 2), .inl (cJ, 64, .inr (.inl (f_sm_fars 2)))), ((r_sm_fars 3), .inl (cJ, 64, .inr (.inl (f_sm_fars 3)))), ((r_sm_fars 4), .inl (cJ, 64, .inr (.inl (f_sm_fars 4)))), ((r_sm_fars 5), .inl (cJ, 64, .inr (.inl (f_sm_fars 5)))), ((r_sm_fars 6), .inl (cJ, 64, .inr (.inl (f_sm_fars 6))))] := by
  refine zk_of_l (cc := cX4_burdenOf) (maxL := 3) (by decide) rfl (Nat.le_of_ble_eq_true rfl) ?_
  intro p e R s m args below meth c A Q ls hx hb hml hRf hRl hts hown hP hK hD hA hS hG hl hret
  have hl : lv_has ls 3 [(0, .ref a_sm), (1, .int x0), (2, .int x1)] := hl
  have hown : s.vm.findClass RX4 = some m.cls := hown
  have hcs : 0 ≤ R.cells ∧ 0 ≤ R.slots := ⟨Nat.zero_le _, Nat.zero_le _⟩
  have lk0 := hts (.fieldLink RX4 28 "SayingsMerged" "told" "LSayingsMerged$Told;") (by decide +kernel)
  have inX4 : ∀ w ∈ wsX40, w ∈ wsX4_burdenOf := by decide +kernel
  have lk2 : (Cond.fieldLinkNest RX4 212 "SayingsMerged$Told" "weights" "[I" "SayingsMerged").before args s = true := va_Nw.use rfl (hG.1 _ (by decide +kernel))
  have inX3 : ∀ w ∈ wsX30, w ∈ wsX4_burdenOf := by decide +kernel
  have lk4 := hts (.fieldLink RX4 50 "SayingsMerged" "fars" "[[J") (by decide +kernel)
  unfold zf_X4_burdenOf at hf
  refine lv_aload_n hx hb dX4_burdenOf_0 rfl (lv_at hl 0 rfl) ?_
  refine va_get (ci := 4) (v := .ref a_td) (C := RX4) (T := TX4) (N := 11) hx hb hts inX4 hown hK hP 0 rfl rfl 2 (by decide) lk0 (fun _ h9 => h9) rfl dX4_burdenOf_1 ?_
  refine va_getN (ci := 3) (v := .ref a_td_weights) (C := RX3) (T := TX3) (N := 5) hx hb hts inX3 hown hK hP 1 rfl rfl 4 (by decide) lk2 (fun _ h9 => h9) rfl dX4_burdenOf_4 ?_
  refine lv_iload_n hx hb dX4_burdenOf_7 rfl (lv_at hl 1 rfl) ?_
  obtain ⟨g1, hf⟩ := zk_gd_s hf
  refine va_iald hx hb hK hP 2 0 rfl rfl (zk_in_s g1) dX4_burdenOf_8 ?_
  refine lv_i2l hx hb dX4_burdenOf_9 rfl ?_
  refine lv_aload_n hx hb dX4_burdenOf_10 rfl (lv_at hl 0 rfl) ?_
  refine va_get (ci := 4) (v := .ref a_sm_fars) (C := RX4) (T := TX4) (N := 11) hx hb hts inX4 hown hK hP 0 rfl rfl 6 (by decide) lk4 (fun _ h9 => h9) rfl dX4_burdenOf_11 ?_
  refine lv_iload_n hx hb dX4_burdenOf_14 rfl (lv_at hl 1 rfl) ?_
  refine zk_aald hx hb hK hP 3 3 rfl rfl (zk_in_s g1) dX4_burdenOf_15 ?_
  refine lv_iload_n hx hb dX4_burdenOf_16 rfl (lv_at hl 2 rfl) ?_
  obtain ⟨g2, hf⟩ := zk_gd_s hf
  refine va_lald hx hb hK hP (4 + x0.toNatClampNeg) 1 (zk_7 (P := fun j9 => ([(a_sm, .inr (4, [.ref a_tx, .ref a_rd, .ref a_td, .ref a_sp, .long v_sm_asked, .ref a_ds, .ref a_sm_fars, .ref a_sm_common, .ref a_sm_others, .ref a_sm_scale, .long v_sm_traced])), (a_td, .inr (3, [.int v_td_laws, .long v_td_there, .int v_td_sayers, .ref a_td_says, .ref a_td_weights])), (a_td_weights, .inl (cI, 7, .inl f_td_weights)), (a_sm_fars, .inl (cQ, 7, .inr (.inr (.inr (.inr (fun i => if i < 7 then some (r_sm_fars i) else none)))))), ((r_sm_fars 0), .inl (cJ, 64, .inr (.inl (f_sm_fars 0)))), ((r_sm_fars 1), .inl (cJ, 64, .inr (.inl (f_sm_fars 1)))), ((r_sm_fars 2), .inl (cJ, 64, .inr (.inl (f_sm_fars 2)))), ((r_sm_fars 3), .inl (cJ, 64, .inr (.inl (f_sm_fars 3)))), ((r_sm_fars 4), .inl (cJ, 64, .inr (.inl (f_sm_fars 4)))), ((r_sm_fars 5), .inl (cJ, 64, .inr (.inl (f_sm_fars 5)))), ((r_sm_fars 6), .inl (cJ, 64, .inr (.inl (f_sm_fars 6))))] : va_W)[4 + j9]? = some (r_sm_fars j9, .inl (cJ, 64, .inr (.inl (f_sm_fars j9))))) rfl rfl rfl rfl rfl rfl rfl _ (zk_lt7 g1)) rfl (zk_in_s g2) dX4_burdenOf_17 ?_
  refine lv_lmul hx hb dX4_burdenOf_18 ?_
  obtain rfl := Option.some.inj hf
  exact hret trivial _ _ _ _ hP hD hS dX4_burdenOf_19
def zf_X4_burden (x0 : Int32) (x1 : Int32) (v_td_sayers : Int32) (f_td_weights : Nat → Int32) (f_sm_fars : Nat → Nat → Int64) : Option (Int32) :=
  (zf_X4_isSayer x0 v_td_sayers).bind (fun v1 =>
  if v1 = 0 then
  some (-1 : Int32)
  else
  (zf_X4_isWorld x1).bind (fun v2 =>
  if v2 = 0 then
  some (-1 : Int32)
  else
  (zf_X4_burdenOf x0 x1 f_td_weights f_sm_fars).bind (fun v3 =>
  some v3.toInt32)))
theorem hd_X4_burden : yX4_burden.cls = RX4 ∧ yX4_burden.cls ≠ "java/lang/invoke/MethodHandle" ∧ yX4_burden.cls ≠ "java/lang/invoke/VarHandle" ∧ (parseMethodDescriptor yX4_burden.desc).map (fun d => d.parameters.length) = some 2 := by decide +kernel
set_option maxHeartbeats 4000000 in
set_option maxRecDepth 100000 in
theorem zc_X4_burden (l : Launch) (D : va_G) (tL tO : Nat) (cI cJ cB cQ : ClassId) (a_sm a_tx a_rd a_td a_sp a_ds a_sm_fars a_sm_common a_sm_others a_sm_scale a_td_says a_td_weights : Nat) (r_sm_fars : Nat → Nat) (x0 : Int32) (x1 : Int32) (v_sm_asked : Int64) (v_sm_traced : Int64) (v_td_laws : Int32) (v_td_there : Int64) (v_td_sayers : Int32) (f_td_weights : Nat → Int32) (f_sm_fars : Nat → Nat → Int64) (z : Int32) (hf : zf_X4_burden x0 x1 v_td_sayers f_td_weights f_sm_fars = some z) : zk_CT l D tL tO (zk_ty cI cJ cB cQ) yX4_burden wsX4_burden 1 22 [.ref a_sm, .int x0, .int x1] (some (.int z)) [(a_sm, .inr (4, [.ref a_tx, .ref a_rd, .ref a_td, .ref a_sp, .long v_sm_asked, .ref a_ds, .ref a_sm_fars, .ref a_sm_common, .ref a_sm_others, .ref a_sm_scale, .long v_sm_traced])), (a_td, .inr (3, [.int v_td_laws, .long v_td_there, .int v_td_sayers, .ref a_td_says, .ref a_td_weights])), (a_td_weights, .inl (cI, 7, .inl f_td_weights)), (a_sm_fars, .inl (cQ, 7, .inr (.inr (.inr (.inr (fun i => if i < 7 then some (r_sm_fars i) else none)))))), ((r_sm_fars 0), .inl (cJ, 64, .inr (.inl (f_sm_fars 0)))), ((r_sm_fars 1), .inl (cJ, 64, .inr (.inl (f_sm_fars 1)))), ((r_sm_fars 2), .inl (cJ, 64, .inr (.inl (f_sm_fars 2)))), ((r_sm_fars 3), .inl (cJ, 64, .inr (.inl (f_sm_fars 3)))), ((r_sm_fars 4), .inl (cJ, 64, .inr (.inl (f_sm_fars 4)))), ((r_sm_fars 5), .inl (cJ, 64, .inr (.inl (f_sm_fars 5)))), ((r_sm_fars 6), .inl (cJ, 64, .inr (.inl (f_sm_fars 6))))] [(a_sm, .inr (4, [.ref a_tx, .ref a_rd, .ref a_td, .ref a_sp, .long v_sm_asked, .ref a_ds, .ref a_sm_fars, .ref a_sm_common, .ref a_sm_others, .ref a_sm_scale, .long v_sm_traced])), (a_td, .inr (3, [.int v_td_laws, .long v_td_there, .int v_td_sayers, .ref a_td_says, .ref a_td_weights])), (a_td_weights, .inl (cI, 7, .inl f_td_weights)), (a_sm_fars, .inl (cQ, 7, .inr (.inr (.inr (.inr (fun i => if i < 7 then some (r_sm_fars i) else none)))))), ((r_sm_fars 0), .inl (cJ, 64, .inr (.inl (f_sm_fars 0)))), ((r_sm_fars 1), .inl (cJ, 64, .inr (.inl (f_sm_fars 1)))), ((r_sm_fars 2), .inl (cJ, 64, .inr (.inl (f_sm_fars 2)))), ((r_sm_fars 3), .inl (cJ, 64, .inr (.inl (f_sm_fars 3)))), ((r_sm_fars 4), .inl (cJ, 64, .inr (.inl (f_sm_fars 4)))), ((r_sm_fars 5), .inl (cJ, 64, .inr (.inl (f_sm_fars 5)))), ((r_sm_fars 6), .inl (cJ, 64, .inr (.inl (f_sm_fars 6))))] := by
  refine zk_of_i (cc := cX4_burden) (maxL := 3) (by decide) rfl (Nat.le_of_ble_eq_true rfl) ?_
  intro p e R s m args below meth c A Q ls hx hb hml hRf hRl hts hown hP hK hD hA hS hG hl hret
  have hl : lv_has ls 3 [(0, .ref a_sm), (1, .int x0), (2, .int x1)] := hl
  have hown : s.vm.findClass RX4 = some m.cls := hown
  have hcs : 0 ≤ R.cells ∧ 0 ≤ R.slots := ⟨Nat.zero_le _, Nat.zero_le _⟩
  unfold zf_X4_burden at hf
  refine lv_aload_n hx hb dX4_burden_0 rfl (lv_at hl 0 rfl) ?_
  refine lv_iload_n hx hb dX4_burden_1 rfl (lv_at hl 1 rfl) ?_
  obtain ⟨v1, hv1, hf⟩ := zk_ob hf
  refine zk_goR (zk_V (As := [.int x0]) (rest := []) hx hb hml hown hts hK hG hP hD hS hA gX4_burden_X4_isSayer rfl hd_X4_isSayer (Nat.le_trans (Nat.le_of_ble_eq_true rfl) hRf) (Nat.le_trans (Nat.le_of_ble_eq_true rfl) hRl) hcs (zc_X4_isSayer l D tL tO cI cJ cB cQ a_sm a_tx a_rd a_td a_sp a_ds a_sm_fars a_sm_common a_sm_others a_sm_scale a_td_says a_td_weights x0 v_sm_asked v_sm_traced v_td_laws v_td_there v_td_sayers v1 hv1) rfl rfl 0 rfl hl.1 rfl rfl (Nat.le_of_ble_eq_true rfl) dX4_burden_2 [0, 1] rfl rfl) hP hD hS hA [0, 1] rfl (fun H locs hP hS => ?_)
  refine lv_if_eq (tgt := 15) hx hb dX4_burden_5 (by decide) (fun c5 => ?_) (fun c5 => ?_)
  · have hf := zk_t c5 hf
    refine lv_iconst (v := (-1 : Int32)) hx hb dX4_burden_15 (by decide) ?_
    obtain rfl := Option.some.inj hf
    exact hret trivial _ _ _ _ hP hD hS dX4_burden_16
  · have hf := zk_f c5 hf
    refine lv_iload_n hx hb dX4_burden_8 rfl (lv_at hl 2 rfl) ?_
    obtain ⟨v2, hv2, hf⟩ := zk_ob hf
    refine zk_goR (zk_S (As := [.int x1]) (rest := []) hx hb hml hown hts hK hG hP hD hS hA gX4_burden_X4_isWorld rfl hd_X4_isWorld (Nat.le_trans (Nat.le_of_ble_eq_true rfl) hRf) (Nat.le_trans (Nat.le_of_ble_eq_true rfl) hRl) hcs (zc_X4_isWorld l D tL tO cI cJ cB cQ x1 v2 hv2) hl.1 rfl rfl (Nat.le_of_ble_eq_true rfl) dX4_burden_9 [] rfl rfl) hP hD hS hA [] rfl (fun H locs hP hS => ?_)
    refine lv_if_ne (tgt := 17) hx hb dX4_burden_12 (by decide) (fun c4 => ?_) (fun c4 => ?_)
    · have hf := zk_f c4 hf
      refine lv_aload_n hx hb dX4_burden_17 rfl (lv_at hl 0 rfl) ?_
      refine lv_iload_n hx hb dX4_burden_18 rfl (lv_at hl 1 rfl) ?_
      refine lv_iload_n hx hb dX4_burden_19 rfl (lv_at hl 2 rfl) ?_
      obtain ⟨v3, hv3, hf⟩ := zk_ob hf
      refine zk_goR (zk_V (As := [.int x0, .int x1]) (rest := []) hx hb hml hown hts hK hG hP hD hS hA gX4_burden_X4_burdenOf rfl hd_X4_burdenOf (Nat.le_trans (Nat.le_of_ble_eq_true rfl) hRf) (Nat.le_trans (Nat.le_of_ble_eq_true rfl) hRl) hcs (zc_X4_burdenOf l D tL tO cI cJ cB cQ a_sm a_tx a_rd a_td a_sp a_ds a_sm_fars a_sm_common a_sm_others a_sm_scale a_td_says a_td_weights r_sm_fars x0 x1 v_sm_asked v_sm_traced v_td_laws v_td_there v_td_sayers f_td_weights f_sm_fars v3 hv3) rfl rfl 0 rfl hl.1 rfl rfl (Nat.le_of_ble_eq_true rfl) dX4_burden_20 [0, 1, 2, 3, 4, 5, 6, 7, 8, 9, 10] rfl rfl) hP hD hS hA [0, 1, 2, 3, 4, 5, 6, 7, 8, 9, 10] rfl (fun H locs hP hS => ?_)
      refine lv_l2i hx hb dX4_burden_23 rfl ?_
      obtain rfl := Option.some.inj hf
      exact hret trivial _ _ _ _ hP hD hS dX4_burden_24
    · have hf := zk_t c4 hf
      refine lv_iconst (v := (-1 : Int32)) hx hb dX4_burden_15 (by decide) ?_
      obtain rfl := Option.some.inj hf
      exact hret trivial _ _ _ _ hP hD hS dX4_burden_16
def zl_X4_weighed_6 (x0 : Int32) (x1 : Int32) (x2 : Int32) (v_td_sayers : Int32) (f_td_weights : Nat → Int32) (f_sm_fars : Nat → Nat → Int64) : Nat → (Int64) → (Int32) → Option (Int64 × Int32)
  | 0, _, _ => none
  | n + 1, w1, w2 =>
    if v_td_sayers ≤ w2 then
    some (w1, w2)
    else
    if w2 = x2 then
    zk_lt (w2 + 1) (fun y3 =>
    zl_X4_weighed_6 x0 x1 x2 v_td_sayers f_td_weights f_sm_fars n w1 y3)
    else
    (zf_X4_burdenOf w2 x1 f_td_weights f_sm_fars).bind (fun v4 =>
    (zf_X4_joined x0 w1 v4).bind (fun v5 =>
    zk_lt (w2 + 1) (fun y6 =>
    zl_X4_weighed_6 x0 x1 x2 v_td_sayers f_td_weights f_sm_fars n v5 y6)))
def zf_X4_weighed (x0 : Int32) (x1 : Int32) (x2 : Int32) (v_td_sayers : Int32) (f_td_weights : Nat → Int32) (f_sm_fars : Nat → Nat → Int64) : Option (Int64) :=
  (zl_X4_weighed_6 x0 x1 x2 v_td_sayers f_td_weights f_sm_fars zk_F (0 : Int64) (0 : Int32)).bind (fun v9 =>
  some v9.1)
theorem hd_X4_weighed : yX4_weighed.cls = RX4 ∧ yX4_weighed.cls ≠ "java/lang/invoke/MethodHandle" ∧ yX4_weighed.cls ≠ "java/lang/invoke/VarHandle" ∧ (parseMethodDescriptor yX4_weighed.desc).map (fun d => d.parameters.length) = some 3 := by decide +kernel
set_option maxHeartbeats 4000000 in
set_option maxRecDepth 100000 in
theorem zc_X4_weighed (l : Launch) (D : va_G) (tL tO : Nat) (cI cJ cB cQ : ClassId) (a_sm a_tx a_rd a_td a_sp a_ds a_sm_fars a_sm_common a_sm_others a_sm_scale a_td_says a_td_weights : Nat) (r_sm_fars : Nat → Nat) (x0 : Int32) (x1 : Int32) (x2 : Int32) (v_sm_asked : Int64) (v_sm_traced : Int64) (v_td_laws : Int32) (v_td_there : Int64) (v_td_sayers : Int32) (f_td_weights : Nat → Int32) (f_sm_fars : Nat → Nat → Int64) (z : Int64) (hf : zf_X4_weighed x0 x1 x2 v_td_sayers f_td_weights f_sm_fars = some z) : zk_CT l D tL tO (zk_ty cI cJ cB cQ) yX4_weighed wsX4_weighed 2 52 [.ref a_sm, .int x0, .int x1, .int x2] (some (.long z)) [(a_sm, .inr (4, [.ref a_tx, .ref a_rd, .ref a_td, .ref a_sp, .long v_sm_asked, .ref a_ds, .ref a_sm_fars, .ref a_sm_common, .ref a_sm_others, .ref a_sm_scale, .long v_sm_traced])), (a_td, .inr (3, [.int v_td_laws, .long v_td_there, .int v_td_sayers, .ref a_td_says, .ref a_td_weights])), (a_td_weights, .inl (cI, 7, .inl f_td_weights)), (a_sm_fars, .inl (cQ, 7, .inr (.inr (.inr (.inr (fun i => if i < 7 then some (r_sm_fars i) else none)))))), ((r_sm_fars 0), .inl (cJ, 64, .inr (.inl (f_sm_fars 0)))), ((r_sm_fars 1), .inl (cJ, 64, .inr (.inl (f_sm_fars 1)))), ((r_sm_fars 2), .inl (cJ, 64, .inr (.inl (f_sm_fars 2)))), ((r_sm_fars 3), .inl (cJ, 64, .inr (.inl (f_sm_fars 3)))), ((r_sm_fars 4), .inl (cJ, 64, .inr (.inl (f_sm_fars 4)))), ((r_sm_fars 5), .inl (cJ, 64, .inr (.inl (f_sm_fars 5)))), ((r_sm_fars 6), .inl (cJ, 64, .inr (.inl (f_sm_fars 6))))] [(a_sm, .inr (4, [.ref a_tx, .ref a_rd, .ref a_td, .ref a_sp, .long v_sm_asked, .ref a_ds, .ref a_sm_fars, .ref a_sm_common, .ref a_sm_others, .ref a_sm_scale, .long v_sm_traced])), (a_td, .inr (3, [.int v_td_laws, .long v_td_there, .int v_td_sayers, .ref a_td_says, .ref a_td_weights])), (a_td_weights, .inl (cI, 7, .inl f_td_weights)), (a_sm_fars, .inl (cQ, 7, .inr (.inr (.inr (.inr (fun i => if i < 7 then some (r_sm_fars i) else none)))))), ((r_sm_fars 0), .inl (cJ, 64, .inr (.inl (f_sm_fars 0)))), ((r_sm_fars 1), .inl (cJ, 64, .inr (.inl (f_sm_fars 1)))), ((r_sm_fars 2), .inl (cJ, 64, .inr (.inl (f_sm_fars 2)))), ((r_sm_fars 3), .inl (cJ, 64, .inr (.inl (f_sm_fars 3)))), ((r_sm_fars 4), .inl (cJ, 64, .inr (.inl (f_sm_fars 4)))), ((r_sm_fars 5), .inl (cJ, 64, .inr (.inl (f_sm_fars 5)))), ((r_sm_fars 6), .inl (cJ, 64, .inr (.inl (f_sm_fars 6))))] := by
  refine zk_of_l (cc := cX4_weighed) (maxL := 7) (by decide) rfl (Nat.le_of_ble_eq_true rfl) ?_
  intro p e R s m args below meth c A Q ls hx hb hml hRf hRl hts hown hP hK hD hA hS hG hl hret
  have hl : lv_has ls 7 [(0, .ref a_sm), (1, .int x0), (2, .int x1), (3, .int x2)] := hl
  have hown : s.vm.findClass RX4 = some m.cls := hown
  have hcs : 0 ≤ R.cells ∧ 0 ≤ R.slots := ⟨Nat.zero_le _, Nat.zero_le _⟩
  have lk0 := hts (.fieldLink RX4 28 "SayingsMerged" "told" "LSayingsMerged$Told;") (by decide +kernel)
  have inX4 : ∀ w ∈ wsX40, w ∈ wsX4_weighed := by decide +kernel
  have lk2 : (Cond.fieldLinkNest RX4 94 "SayingsMerged$Told" "sayers" "I" "SayingsMerged").before args s = true := va_Nw.use rfl (hG.1 _ (by decide +kernel))
  have inX3 : ∀ w ∈ wsX30, w ∈ wsX4_weighed := by decide +kernel
  unfold zf_X4_weighed at hf
  refine lv_lconst (v := (0 : Int64)) hx hb dX4_weighed_0 (by decide) ?_
  refine lv_lstore (lv' := [(4, .long (0 : Int64)), (0, .ref a_sm), (1, .int x0), (2, .int x1), (3, .int x2)]) hx hb dX4_weighed_1 hl (by decide) rfl (fun ls hl => ?_)
  refine lv_iconst (v := (0 : Int32)) hx hb dX4_weighed_3 (by decide) ?_
  refine lv_istore (lv' := [(6, .int (0 : Int32)), (4, .long (0 : Int64)), (0, .ref a_sm), (1, .int x0), (2, .int x1), (3, .int x2)]) hx hb dX4_weighed_4 hl (by decide) rfl (fun ls hl => ?_)
  have lp6 : ∀ (n : Nat) (w1 : Int64) (w2 : Int32) (z6 : Int64 × Int32) (H : Heap) (locs : List Loc) (ls : Array Slot), zl_X4_weighed_6 x0 x1 x2 v_td_sayers f_td_weights f_sm_fars n w1 w2 = some z6 → va_P D vwCl [(a_sm, .inr (4, [.ref a_tx, .ref a_rd, .ref a_td, .ref a_sp, .long v_sm_asked, .ref a_ds, .ref a_sm_fars, .ref a_sm_common, .ref a_sm_others, .ref a_sm_scale, .long v_sm_traced])), (a_td, .inr (3, [.int v_td_laws, .long v_td_there, .int v_td_sayers, .ref a_td_says, .ref a_td_weights])), (a_td_weights, .inl (cI, 7, .inl f_td_weights)), (a_sm_fars, .inl (cQ, 7, .inr (.inr (.inr (.inr (fun i => if i < 7 then some (r_sm_fars i) else none)))))), ((r_sm_fars 0), .inl (cJ, 64, .inr (.inl (f_sm_fars 0)))), ((r_sm_fars 1), .inl (cJ, 64, .inr (.inl (f_sm_fars 1)))), ((r_sm_fars 2), .inl (cJ, 64, .inr (.inl (f_sm_fars 2)))), ((r_sm_fars 3), .inl (cJ, 64, .inr (.inl (f_sm_fars 3)))), ((r_sm_fars 4), .inl (cJ, 64, .inr (.inl (f_sm_fars 4)))), ((r_sm_fars 5), .inl (cJ, 64, .inr (.inl (f_sm_fars 5)))), ((r_sm_fars 6), .inl (cJ, 64, .inr (.inl (f_sm_fars 6))))] H → va_D A [(a_sm, .inr (4, [.ref a_tx, .ref a_rd, .ref a_td, .ref a_sp, .long v_sm_asked, .ref a_ds, .ref a_sm_fars, .ref a_sm_common, .ref a_sm_others, .ref a_sm_scale, .long v_sm_traced])), (a_td, .inr (3, [.int v_td_laws, .long v_td_there, .int v_td_sayers, .ref a_td_says, .ref a_td_weights])), (a_td_weights, .inl (cI, 7, .inl f_td_weights)), (a_sm_fars, .inl (cQ, 7, .inr (.inr (.inr (.inr (fun i => if i < 7 then some (r_sm_fars i) else none)))))), ((r_sm_fars 0), .inl (cJ, 64, .inr (.inl (f_sm_fars 0)))), ((r_sm_fars 1), .inl (cJ, 64, .inr (.inl (f_sm_fars 1)))), ((r_sm_fars 2), .inl (cJ, 64, .inr (.inl (f_sm_fars 2)))), ((r_sm_fars 3), .inl (cJ, 64, .inr (.inl (f_sm_fars 3)))), ((r_sm_fars 4), .inl (cJ, 64, .inr (.inl (f_sm_fars 4)))), ((r_sm_fars 5), .inl (cJ, 64, .inr (.inl (f_sm_fars 5)))), ((r_sm_fars 6), .inl (cJ, 64, .inr (.inl (f_sm_fars 6))))] → va_S A s.heap H locs → lv_has ls 7 [(0, .ref a_sm), (1, .int x0), (2, .int x1), (3, .int x2), (4, .long w1), (6, .int w2)] → (∀ (H : Heap) (locs : List Loc) (ls : Array Slot), va_P D vwCl [(a_sm, .inr (4, [.ref a_tx, .ref a_rd, .ref a_td, .ref a_sp, .long v_sm_asked, .ref a_ds, .ref a_sm_fars, .ref a_sm_common, .ref a_sm_others, .ref a_sm_scale, .long v_sm_traced])), (a_td, .inr (3, [.int v_td_laws, .long v_td_there, .int v_td_sayers, .ref a_td_says, .ref a_td_weights])), (a_td_weights, .inl (cI, 7, .inl f_td_weights)), (a_sm_fars, .inl (cQ, 7, .inr (.inr (.inr (.inr (fun i => if i < 7 then some (r_sm_fars i) else none)))))), ((r_sm_fars 0), .inl (cJ, 64, .inr (.inl (f_sm_fars 0)))), ((r_sm_fars 1), .inl (cJ, 64, .inr (.inl (f_sm_fars 1)))), ((r_sm_fars 2), .inl (cJ, 64, .inr (.inl (f_sm_fars 2)))), ((r_sm_fars 3), .inl (cJ, 64, .inr (.inl (f_sm_fars 3)))), ((r_sm_fars 4), .inl (cJ, 64, .inr (.inl (f_sm_fars 4)))), ((r_sm_fars 5), .inl (cJ, 64, .inr (.inl (f_sm_fars 5)))), ((r_sm_fars 6), .inl (cJ, 64, .inr (.inl (f_sm_fars 6))))] H → va_D A [(a_sm, .inr (4, [.ref a_tx, .ref a_rd, .ref a_td, .ref a_sp, .long v_sm_asked, .ref a_ds, .ref a_sm_fars, .ref a_sm_common, .ref a_sm_others, .ref a_sm_scale, .long v_sm_traced])), (a_td, .inr (3, [.int v_td_laws, .long v_td_there, .int v_td_sayers, .ref a_td_says, .ref a_td_weights])), (a_td_weights, .inl (cI, 7, .inl f_td_weights)), (a_sm_fars, .inl (cQ, 7, .inr (.inr (.inr (.inr (fun i => if i < 7 then some (r_sm_fars i) else none)))))), ((r_sm_fars 0), .inl (cJ, 64, .inr (.inl (f_sm_fars 0)))), ((r_sm_fars 1), .inl (cJ, 64, .inr (.inl (f_sm_fars 1)))), ((r_sm_fars 2), .inl (cJ, 64, .inr (.inl (f_sm_fars 2)))), ((r_sm_fars 3), .inl (cJ, 64, .inr (.inl (f_sm_fars 3)))), ((r_sm_fars 4), .inl (cJ, 64, .inr (.inl (f_sm_fars 4)))), ((r_sm_fars 5), .inl (cJ, 64, .inr (.inl (f_sm_fars 5)))), ((r_sm_fars 6), .inl (cJ, 64, .inr (.inl (f_sm_fars 6))))] → va_S A s.heap H locs → lv_has ls 7 [(0, .ref a_sm), (1, .int x0), (2, .int x1), (3, .int x2), (4, .long z6.1), (6, .int z6.2)] → W p l e R s m args below meth c H locs 0 0 Q (F0 m 45 ls [])) → W p l e R s m args below meth c H locs 0 0 Q (F0 m 6 ls []) := by
    intro n
    induction n with
    | zero => intro w1 w2 z6 H locs ls hf; exact absurd (show none = some z6 from hf) (by simp)
    | succ n ih =>
      intro w1 w2 z6 H locs ls hf hP hD hS hl hk
      rw [zl_X4_weighed_6] at hf
      refine lv_iload hx hb dX4_weighed_6 (lv_at hl 5 rfl) ?_
      refine lv_aload_n hx hb dX4_weighed_8 rfl (lv_at hl 0 rfl) ?_
      refine va_get (ci := 4) (v := .ref a_td) (C := RX4) (T := TX4) (N := 11) hx hb hts inX4 hown hK hP 0 rfl rfl 2 (by decide) lk0 (fun _ h9 => h9) rfl dX4_weighed_9 ?_
      refine va_getN (ci := 3) (v := .int v_td_sayers) (C := RX3) (T := TX3) (N := 5) hx hb hts inX3 hown hK hP 1 rfl rfl 2 (by decide) lk2 (fun _ h9 => h9) rfl dX4_weighed_12 ?_
      refine lv_icmp_ge (tgt := 45) hx hb dX4_weighed_15 (by decide) (fun c8 => ?_) (fun c8 => ?_)
      · have hf := zk_t c8 hf
        obtain rfl := Option.some.inj hf
        exact hk _ _ _ hP hD hS (lv_sub hl [0, 1, 2, 3, 4, 5] rfl)
      · have hf := zk_f c8 hf
        refine lv_iload hx hb dX4_weighed_18 (lv_at hl 5 rfl) ?_
        refine lv_iload_n hx hb dX4_weighed_20 rfl (lv_at hl 3 rfl) ?_
        refine lv_icmp_eq (tgt := 39) hx hb dX4_weighed_21 (by decide) (fun c7 => ?_) (fun c7 => ?_)
        · have hf := zk_t c7 hf
          obtain ⟨y3, ey3, hf⟩ := zk_lt_s hf
          refine lv_iinc (v := y3) (lv' := [(6, .int y3), (0, .ref a_sm), (1, .int x0), (2, .int x1), (3, .int x2), (4, .long w1)]) hx hb dX4_weighed_39 hl (k := 5) rfl (by rw [ey3]; rfl) (by decide) rfl (fun ls hl => ?_)
          refine lv_goto (tgt := 6) hx hb dX4_weighed_42 (by decide) ?_
          exact ih w1 y3 _ _ _ _ hf hP hD hS (lv_sub hl [1, 2, 3, 4, 5, 0] rfl) hk
        · have hf := zk_f c7 hf
          refine lv_iload_n hx hb dX4_weighed_24 rfl (lv_at hl 1 rfl) ?_
          refine lv_lload hx hb dX4_weighed_25 (lv_at hl 4 rfl) ?_
          refine lv_aload_n hx hb dX4_weighed_27 rfl (lv_at hl 0 rfl) ?_
          refine lv_iload hx hb dX4_weighed_28 (lv_at hl 5 rfl) ?_
          refine lv_iload_n hx hb dX4_weighed_30 rfl (lv_at hl 2 rfl) ?_
          obtain ⟨v4, hv4, hf⟩ := zk_ob hf
          refine zk_goR (zk_V (As := [.int w2, .int x1]) (rest := [.long w1, .int x0]) hx hb hml hown hts hK hG hP hD hS hA gX4_weighed_X4_burdenOf rfl hd_X4_burdenOf (Nat.le_trans (Nat.le_of_ble_eq_true rfl) hRf) (Nat.le_trans (Nat.le_of_ble_eq_true rfl) hRl) hcs (zc_X4_burdenOf l D tL tO cI cJ cB cQ a_sm a_tx a_rd a_td a_sp a_ds a_sm_fars a_sm_common a_sm_others a_sm_scale a_td_says a_td_weights r_sm_fars w2 x1 v_sm_asked v_sm_traced v_td_laws v_td_there v_td_sayers f_td_weights f_sm_fars v4 hv4) rfl rfl 0 rfl hl.1 rfl rfl (Nat.le_of_ble_eq_true rfl) dX4_weighed_31 [0, 1, 2, 3, 4, 5, 6, 7, 8, 9, 10] rfl rfl) hP hD hS hA [0, 1, 2, 3, 4, 5, 6, 7, 8, 9, 10] rfl (fun H locs hP hS => ?_)
          obtain ⟨v5, hv5, hf⟩ := zk_ob hf
          refine zk_goR (zk_S (As := [.int x0, .long w1, .long v4]) (rest := []) hx hb hml hown hts hK hG hP hD hS hA gX4_weighed_X4_joined rfl hd_X4_joined (Nat.le_trans (Nat.le_of_ble_eq_true rfl) hRf) (Nat.le_trans (Nat.le_of_ble_eq_true rfl) hRl) hcs (zc_X4_joined l D tL tO cI cJ cB cQ x0 w1 v4 v5 hv5) hl.1 rfl rfl (Nat.le_of_ble_eq_true rfl) dX4_weighed_34 [] rfl rfl) hP hD hS hA [] rfl (fun H locs hP hS => ?_)
          refine lv_lstore (lv' := [(4, .long v5), (0, .ref a_sm), (1, .int x0), (2, .int x1), (3, .int x2), (6, .int w2)]) hx hb dX4_weighed_37 hl (by decide) rfl (fun ls hl => ?_)
          obtain ⟨y6, ey6, hf⟩ := zk_lt_s hf
          refine lv_iinc (v := y6) (lv' := [(6, .int y6), (4, .long v5), (0, .ref a_sm), (1, .int x0), (2, .int x1), (3, .int x2)]) hx hb dX4_weighed_39 hl (k := 5) rfl (by rw [ey6]; rfl) (by decide) rfl (fun ls hl => ?_)
          refine lv_goto (tgt := 6) hx hb dX4_weighed_42 (by decide) ?_
          exact ih v5 y6 _ _ _ _ hf hP hD hS (lv_sub hl [2, 3, 4, 5, 1, 0] rfl) hk
  obtain ⟨v9, hv9, hf⟩ := zk_ob hf
  refine lp6 zk_F (0 : Int64) (0 : Int32) v9 _ _ _ hv9 hP hD hS (lv_sub hl [2, 3, 4, 5, 1, 0] rfl) ?_
  intro H locs ls hP hD hS hl
  refine lv_lload hx hb dX4_weighed_45 (lv_at hl 4 rfl) ?_
  obtain rfl := Option.some.inj hf
  exact hret trivial _ _ _ _ hP hD hS dX4_weighed_47
def zl_X4_mergedBy_2 (x0 : Int32) (v_td_sayers : Int32) (f_td_weights : Nat → Int32) (f_sm_fars : Nat → Nat → Int64) : Nat → (Int32) → (Nat → Int64) → Option (Int32 × (Nat → Int64))
  | 0, _, _ => none
  | n + 1, w1, w2 =>
    if (64 : Int32) ≤ w1 then
    some (w1, w2)
    else
    (zf_X4_weighed x0 w1 (-1 : Int32) v_td_sayers f_td_weights f_sm_fars).bind (fun v3 =>
    zk_gd (zk_in w1 64)
    (zk_lt (w1 + 1) (fun y5 =>
    zl_X4_mergedBy_2 x0 v_td_sayers f_td_weights f_sm_fars n y5 (vp_updL w2 w1.toNatClampNeg v3))))
def zf_X4_mergedBy (x0 : Int32) (v_td_there : Int64) (v_td_sayers : Int32) (f_td_weights : Nat → Int32) (f_sm_fars : Nat → Nat → Int64) (f_sm_scale : Nat → Int64) : Option (Int64 × (Nat → Int64)) :=
  (zl_X4_mergedBy_2 x0 v_td_sayers f_td_weights f_sm_fars zk_F (0 : Int32) f_sm_scale).bind (fun v7 =>
  (zf_X4_least v_td_there 64 v7.2).bind (fun v8 =>
  some (v8, v7.2)))
theorem hd_X4_mergedBy : yX4_mergedBy.cls = RX4 ∧ yX4_mergedBy.cls ≠ "java/lang/invoke/MethodHandle" ∧ yX4_mergedBy.cls ≠ "java/lang/invoke/VarHandle" ∧ (parseMethodDescriptor yX4_mergedBy.desc).map (fun d => d.parameters.length) = some 1 := by decide +kernel
set_option maxHeartbeats 4000000 in
set_option maxRecDepth 100000 in
theorem zc_X4_mergedBy (l : Launch) (D : va_G) (tL tO : Nat) (cI cJ cB cQ : ClassId) (a_sm a_tx a_rd a_td a_sp a_ds a_sm_fars a_sm_common a_sm_others a_sm_scale a_td_says a_td_weights : Nat) (r_sm_fars : Nat → Nat) (x0 : Int32) (v_sm_asked : Int64) (v_sm_traced : Int64) (v_td_laws : Int32) (v_td_there : Int64) (v_td_sayers : Int32) (f_td_weights : Nat → Int32) (f_sm_fars : Nat → Nat → Int64) (f_sm_scale : Nat → Int64) (z : Int64 × (Nat → Int64)) (hf : zf_X4_mergedBy x0 v_td_there v_td_sayers f_td_weights f_sm_fars f_sm_scale = some z) : zk_CT l D tL tO (zk_ty cI cJ cB cQ) yX4_mergedBy wsX4_mergedBy 3 78 [.ref a_sm, .int x0] (some (.long z.1)) [(a_sm, .inr (4, [.ref a_tx, .ref a_rd, .ref a_td, .ref a_sp, .long v_sm_asked, .ref a_ds, .ref a_sm_fars, .ref a_sm_common, .ref a_sm_others, .ref a_sm_scale, .long v_sm_traced])), (a_td, .inr (3, [.int v_td_laws, .long v_td_there, .int v_td_sayers, .ref a_td_says, .ref a_td_weights])), (a_td_weights, .inl (cI, 7, .inl f_td_weights)), (a_sm_fars, .inl (cQ, 7, .inr (.inr (.inr (.inr (fun i => if i < 7 then some (r_sm_fars i) else none)))))), ((r_sm_fars 0), .inl (cJ, 64, .inr (.inl (f_sm_fars 0)))), ((r_sm_fars 1), .inl (cJ, 64, .inr (.inl (f_sm_fars 1)))), ((r_sm_fars 2), .inl (cJ, 64, .inr (.inl (f_sm_fars 2)))), ((r_sm_fars 3), .inl (cJ, 64, .inr (.inl (f_sm_fars 3)))), ((r_sm_fars 4), .inl (cJ, 64, .inr (.inl (f_sm_fars 4)))), ((r_sm_fars 5), .inl (cJ, 64, .inr (.inl (f_sm_fars 5)))), ((r_sm_fars 6), .inl (cJ, 64, .inr (.inl (f_sm_fars 6)))), (a_sm_scale, .inl (cJ, 64, .inr (.inl f_sm_scale)))] [(a_sm, .inr (4, [.ref a_tx, .ref a_rd, .ref a_td, .ref a_sp, .long v_sm_asked, .ref a_ds, .ref a_sm_fars, .ref a_sm_common, .ref a_sm_others, .ref a_sm_scale, .long v_sm_traced])), (a_td, .inr (3, [.int v_td_laws, .long v_td_there, .int v_td_sayers, .ref a_td_says, .ref a_td_weights])), (a_td_weights, .inl (cI, 7, .inl f_td_weights)), (a_sm_fars, .inl (cQ, 7, .inr (.inr (.inr (.inr (fun i => if i < 7 then some (r_sm_fars i) else none)))))), ((r_sm_fars 0), .inl (cJ, 64, .inr (.inl (f_sm_fars 0)))), ((r_sm_fars 1), .inl (cJ, 64, .inr (.inl (f_sm_fars 1)))), ((r_sm_fars 2), .inl (cJ, 64, .inr (.inl (f_sm_fars 2)))), ((r_sm_fars 3), .inl (cJ, 64, .inr (.inl (f_sm_fars 3)))), ((r_sm_fars 4), .inl (cJ, 64, .inr (.inl (f_sm_fars 4)))), ((r_sm_fars 5), .inl (cJ, 64, .inr (.inl (f_sm_fars 5)))), ((r_sm_fars 6), .inl (cJ, 64, .inr (.inl (f_sm_fars 6)))), (a_sm_scale, .inl (cJ, 64, .inr (.inl z.2)))] := by
  refine zk_of_l (cc := cX4_mergedBy) (maxL := 3) (by decide) rfl (Nat.le_of_ble_eq_true rfl) ?_
  intro p e R s m args below meth c A Q ls hx hb hml hRf hRl hts hown hP hK hD hA hS hG hl hret
  have hl : lv_has ls 3 [(0, .ref a_sm), (1, .int x0)] := hl
  have hown : s.vm.findClass RX4 = some m.cls := hown
  have hcs : 0 ≤ R.cells ∧ 0 ≤ R.slots := ⟨Nat.zero_le _, Nat.zero_le _⟩
  have lk0 := hts (.fieldLink RX4 60 "SayingsMerged" "scale" "[J") (by decide +kernel)
  have inX4 : ∀ w ∈ wsX40, w ∈ wsX4_mergedBy := by decide +kernel
  have lk2 := hts (.fieldLink RX4 28 "SayingsMerged" "told" "LSayingsMerged$Told;") (by decide +kernel)
  have lk3 : (Cond.fieldLinkNest RX4 101 "SayingsMerged$Told" "there" "J" "SayingsMerged").before args s = true := va_Nw.use rfl (hG.1 _ (by decide +kernel))
  have inX3 : ∀ w ∈ wsX30, w ∈ wsX4_mergedBy := by decide +kernel
  unfold zf_X4_mergedBy at hf
  refine lv_iconst (v := (0 : Int32)) hx hb dX4_mergedBy_0 (by decide) ?_
  refine lv_istore_n (lv' := [(2, .int (0 : Int32)), (0, .ref a_sm), (1, .int x0)]) hx hb dX4_mergedBy_1 rfl hl (by decide) rfl (fun ls hl => ?_)
  have lp2 : ∀ (n : Nat) (w1 : Int32) (w2 : Nat → Int64) (z2 : Int32 × (Nat → Int64)) (H : Heap) (locs : List Loc) (ls : Array Slot), zl_X4_mergedBy_2 x0 v_td_sayers f_td_weights f_sm_fars n w1 w2 = some z2 → va_P D vwCl [(a_sm, .inr (4, [.ref a_tx, .ref a_rd, .ref a_td, .ref a_sp, .long v_sm_asked, .ref a_ds, .ref a_sm_fars, .ref a_sm_common, .ref a_sm_others, .ref a_sm_scale, .long v_sm_traced])), (a_td, .inr (3, [.int v_td_laws, .long v_td_there, .int v_td_sayers, .ref a_td_says, .ref a_td_weights])), (a_td_weights, .inl (cI, 7, .inl f_td_weights)), (a_sm_fars, .inl (cQ, 7, .inr (.inr (.inr (.inr (fun i => if i < 7 then some (r_sm_fars i) else none)))))), ((r_sm_fars 0), .inl (cJ, 64, .inr (.inl (f_sm_fars 0)))), ((r_sm_fars 1), .inl (cJ, 64, .inr (.inl (f_sm_fars 1)))), ((r_sm_fars 2), .inl (cJ, 64, .inr (.inl (f_sm_fars 2)))), ((r_sm_fars 3), .inl (cJ, 64, .inr (.inl (f_sm_fars 3)))), ((r_sm_fars 4), .inl (cJ, 64, .inr (.inl (f_sm_fars 4)))), ((r_sm_fars 5), .inl (cJ, 64, .inr (.inl (f_sm_fars 5)))), ((r_sm_fars 6), .inl (cJ, 64, .inr (.inl (f_sm_fars 6)))), (a_sm_scale, .inl (cJ, 64, .inr (.inl w2)))] H → va_D A [(a_sm, .inr (4, [.ref a_tx, .ref a_rd, .ref a_td, .ref a_sp, .long v_sm_asked, .ref a_ds, .ref a_sm_fars, .ref a_sm_common, .ref a_sm_others, .ref a_sm_scale, .long v_sm_traced])), (a_td, .inr (3, [.int v_td_laws, .long v_td_there, .int v_td_sayers, .ref a_td_says, .ref a_td_weights])), (a_td_weights, .inl (cI, 7, .inl f_td_weights)), (a_sm_fars, .inl (cQ, 7, .inr (.inr (.inr (.inr (fun i => if i < 7 then some (r_sm_fars i) else none)))))), ((r_sm_fars 0), .inl (cJ, 64, .inr (.inl (f_sm_fars 0)))), ((r_sm_fars 1), .inl (cJ, 64, .inr (.inl (f_sm_fars 1)))), ((r_sm_fars 2), .inl (cJ, 64, .inr (.inl (f_sm_fars 2)))), ((r_sm_fars 3), .inl (cJ, 64, .inr (.inl (f_sm_fars 3)))), ((r_sm_fars 4), .inl (cJ, 64, .inr (.inl (f_sm_fars 4)))), ((r_sm_fars 5), .inl (cJ, 64, .inr (.inl (f_sm_fars 5)))), ((r_sm_fars 6), .inl (cJ, 64, .inr (.inl (f_sm_fars 6)))), (a_sm_scale, .inl (cJ, 64, .inr (.inl w2)))] → va_S A s.heap H locs → lv_has ls 3 [(0, .ref a_sm), (1, .int x0), (2, .int w1)] → (∀ (H : Heap) (locs : List Loc) (ls : Array Slot), va_P D vwCl [(a_sm, .inr (4, [.ref a_tx, .ref a_rd, .ref a_td, .ref a_sp, .long v_sm_asked, .ref a_ds, .ref a_sm_fars, .ref a_sm_common, .ref a_sm_others, .ref a_sm_scale, .long v_sm_traced])), (a_td, .inr (3, [.int v_td_laws, .long v_td_there, .int v_td_sayers, .ref a_td_says, .ref a_td_weights])), (a_td_weights, .inl (cI, 7, .inl f_td_weights)), (a_sm_fars, .inl (cQ, 7, .inr (.inr (.inr (.inr (fun i => if i < 7 then some (r_sm_fars i) else none)))))), ((r_sm_fars 0), .inl (cJ, 64, .inr (.inl (f_sm_fars 0)))), ((r_sm_fars 1), .inl (cJ, 64, .inr (.inl (f_sm_fars 1)))), ((r_sm_fars 2), .inl (cJ, 64, .inr (.inl (f_sm_fars 2)))), ((r_sm_fars 3), .inl (cJ, 64, .inr (.inl (f_sm_fars 3)))), ((r_sm_fars 4), .inl (cJ, 64, .inr (.inl (f_sm_fars 4)))), ((r_sm_fars 5), .inl (cJ, 64, .inr (.inl (f_sm_fars 5)))), ((r_sm_fars 6), .inl (cJ, 64, .inr (.inl (f_sm_fars 6)))), (a_sm_scale, .inl (cJ, 64, .inr (.inl z2.2)))] H → va_D A [(a_sm, .inr (4, [.ref a_tx, .ref a_rd, .ref a_td, .ref a_sp, .long v_sm_asked, .ref a_ds, .ref a_sm_fars, .ref a_sm_common, .ref a_sm_others, .ref a_sm_scale, .long v_sm_traced])), (a_td, .inr (3, [.int v_td_laws, .long v_td_there, .int v_td_sayers, .ref a_td_says, .ref a_td_weights])), (a_td_weights, .inl (cI, 7, .inl f_td_weights)), (a_sm_fars, .inl (cQ, 7, .inr (.inr (.inr (.inr (fun i => if i < 7 then some (r_sm_fars i) else none)))))), ((r_sm_fars 0), .inl (cJ, 64, .inr (.inl (f_sm_fars 0)))), ((r_sm_fars 1), .inl (cJ, 64, .inr (.inl (f_sm_fars 1)))), ((r_sm_fars 2), .inl (cJ, 64, .inr (.inl (f_sm_fars 2)))), ((r_sm_fars 3), .inl (cJ, 64, .inr (.inl (f_sm_fars 3)))), ((r_sm_fars 4), .inl (cJ, 64, .inr (.inl (f_sm_fars 4)))), ((r_sm_fars 5), .inl (cJ, 64, .inr (.inl (f_sm_fars 5)))), ((r_sm_fars 6), .inl (cJ, 64, .inr (.inl (f_sm_fars 6)))), (a_sm_scale, .inl (cJ, 64, .inr (.inl z2.2)))] → va_S A s.heap H locs → lv_has ls 3 [(0, .ref a_sm), (1, .int x0), (2, .int z2.1)] → W p l e R s m args below meth c H locs 0 0 Q (F0 m 27 ls [])) → W p l e R s m args below meth c H locs 0 0 Q (F0 m 2 ls []) := by
    intro n
    induction n with
    | zero => intro w1 w2 z2 H locs ls hf; exact absurd (show none = some z2 from hf) (by simp)
    | succ n ih =>
      intro w1 w2 z2 H locs ls hf hP hD hS hl hk
      rw [zl_X4_mergedBy_2] at hf
      refine lv_iload_n hx hb dX4_mergedBy_2 rfl (lv_at hl 2 rfl) ?_
      refine lv_bipush (v := (64 : Int32)) hx hb dX4_mergedBy_3 (by decide) ?_
      refine lv_icmp_ge (tgt := 27) hx hb dX4_mergedBy_5 (by decide) (fun c6 => ?_) (fun c6 => ?_)
      · have hf := zk_t c6 hf
        obtain rfl := Option.some.inj hf
        exact hk _ _ _ hP hD hS (lv_sub hl [0, 1, 2] rfl)
      · have hf := zk_f c6 hf
        refine lv_aload_n hx hb dX4_mergedBy_8 rfl (lv_at hl 0 rfl) ?_
        refine va_get (ci := 4) (v := .ref a_sm_scale) (C := RX4) (T := TX4) (N := 11) hx hb hts inX4 hown hK hP 0 rfl rfl 9 (by decide) lk0 (fun _ h9 => h9) rfl dX4_mergedBy_9 ?_
        refine lv_iload_n hx hb dX4_mergedBy_12 rfl (lv_at hl 2 rfl) ?_
        refine lv_aload_n hx hb dX4_mergedBy_13 rfl (lv_at hl 0 rfl) ?_
        refine lv_iload_n hx hb dX4_mergedBy_14 rfl (lv_at hl 1 rfl) ?_
        refine lv_iload_n hx hb dX4_mergedBy_15 rfl (lv_at hl 2 rfl) ?_
        refine lv_iconst (v := (-1 : Int32)) hx hb dX4_mergedBy_16 (by decide) ?_
        obtain ⟨v3, hv3, hf⟩ := zk_ob hf
        refine zk_goR (zk_V (As := [.int x0, .int w1, .int (-1 : Int32)]) (rest := [.int w1, .ref a_sm_scale]) hx hb hml hown hts hK hG hP hD hS hA gX4_mergedBy_X4_weighed rfl hd_X4_weighed (Nat.le_trans (Nat.le_of_ble_eq_true rfl) hRf) (Nat.le_trans (Nat.le_of_ble_eq_true rfl) hRl) hcs (zc_X4_weighed l D tL tO cI cJ cB cQ a_sm a_tx a_rd a_td a_sp a_ds a_sm_fars a_sm_common a_sm_others a_sm_scale a_td_says a_td_weights r_sm_fars x0 w1 (-1 : Int32) v_sm_asked v_sm_traced v_td_laws v_td_there v_td_sayers f_td_weights f_sm_fars v3 hv3) rfl rfl 0 rfl hl.1 rfl rfl (Nat.le_of_ble_eq_true rfl) dX4_mergedBy_17 [0, 1, 2, 3, 4, 5, 6, 7, 8, 9, 10] rfl rfl) hP hD hS hA [0, 1, 2, 3, 4, 5, 6, 7, 8, 9, 10] rfl (fun H locs hP hS => ?_)
        obtain ⟨g4, hf⟩ := zk_gd_s hf
        refine va_last hx hb hK hP hD hS 11 1 rfl rfl (zk_in_s g4) dX4_mergedBy_20 (fun H locs hP hD hS => ?_)
        have hP : va_P D vwCl [(a_sm, .inr (4, [.ref a_tx, .ref a_rd, .ref a_td, .ref a_sp, .long v_sm_asked, .ref a_ds, .ref a_sm_fars, .ref a_sm_common, .ref a_sm_others, .ref a_sm_scale, .long v_sm_traced])), (a_td, .inr (3, [.int v_td_laws, .long v_td_there, .int v_td_sayers, .ref a_td_says, .ref a_td_weights])), (a_td_weights, .inl (cI, 7, .inl f_td_weights)), (a_sm_fars, .inl (cQ, 7, .inr (.inr (.inr (.inr (fun i => if i < 7 then some (r_sm_fars i) else none)))))), ((r_sm_fars 0), .inl (cJ, 64, .inr (.inl (f_sm_fars 0)))), ((r_sm_fars 1), .inl (cJ, 64, .inr (.inl (f_sm_fars 1)))), ((r_sm_fars 2), .inl (cJ, 64, .inr (.inl (f_sm_fars 2)))), ((r_sm_fars 3), .inl (cJ, 64, .inr (.inl (f_sm_fars 3)))), ((r_sm_fars 4), .inl (cJ, 64, .inr (.inl (f_sm_fars 4)))), ((r_sm_fars 5), .inl (cJ, 64, .inr (.inl (f_sm_fars 5)))), ((r_sm_fars 6), .inl (cJ, 64, .inr (.inl (f_sm_fars 6)))), (a_sm_scale, .inl (cJ, 64, .inr (.inl (vp_updL w2 w1.toNatClampNeg v3))))] H := hP
        have hD : va_D A [(a_sm, .inr (4, [.ref a_tx, .ref a_rd, .ref a_td, .ref a_sp, .long v_sm_asked, .ref a_ds, .ref a_sm_fars, .ref a_sm_common, .ref a_sm_others, .ref a_sm_scale, .long v_sm_traced])), (a_td, .inr (3, [.int v_td_laws, .long v_td_there, .int v_td_sayers, .ref a_td_says, .ref a_td_weights])), (a_td_weights, .inl (cI, 7, .inl f_td_weights)), (a_sm_fars, .inl (cQ, 7, .inr (.inr (.inr (.inr (fun i => if i < 7 then some (r_sm_fars i) else none)))))), ((r_sm_fars 0), .inl (cJ, 64, .inr (.inl (f_sm_fars 0)))), ((r_sm_fars 1), .inl (cJ, 64, .inr (.inl (f_sm_fars 1)))), ((r_sm_fars 2), .inl (cJ, 64, .inr (.inl (f_sm_fars 2)))), ((r_sm_fars 3), .inl (cJ, 64, .inr (.inl (f_sm_fars 3)))), ((r_sm_fars 4), .inl (cJ, 64, .inr (.inl (f_sm_fars 4)))), ((r_sm_fars 5), .inl (cJ, 64, .inr (.inl (f_sm_fars 5)))), ((r_sm_fars 6), .inl (cJ, 64, .inr (.inl (f_sm_fars 6)))), (a_sm_scale, .inl (cJ, 64, .inr (.inl (vp_updL w2 w1.toNatClampNeg v3))))] := hD
        obtain ⟨y5, ey5, hf⟩ := zk_lt_s hf
        refine lv_iinc (v := y5) (lv' := [(2, .int y5), (0, .ref a_sm), (1, .int x0)]) hx hb dX4_mergedBy_21 hl (k := 2) rfl (by rw [ey5]; rfl) (by decide) rfl (fun ls hl => ?_)
        refine lv_goto (tgt := 2) hx hb dX4_mergedBy_24 (by decide) ?_
        exact ih y5 (vp_updL w2 w1.toNatClampNeg v3) _ _ _ _ hf hP hD hS (lv_sub hl [1, 2, 0] rfl) hk
  obtain ⟨v7, hv7, hf⟩ := zk_ob hf
  refine lp2 zk_F (0 : Int32) f_sm_scale v7 _ _ _ hv7 hP hD hS (lv_sub hl [1, 2, 0] rfl) ?_
  intro H locs ls hP hD hS hl
  refine lv_aload_n hx hb dX4_mergedBy_27 rfl (lv_at hl 0 rfl) ?_
  refine va_get (ci := 4) (v := .ref a_td) (C := RX4) (T := TX4) (N := 11) hx hb hts inX4 hown hK hP 0 rfl rfl 2 (by decide) lk2 (fun _ h9 => h9) rfl dX4_mergedBy_28 ?_
  refine va_getN (ci := 3) (v := .long v_td_there) (C := RX3) (T := TX3) (N := 5) hx hb hts inX3 hown hK hP 1 rfl rfl 1 (by decide) lk3 (fun _ h9 => h9) rfl dX4_mergedBy_31 ?_
  refine lv_aload_n hx hb dX4_mergedBy_34 rfl (lv_at hl 0 rfl) ?_
  refine va_get (ci := 4) (v := .ref a_sm_scale) (C := RX4) (T := TX4) (N := 11) hx hb hts inX4 hown hK hP 0 rfl rfl 9 (by decide) lk0 (fun _ h9 => h9) rfl dX4_mergedBy_35 ?_
  obtain ⟨v8, hv8, hf⟩ := zk_ob hf
  refine zk_goR (zk_S (As := [.long v_td_there, .ref a_sm_scale]) (rest := []) hx hb hml hown hts hK hG hP hD hS hA gX4_mergedBy_X4_least rfl hd_X4_least (Nat.le_trans (Nat.le_of_ble_eq_true rfl) hRf) (Nat.le_trans (Nat.le_of_ble_eq_true rfl) hRl) hcs (zc_X4_least l D tL tO cI cJ cB cQ a_sm_scale 64 v_td_there v7.2 v8 hv8) hl.1 rfl rfl (Nat.le_of_ble_eq_true rfl) dX4_mergedBy_38 [11] rfl rfl) hP hD hS hA [11] rfl (fun H locs hP hS => ?_)
  obtain rfl := Option.some.inj hf
  exact hret trivial _ _ _ _ hP hD hS dX4_mergedBy_41
def zf_X4_merged (x0 : Int32) (v_td_there : Int64) (v_td_sayers : Int32) (f_td_weights : Nat → Int32) (f_sm_fars : Nat → Nat → Int64) (f_sm_scale : Nat → Int64) : Option (Int64 × (Nat → Int64)) :=
  (zf_X4_isWay x0).bind (fun v1 =>
  if v1 = 0 then
  some ((0 : Int64), f_sm_scale)
  else
  (zf_X4_mergedBy x0 v_td_there v_td_sayers f_td_weights f_sm_fars f_sm_scale).bind (fun v2 =>
  some (v2.1, v2.2)))
theorem hd_X4_merged : yX4_merged.cls = RX4 ∧ yX4_merged.cls ≠ "java/lang/invoke/MethodHandle" ∧ yX4_merged.cls ≠ "java/lang/invoke/VarHandle" ∧ (parseMethodDescriptor yX4_merged.desc).map (fun d => d.parameters.length) = some 1 := by decide +kernel
set_option maxHeartbeats 4000000 in
set_option maxRecDepth 100000 in
theorem zc_X4_merged (l : Launch) (D : va_G) (tL tO : Nat) (cI cJ cB cQ : ClassId) (a_sm a_tx a_rd a_td a_sp a_ds a_sm_fars a_sm_common a_sm_others a_sm_scale a_td_says a_td_weights : Nat) (r_sm_fars : Nat → Nat) (x0 : Int32) (v_sm_asked : Int64) (v_sm_traced : Int64) (v_td_laws : Int32) (v_td_there : Int64) (v_td_sayers : Int32) (f_td_weights : Nat → Int32) (f_sm_fars : Nat → Nat → Int64) (f_sm_scale : Nat → Int64) (z : Int64 × (Nat → Int64)) (hf : zf_X4_merged x0 v_td_there v_td_sayers f_td_weights f_sm_fars f_sm_scale = some z) : zk_CT l D tL tO (zk_ty cI cJ cB cQ) yX4_merged wsX4_merged 4 100 [.ref a_sm, .int x0] (some (.long z.1)) [(a_sm, .inr (4, [.ref a_tx, .ref a_rd, .ref a_td, .ref a_sp, .long v_sm_asked, .ref a_ds, .ref a_sm_fars, .ref a_sm_common, .ref a_sm_others, .ref a_sm_scale, .long v_sm_traced])), (a_td, .inr (3, [.int v_td_laws, .long v_td_there, .int v_td_sayers, .ref a_td_says, .ref a_td_weights])), (a_td_weights, .inl (cI, 7, .inl f_td_weights)), (a_sm_fars, .inl (cQ, 7, .inr (.inr (.inr (.inr (fun i => if i < 7 then some (r_sm_fars i) else none)))))), ((r_sm_fars 0), .inl (cJ, 64, .inr (.inl (f_sm_fars 0)))), ((r_sm_fars 1), .inl (cJ, 64, .inr (.inl (f_sm_fars 1)))), ((r_sm_fars 2), .inl (cJ, 64, .inr (.inl (f_sm_fars 2)))), ((r_sm_fars 3), .inl (cJ, 64, .inr (.inl (f_sm_fars 3)))), ((r_sm_fars 4), .inl (cJ, 64, .inr (.inl (f_sm_fars 4)))), ((r_sm_fars 5), .inl (cJ, 64, .inr (.inl (f_sm_fars 5)))), ((r_sm_fars 6), .inl (cJ, 64, .inr (.inl (f_sm_fars 6)))), (a_sm_scale, .inl (cJ, 64, .inr (.inl f_sm_scale)))] [(a_sm, .inr (4, [.ref a_tx, .ref a_rd, .ref a_td, .ref a_sp, .long v_sm_asked, .ref a_ds, .ref a_sm_fars, .ref a_sm_common, .ref a_sm_others, .ref a_sm_scale, .long v_sm_traced])), (a_td, .inr (3, [.int v_td_laws, .long v_td_there, .int v_td_sayers, .ref a_td_says, .ref a_td_weights])), (a_td_weights, .inl (cI, 7, .inl f_td_weights)), (a_sm_fars, .inl (cQ, 7, .inr (.inr (.inr (.inr (fun i => if i < 7 then some (r_sm_fars i) else none)))))), ((r_sm_fars 0), .inl (cJ, 64, .inr (.inl (f_sm_fars 0)))), ((r_sm_fars 1), .inl (cJ, 64, .inr (.inl (f_sm_fars 1)))), ((r_sm_fars 2), .inl (cJ, 64, .inr (.inl (f_sm_fars 2)))), ((r_sm_fars 3), .inl (cJ, 64, .inr (.inl (f_sm_fars 3)))), ((r_sm_fars 4), .inl (cJ, 64, .inr (.inl (f_sm_fars 4)))), ((r_sm_fars 5), .inl (cJ, 64, .inr (.inl (f_sm_fars 5)))), ((r_sm_fars 6), .inl (cJ, 64, .inr (.inl (f_sm_fars 6)))), (a_sm_scale, .inl (cJ, 64, .inr (.inl z.2)))] := by
  refine zk_of_l (cc := cX4_merged) (maxL := 2) (by decide) rfl (Nat.le_of_ble_eq_true rfl) ?_
  intro p e R s m args below meth c A Q ls hx hb hml hRf hRl hts hown hP hK hD hA hS hG hl hret
  have hl : lv_has ls 2 [(0, .ref a_sm), (1, .int x0)] := hl
  have hown : s.vm.findClass RX4 = some m.cls := hown
  have hcs : 0 ≤ R.cells ∧ 0 ≤ R.slots := ⟨Nat.zero_le _, Nat.zero_le _⟩
  unfold zf_X4_merged at hf
  refine lv_iload_n hx hb dX4_merged_0 rfl (lv_at hl 1 rfl) ?_
  obtain ⟨v1, hv1, hf⟩ := zk_ob hf
  refine zk_goR (zk_S (As := [.int x0]) (rest := []) hx hb hml hown hts hK hG hP hD hS hA gX4_merged_X4_isWay rfl hd_X4_isWay (Nat.le_trans (Nat.le_of_ble_eq_true rfl) hRf) (Nat.le_trans (Nat.le_of_ble_eq_true rfl) hRl) hcs (zc_X4_isWay l D tL tO cI cJ cB cQ x0 v1 hv1) hl.1 rfl rfl (Nat.le_of_ble_eq_true rfl) dX4_merged_1 [] rfl rfl) hP hD hS hA [] rfl (fun H locs hP hS => ?_)
  refine lv_if_eq (tgt := 15) hx hb dX4_merged_4 (by decide) (fun c3 => ?_) (fun c3 => ?_)
  · have hf := zk_t c3 hf
    refine lv_lconst (v := (0 : Int64)) hx hb dX4_merged_15 (by decide) ?_
    obtain rfl := Option.some.inj hf
    exact hret trivial _ _ _ _ hP hD hS dX4_merged_16
  · have hf := zk_f c3 hf
    refine lv_aload_n hx hb dX4_merged_7 rfl (lv_at hl 0 rfl) ?_
    refine lv_iload_n hx hb dX4_merged_8 rfl (lv_at hl 1 rfl) ?_
    obtain ⟨v2, hv2, hf⟩ := zk_ob hf
    refine zk_go (wr := []) (w2 := [(a_sm, .inr (4, [.ref a_tx, .ref a_rd, .ref a_td, .ref a_sp, .long v_sm_asked, .ref a_ds, .ref a_sm_fars, .ref a_sm_common, .ref a_sm_others, .ref a_sm_scale, .long v_sm_traced])), (a_td, .inr (3, [.int v_td_laws, .long v_td_there, .int v_td_sayers, .ref a_td_says, .ref a_td_weights])), (a_td_weights, .inl (cI, 7, .inl f_td_weights)), (a_sm_fars, .inl (cQ, 7, .inr (.inr (.inr (.inr (fun i => if i < 7 then some (r_sm_fars i) else none)))))), ((r_sm_fars 0), .inl (cJ, 64, .inr (.inl (f_sm_fars 0)))), ((r_sm_fars 1), .inl (cJ, 64, .inr (.inl (f_sm_fars 1)))), ((r_sm_fars 2), .inl (cJ, 64, .inr (.inl (f_sm_fars 2)))), ((r_sm_fars 3), .inl (cJ, 64, .inr (.inl (f_sm_fars 3)))), ((r_sm_fars 4), .inl (cJ, 64, .inr (.inl (f_sm_fars 4)))), ((r_sm_fars 5), .inl (cJ, 64, .inr (.inl (f_sm_fars 5)))), ((r_sm_fars 6), .inl (cJ, 64, .inr (.inl (f_sm_fars 6)))), (a_sm_scale, .inl (cJ, 64, .inr (.inl v2.2)))]) (zk_V (As := [.int x0]) (rest := []) hx hb hml hown hts hK hG hP hD hS hA gX4_merged_X4_mergedBy rfl hd_X4_mergedBy (Nat.le_trans (Nat.le_of_ble_eq_true rfl) hRf) (Nat.le_trans (Nat.le_of_ble_eq_true rfl) hRl) hcs (zc_X4_mergedBy l D tL tO cI cJ cB cQ a_sm a_tx a_rd a_td a_sp a_ds a_sm_fars a_sm_common a_sm_others a_sm_scale a_td_says a_td_weights r_sm_fars x0 v_sm_asked v_sm_traced v_td_laws v_td_there v_td_sayers f_td_weights f_sm_fars f_sm_scale v2 hv2) rfl rfl 0 rfl hl.1 rfl rfl (Nat.le_of_ble_eq_true rfl) dX4_merged_9 [0, 1, 2, 3, 4, 5, 6, 7, 8, 9, 10, 11] rfl rfl) hP hD hS hA [0, 1, 2, 3, 4, 5, 6, 7, 8, 9, 10, 11] [] [0, 1, 2, 3, 4, 5, 6, 7, 8, 9, 10, 11] rfl rfl rfl (by decide) rfl rfl (fun H locs hP hD hS => ?_)
    refine lv_goto (tgt := 16) hx hb dX4_merged_12 (by decide) ?_
    obtain rfl := Option.some.inj hf
    exact hret trivial _ _ _ _ hP hD hS dX4_merged_16
def zf_X4_value (x0 : Int32) (x1 : Int32) (v_td_sayers : Int32) (f_td_weights : Nat → Int32) (f_sm_fars : Nat → Nat → Int64) : Option (Int32) :=
  if x0 = 0 then
  (zf_X4_isWorld x1).bind (fun v1 =>
  if v1 = 0 then
  some (-1 : Int32)
  else
  (zf_X4_weighed x0 x1 (-1 : Int32) v_td_sayers f_td_weights f_sm_fars).bind (fun v2 =>
  some v2.toInt32))
  else
  if x0 = (1 : Int32) then
  (zf_X4_isWorld x1).bind (fun v4 =>
  if v4 = 0 then
  some (-1 : Int32)
  else
  (zf_X4_weighed x0 x1 (-1 : Int32) v_td_sayers f_td_weights f_sm_fars).bind (fun v5 =>
  some v5.toInt32))
  else
  some (-1 : Int32)
theorem hd_X4_value : yX4_value.cls = RX4 ∧ yX4_value.cls ≠ "java/lang/invoke/MethodHandle" ∧ yX4_value.cls ≠ "java/lang/invoke/VarHandle" ∧ (parseMethodDescriptor yX4_value.desc).map (fun d => d.parameters.length) = some 2 := by decide +kernel
set_option maxHeartbeats 4000000 in
set_option maxRecDepth 100000 in
theorem zc_X4_value (l : Launch) (D : va_G) (tL tO : Nat) (cI cJ cB cQ : ClassId) (a_sm a_tx a_rd a_td a_sp a_ds a_sm_fars a_sm_common a_sm_others a_sm_scale a_td_says a_td_weights : Nat) (r_sm_fars : Nat → Nat) (x0 : Int32) (x1 : Int32) (v_sm_asked : Int64) (v_sm_traced : Int64) (v_td_laws : Int32) (v_td_there : Int64) (v_td_sayers : Int32) (f_td_weights : Nat → Int32) (f_sm_fars : Nat → Nat → Int64) (z : Int32) (hf : zf_X4_value x0 x1 v_td_sayers f_td_weights f_sm_fars = some z) : zk_CT l D tL tO (zk_ty cI cJ cB cQ) yX4_value wsX4_value 3 78 [.ref a_sm, .int x0, .int x1] (some (.int z)) [(a_sm, .inr (4, [.ref a_tx, .ref a_rd, .ref a_td, .ref a_sp, .long v_sm_asked, .ref a_ds, .ref a_sm_fars, .ref a_sm_common, .ref a_sm_others, .ref a_sm_scale, .long v_sm_traced])), (a_td, .inr (3, [.int v_td_laws, .long v_td_there, .int v_td_sayers, .ref a_td_says, .ref a_td_weights])), (a_td_weights, .inl (cI, 7, .inl f_td_weights)), (a_sm_fars, .inl (cQ, 7, .inr (.inr (.inr (.inr (fun i => if i < 7 then some (r_sm_fars i) else none)))))), ((r_sm_fars 0), .inl (cJ, 64, .inr (.inl (f_sm_fars 0)))), ((r_sm_fars 1), .inl (cJ, 64, .inr (.inl (f_sm_fars 1)))), ((r_sm_fars 2), .inl (cJ, 64, .inr (.inl (f_sm_fars 2)))), ((r_sm_fars 3), .inl (cJ, 64, .inr (.inl (f_sm_fars 3)))), ((r_sm_fars 4), .inl (cJ, 64, .inr (.inl (f_sm_fars 4)))), ((r_sm_fars 5), .inl (cJ, 64, .inr (.inl (f_sm_fars 5)))), ((r_sm_fars 6), .inl (cJ, 64, .inr (.inl (f_sm_fars 6))))] [(a_sm, .inr (4, [.ref a_tx, .ref a_rd, .ref a_td, .ref a_sp, .long v_sm_asked, .ref a_ds, .ref a_sm_fars, .ref a_sm_common, .ref a_sm_others, .ref a_sm_scale, .long v_sm_traced])), (a_td, .inr (3, [.int v_td_laws, .long v_td_there, .int v_td_sayers, .ref a_td_says, .ref a_td_weights])), (a_td_weights, .inl (cI, 7, .inl f_td_weights)), (a_sm_fars, .inl (cQ, 7, .inr (.inr (.inr (.inr (fun i => if i < 7 then some (r_sm_fars i) else none)))))), ((r_sm_fars 0), .inl (cJ, 64, .inr (.inl (f_sm_fars 0)))), ((r_sm_fars 1), .inl (cJ, 64, .inr (.inl (f_sm_fars 1)))), ((r_sm_fars 2), .inl (cJ, 64, .inr (.inl (f_sm_fars 2)))), ((r_sm_fars 3), .inl (cJ, 64, .inr (.inl (f_sm_fars 3)))), ((r_sm_fars 4), .inl (cJ, 64, .inr (.inl (f_sm_fars 4)))), ((r_sm_fars 5), .inl (cJ, 64, .inr (.inl (f_sm_fars 5)))), ((r_sm_fars 6), .inl (cJ, 64, .inr (.inl (f_sm_fars 6))))] := by
  refine zk_of_i (cc := cX4_value) (maxL := 3) (by decide) rfl (Nat.le_of_ble_eq_true rfl) ?_
  intro p e R s m args below meth c A Q ls hx hb hml hRf hRl hts hown hP hK hD hA hS hG hl hret
  have hl : lv_has ls 3 [(0, .ref a_sm), (1, .int x0), (2, .int x1)] := hl
  have hown : s.vm.findClass RX4 = some m.cls := hown
  have hcs : 0 ≤ R.cells ∧ 0 ≤ R.slots := ⟨Nat.zero_le _, Nat.zero_le _⟩
  unfold zf_X4_value at hf
  refine lv_iload_n hx hb dX4_value_0 rfl (lv_at hl 1 rfl) ?_
  refine lv_if_eq (tgt := 9) hx hb dX4_value_1 (by decide) (fun c8 => ?_) (fun c8 => ?_)
  · have hf := zk_t c8 hf
    refine lv_iload_n hx hb dX4_value_9 rfl (lv_at hl 2 rfl) ?_
    obtain ⟨v1, hv1, hf⟩ := zk_ob hf
    refine zk_goR (zk_S (As := [.int x1]) (rest := []) hx hb hml hown hts hK hG hP hD hS hA gX4_value_X4_isWorld rfl hd_X4_isWorld (Nat.le_trans (Nat.le_of_ble_eq_true rfl) hRf) (Nat.le_trans (Nat.le_of_ble_eq_true rfl) hRl) hcs (zc_X4_isWorld l D tL tO cI cJ cB cQ x1 v1 hv1) hl.1 rfl rfl (Nat.le_of_ble_eq_true rfl) dX4_value_10 [] rfl rfl) hP hD hS hA [] rfl (fun H locs hP hS => ?_)
    refine lv_if_ne (tgt := 18) hx hb dX4_value_13 (by decide) (fun c3 => ?_) (fun c3 => ?_)
    · have hf := zk_f c3 hf
      refine lv_aload_n hx hb dX4_value_18 rfl (lv_at hl 0 rfl) ?_
      refine lv_iload_n hx hb dX4_value_19 rfl (lv_at hl 1 rfl) ?_
      refine lv_iload_n hx hb dX4_value_20 rfl (lv_at hl 2 rfl) ?_
      refine lv_iconst (v := (-1 : Int32)) hx hb dX4_value_21 (by decide) ?_
      obtain ⟨v2, hv2, hf⟩ := zk_ob hf
      refine zk_goR (zk_V (As := [.int x0, .int x1, .int (-1 : Int32)]) (rest := []) hx hb hml hown hts hK hG hP hD hS hA gX4_value_X4_weighed rfl hd_X4_weighed (Nat.le_trans (Nat.le_of_ble_eq_true rfl) hRf) (Nat.le_trans (Nat.le_of_ble_eq_true rfl) hRl) hcs (zc_X4_weighed l D tL tO cI cJ cB cQ a_sm a_tx a_rd a_td a_sp a_ds a_sm_fars a_sm_common a_sm_others a_sm_scale a_td_says a_td_weights r_sm_fars x0 x1 (-1 : Int32) v_sm_asked v_sm_traced v_td_laws v_td_there v_td_sayers f_td_weights f_sm_fars v2 hv2) rfl rfl 0 rfl hl.1 rfl rfl (Nat.le_of_ble_eq_true rfl) dX4_value_22 [0, 1, 2, 3, 4, 5, 6, 7, 8, 9, 10] rfl rfl) hP hD hS hA [0, 1, 2, 3, 4, 5, 6, 7, 8, 9, 10] rfl (fun H locs hP hS => ?_)
      refine lv_l2i hx hb dX4_value_25 rfl ?_
      obtain rfl := Option.some.inj hf
      exact hret trivial _ _ _ _ hP hD hS dX4_value_26
    · have hf := zk_t c3 hf
      refine lv_iconst (v := (-1 : Int32)) hx hb dX4_value_16 (by decide) ?_
      obtain rfl := Option.some.inj hf
      exact hret trivial _ _ _ _ hP hD hS dX4_value_17
  · have hf := zk_f c8 hf
    refine lv_iload_n hx hb dX4_value_4 rfl (lv_at hl 1 rfl) ?_
    refine lv_iconst (v := (1 : Int32)) hx hb dX4_value_5 (by decide) ?_
    refine lv_icmp_ne (tgt := 16) hx hb dX4_value_6 (by decide) (fun c7 => ?_) (fun c7 => ?_)
    · have hf := zk_f c7 hf
      refine lv_iconst (v := (-1 : Int32)) hx hb dX4_value_16 (by decide) ?_
      obtain rfl := Option.some.inj hf
      exact hret trivial _ _ _ _ hP hD hS dX4_value_17
    · have hf := zk_t c7 hf
      refine lv_iload_n hx hb dX4_value_9 rfl (lv_at hl 2 rfl) ?_
      obtain ⟨v4, hv4, hf⟩ := zk_ob hf
      refine zk_goR (zk_S (As := [.int x1]) (rest := []) hx hb hml hown hts hK hG hP hD hS hA gX4_value_X4_isWorld rfl hd_X4_isWorld (Nat.le_trans (Nat.le_of_ble_eq_true rfl) hRf) (Nat.le_trans (Nat.le_of_ble_eq_true rfl) hRl) hcs (zc_X4_isWorld l D tL tO cI cJ cB cQ x1 v4 hv4) hl.1 rfl rfl (Nat.le_of_ble_eq_true rfl) dX4_value_10 [] rfl rfl) hP hD hS hA [] rfl (fun H locs hP hS => ?_)
      refine lv_if_ne (tgt := 18) hx hb dX4_value_13 (by decide) (fun c6 => ?_) (fun c6 => ?_)
      · have hf := zk_f c6 hf
        refine lv_aload_n hx hb dX4_value_18 rfl (lv_at hl 0 rfl) ?_
        refine lv_iload_n hx hb dX4_value_19 rfl (lv_at hl 1 rfl) ?_
        refine lv_iload_n hx hb dX4_value_20 rfl (lv_at hl 2 rfl) ?_
        refine lv_iconst (v := (-1 : Int32)) hx hb dX4_value_21 (by decide) ?_
        obtain ⟨v5, hv5, hf⟩ := zk_ob hf
        refine zk_goR (zk_V (As := [.int x0, .int x1, .int (-1 : Int32)]) (rest := []) hx hb hml hown hts hK hG hP hD hS hA gX4_value_X4_weighed rfl hd_X4_weighed (Nat.le_trans (Nat.le_of_ble_eq_true rfl) hRf) (Nat.le_trans (Nat.le_of_ble_eq_true rfl) hRl) hcs (zc_X4_weighed l D tL tO cI cJ cB cQ a_sm a_tx a_rd a_td a_sp a_ds a_sm_fars a_sm_common a_sm_others a_sm_scale a_td_says a_td_weights r_sm_fars x0 x1 (-1 : Int32) v_sm_asked v_sm_traced v_td_laws v_td_there v_td_sayers f_td_weights f_sm_fars v5 hv5) rfl rfl 0 rfl hl.1 rfl rfl (Nat.le_of_ble_eq_true rfl) dX4_value_22 [0, 1, 2, 3, 4, 5, 6, 7, 8, 9, 10] rfl rfl) hP hD hS hA [0, 1, 2, 3, 4, 5, 6, 7, 8, 9, 10] rfl (fun H locs hP hS => ?_)
        refine lv_l2i hx hb dX4_value_25 rfl ?_
        obtain rfl := Option.some.inj hf
        exact hret trivial _ _ _ _ hP hD hS dX4_value_26
      · have hf := zk_t c6 hf
        refine lv_iconst (v := (-1 : Int32)) hx hb dX4_value_16 (by decide) ?_
        obtain rfl := Option.some.inj hf
        exact hret trivial _ _ _ _ hP hD hS dX4_value_17
def zf_X4_held (x0 : Int32) (v_sm_asked : Int64) (v_td_there : Int64) (v_td_sayers : Int32) (f_td_weights : Nat → Int32) (f_sm_fars : Nat → Nat → Int64) (f_sm_scale : Nat → Int64) : Option (Int32 × (Nat → Int64)) :=
  (zf_X4_isWay x0).bind (fun v1 =>
  if v1 = 0 then
  some ((-1 : Int32), f_sm_scale)
  else
  (zf_X4_mergedBy x0 v_td_there v_td_sayers f_td_weights f_sm_fars f_sm_scale).bind (fun v2 =>
  if (lg_cmp (v2.1 &&& (v_sm_asked ^^^ (-1 : Int64))) (0 : Int64)) = 0 then
  some ((1 : Int32), v2.2)
  else
  some ((0 : Int32), v2.2)))
theorem hd_X4_held : yX4_held.cls = RX4 ∧ yX4_held.cls ≠ "java/lang/invoke/MethodHandle" ∧ yX4_held.cls ≠ "java/lang/invoke/VarHandle" ∧ (parseMethodDescriptor yX4_held.desc).map (fun d => d.parameters.length) = some 1 := by decide +kernel
set_option maxHeartbeats 4000000 in
set_option maxRecDepth 100000 in
theorem zc_X4_held (l : Launch) (D : va_G) (tL tO : Nat) (cI cJ cB cQ : ClassId) (a_sm a_tx a_rd a_td a_sp a_ds a_sm_fars a_sm_common a_sm_others a_sm_scale a_td_says a_td_weights : Nat) (r_sm_fars : Nat → Nat) (x0 : Int32) (v_sm_asked : Int64) (v_sm_traced : Int64) (v_td_laws : Int32) (v_td_there : Int64) (v_td_sayers : Int32) (f_td_weights : Nat → Int32) (f_sm_fars : Nat → Nat → Int64) (f_sm_scale : Nat → Int64) (z : Int32 × (Nat → Int64)) (hf : zf_X4_held x0 v_sm_asked v_td_there v_td_sayers f_td_weights f_sm_fars f_sm_scale = some z) : zk_CT l D tL tO (zk_ty cI cJ cB cQ) yX4_held wsX4_held 4 100 [.ref a_sm, .int x0] (some (.int z.1)) [(a_sm, .inr (4, [.ref a_tx, .ref a_rd, .ref a_td, .ref a_sp, .long v_sm_asked, .ref a_ds, .ref a_sm_fars, .ref a_sm_common, .ref a_sm_others, .ref a_sm_scale, .long v_sm_traced])), (a_td, .inr (3, [.int v_td_laws, .long v_td_there, .int v_td_sayers, .ref a_td_says, .ref a_td_weights])), (a_td_weights, .inl (cI, 7, .inl f_td_weights)), (a_sm_fars, .inl (cQ, 7, .inr (.inr (.inr (.inr (fun i => if i < 7 then some (r_sm_fars i) else none)))))), ((r_sm_fars 0), .inl (cJ, 64, .inr (.inl (f_sm_fars 0)))), ((r_sm_fars 1), .inl (cJ, 64, .inr (.inl (f_sm_fars 1)))), ((r_sm_fars 2), .inl (cJ, 64, .inr (.inl (f_sm_fars 2)))), ((r_sm_fars 3), .inl (cJ, 64, .inr (.inl (f_sm_fars 3)))), ((r_sm_fars 4), .inl (cJ, 64, .inr (.inl (f_sm_fars 4)))), ((r_sm_fars 5), .inl (cJ, 64, .inr (.inl (f_sm_fars 5)))), ((r_sm_fars 6), .inl (cJ, 64, .inr (.inl (f_sm_fars 6)))), (a_sm_scale, .inl (cJ, 64, .inr (.inl f_sm_scale)))] [(a_sm, .inr (4, [.ref a_tx, .ref a_rd, .ref a_td, .ref a_sp, .long v_sm_asked, .ref a_ds, .ref a_sm_fars, .ref a_sm_common, .ref a_sm_others, .ref a_sm_scale, .long v_sm_traced])), (a_td, .inr (3, [.int v_td_laws, .long v_td_there, .int v_td_sayers, .ref a_td_says, .ref a_td_weights])), (a_td_weights, .inl (cI, 7, .inl f_td_weights)), (a_sm_fars, .inl (cQ, 7, .inr (.inr (.inr (.inr (fun i => if i < 7 then some (r_sm_fars i) else none)))))), ((r_sm_fars 0), .inl (cJ, 64, .inr (.inl (f_sm_fars 0)))), ((r_sm_fars 1), .inl (cJ, 64, .inr (.inl (f_sm_fars 1)))), ((r_sm_fars 2), .inl (cJ, 64, .inr (.inl (f_sm_fars 2)))), ((r_sm_fars 3), .inl (cJ, 64, .inr (.inl (f_sm_fars 3)))), ((r_sm_fars 4), .inl (cJ, 64, .inr (.inl (f_sm_fars 4)))), ((r_sm_fars 5), .inl (cJ, 64, .inr (.inl (f_sm_fars 5)))), ((r_sm_fars 6), .inl (cJ, 64, .inr (.inl (f_sm_fars 6)))), (a_sm_scale, .inl (cJ, 64, .inr (.inl z.2)))] := by
  refine zk_of_i (cc := cX4_held) (maxL := 2) (by decide) rfl (Nat.le_of_ble_eq_true rfl) ?_
  intro p e R s m args below meth c A Q ls hx hb hml hRf hRl hts hown hP hK hD hA hS hG hl hret
  have hl : lv_has ls 2 [(0, .ref a_sm), (1, .int x0)] := hl
  have hown : s.vm.findClass RX4 = some m.cls := hown
  have hcs : 0 ≤ R.cells ∧ 0 ≤ R.slots := ⟨Nat.zero_le _, Nat.zero_le _⟩
  have lk0 := hts (.fieldLink RX4 37 "SayingsMerged" "asked" "J") (by decide +kernel)
  have inX4 : ∀ w ∈ wsX40, w ∈ wsX4_held := by decide +kernel
  have lk2 := hts (.constantLong RX4 35 (-1)) (by decide +kernel)
  unfold zf_X4_held at hf
  refine lv_iload_n hx hb dX4_held_0 rfl (lv_at hl 1 rfl) ?_
  obtain ⟨v1, hv1, hf⟩ := zk_ob hf
  refine zk_goR (zk_S (As := [.int x0]) (rest := []) hx hb hml hown hts hK hG hP hD hS hA gX4_held_X4_isWay rfl hd_X4_isWay (Nat.le_trans (Nat.le_of_ble_eq_true rfl) hRf) (Nat.le_trans (Nat.le_of_ble_eq_true rfl) hRl) hcs (zc_X4_isWay l D tL tO cI cJ cB cQ x0 v1 hv1) hl.1 rfl rfl (Nat.le_of_ble_eq_true rfl) dX4_held_1 [] rfl rfl) hP hD hS hA [] rfl (fun H locs hP hS => ?_)
  refine lv_if_ne (tgt := 9) hx hb dX4_held_4 (by decide) (fun c4 => ?_) (fun c4 => ?_)
  · have hf := zk_f c4 hf
    refine lv_aload_n hx hb dX4_held_9 rfl (lv_at hl 0 rfl) ?_
    refine lv_iload_n hx hb dX4_held_10 rfl (lv_at hl 1 rfl) ?_
    obtain ⟨v2, hv2, hf⟩ := zk_ob hf
    refine zk_go (wr := []) (w2 := [(a_sm, .inr (4, [.ref a_tx, .ref a_rd, .ref a_td, .ref a_sp, .long v_sm_asked, .ref a_ds, .ref a_sm_fars, .ref a_sm_common, .ref a_sm_others, .ref a_sm_scale, .long v_sm_traced])), (a_td, .inr (3, [.int v_td_laws, .long v_td_there, .int v_td_sayers, .ref a_td_says, .ref a_td_weights])), (a_td_weights, .inl (cI, 7, .inl f_td_weights)), (a_sm_fars, .inl (cQ, 7, .inr (.inr (.inr (.inr (fun i => if i < 7 then some (r_sm_fars i) else none)))))), ((r_sm_fars 0), .inl (cJ, 64, .inr (.inl (f_sm_fars 0)))), ((r_sm_fars 1), .inl (cJ, 64, .inr (.inl (f_sm_fars 1)))), ((r_sm_fars 2), .inl (cJ, 64, .inr (.inl (f_sm_fars 2)))), ((r_sm_fars 3), .inl (cJ, 64, .inr (.inl (f_sm_fars 3)))), ((r_sm_fars 4), .inl (cJ, 64, .inr (.inl (f_sm_fars 4)))), ((r_sm_fars 5), .inl (cJ, 64, .inr (.inl (f_sm_fars 5)))), ((r_sm_fars 6), .inl (cJ, 64, .inr (.inl (f_sm_fars 6)))), (a_sm_scale, .inl (cJ, 64, .inr (.inl v2.2)))]) (zk_V (As := [.int x0]) (rest := []) hx hb hml hown hts hK hG hP hD hS hA gX4_held_X4_mergedBy rfl hd_X4_mergedBy (Nat.le_trans (Nat.le_of_ble_eq_true rfl) hRf) (Nat.le_trans (Nat.le_of_ble_eq_true rfl) hRl) hcs (zc_X4_mergedBy l D tL tO cI cJ cB cQ a_sm a_tx a_rd a_td a_sp a_ds a_sm_fars a_sm_common a_sm_others a_sm_scale a_td_says a_td_weights r_sm_fars x0 v_sm_asked v_sm_traced v_td_laws v_td_there v_td_sayers f_td_weights f_sm_fars f_sm_scale v2 hv2) rfl rfl 0 rfl hl.1 rfl rfl (Nat.le_of_ble_eq_true rfl) dX4_held_11 [0, 1, 2, 3, 4, 5, 6, 7, 8, 9, 10, 11] rfl rfl) hP hD hS hA [0, 1, 2, 3, 4, 5, 6, 7, 8, 9, 10, 11] [] [0, 1, 2, 3, 4, 5, 6, 7, 8, 9, 10, 11] rfl rfl rfl (by decide) rfl rfl (fun H locs hP hD hS => ?_)
    refine lv_aload_n hx hb dX4_held_14 rfl (lv_at hl 0 rfl) ?_
    refine va_get (ci := 4) (v := .long v_sm_asked) (C := RX4) (T := TX4) (N := 11) hx hb hts inX4 hown hK hP 0 rfl rfl 4 (by decide) lk0 (fun _ h9 => h9) rfl dX4_held_15 ?_
    refine lv_ldc2 hx hb hown lk2 dX4_held_18 ?_
    refine lv_lxor hx hb dX4_held_21 ?_
    refine lv_land hx hb dX4_held_22 ?_
    refine lv_lconst (v := (0 : Int64)) hx hb dX4_held_23 (by decide) ?_
    refine W.lcmp hx hb dX4_held_24 ?_
    refine lv_if_ne (tgt := 32) hx hb dX4_held_25 (by decide) (fun c3 => ?_) (fun c3 => ?_)
    · have hf := zk_f c3 hf
      refine lv_iconst (v := (0 : Int32)) hx hb dX4_held_32 (by decide) ?_
      obtain rfl := Option.some.inj hf
      exact hret trivial _ _ _ _ hP hD hS dX4_held_33
    · have hf := zk_t c3 hf
      refine lv_iconst (v := (1 : Int32)) hx hb dX4_held_28 (by decide) ?_
      refine lv_goto (tgt := 33) hx hb dX4_held_29 (by decide) ?_
      obtain rfl := Option.some.inj hf
      exact hret trivial _ _ _ _ hP hD hS dX4_held_33
  · have hf := zk_t c4 hf
    refine lv_iconst (v := (-1 : Int32)) hx hb dX4_held_7 (by decide) ?_
    obtain rfl := Option.some.inj hf
    exact hret trivial _ _ _ _ hP hD hS dX4_held_8
def zl_X4_goneAlong_25 (f_ds_lengths : Nat → Int32) (w2 : Int32) : Nat → (Int32) → (Nat → Int64) → Option (Int32 × (Nat → Int64))
  | 0, _, _ => none
  | n + 1, w6, w7 =>
    if (64 : Int32) ≤ w6 then
    some (w6, w7)
    else
    zk_gd (zk_in (w2 ^^^ w6) 64)
    (zk_gd (zk_in w6 64)
    (zk_lt (w6 + 1) (fun y10 =>
    zl_X4_goneAlong_25 f_ds_lengths w2 n y10 (vp_updL w7 w6.toNatClampNeg ((f_ds_lengths (w2 ^^^ w6).toNatClampNeg).toInt64)))))
def zl_X4_goneAlong_6 (x0 : Int64) (x1 : Int64) (f_ds_lengths : Nat → Int32) : Nat → (Int64) → (Int32) → (Nat → Int64) → Option (Int64 × Int32 × (Nat → Int64))
  | 0, _, _, _ => none
  | n + 1, w1, w2, w3 =>
    if (64 : Int32) ≤ w2 then
    some (w1, w2, w3)
    else
    (zf_X4_isIn x0 w2).bind (fun v4 =>
    if v4 = 0 then
    zk_lt (w2 + 1) (fun y5 =>
    zl_X4_goneAlong_6 x0 x1 f_ds_lengths n w1 y5 w3)
    else
    (zl_X4_goneAlong_25 f_ds_lengths w2 zk_F (0 : Int32) w3).bind (fun v12 =>
    (zf_X4_least x1 64 v12.2).bind (fun v14 =>
    zk_lt (w1 ||| v14) (fun y15 =>
    zk_lt (w2 + 1) (fun y16 =>
    zl_X4_goneAlong_6 x0 x1 f_ds_lengths n y15 y16 v12.2)))))
def zf_X4_goneAlong (x0 : Int64) (x1 : Int64) (f_ds_lengths : Nat → Int32) (f_sm_scale : Nat → Int64) : Option (Int64 × (Nat → Int64)) :=
  (zl_X4_goneAlong_6 x0 x1 f_ds_lengths zk_F (0 : Int64) (0 : Int32) f_sm_scale).bind (fun v19 =>
  some (v19.1, v19.2.2))
theorem hd_X4_goneAlong : yX4_goneAlong.cls = RX4 ∧ yX4_goneAlong.cls ≠ "java/lang/invoke/MethodHandle" ∧ yX4_goneAlong.cls ≠ "java/lang/invoke/VarHandle" ∧ (parseMethodDescriptor yX4_goneAlong.desc).map (fun d => d.parameters.length) = some 2 := by decide +kernel
set_option maxHeartbeats 4000000 in
set_option maxRecDepth 100000 in
theorem zc_X4_goneAlong (l : Launch) (D : va_G) (tL tO : Nat) (cI cJ cB cQ : ClassId) (a_sm a_tx a_rd a_td a_sp a_ds a_sm_fars a_sm_common a_sm_others a_sm_scale a_ds_costs a_ds_lengths : Nat) (x0 : Int64) (x1 : Int64) (v_sm_asked : Int64) (v_sm_traced : Int64) (v_ds_alike : Int32) (f_ds_lengths : Nat → Int32) (f_sm_scale : Nat → Int64) (z : Int64 × (Nat → Int64)) (hf : zf_X4_goneAlong x0 x1 f_ds_lengths f_sm_scale = some z) : zk_CT l D tL tO (zk_ty cI cJ cB cQ) yX4_goneAlong wsX4_goneAlong 2 49 [.ref a_sm, .long x0, .long x1] (some (.long z.1)) [(a_sm, .inr (4, [.ref a_tx, .ref a_rd, .ref a_td, .ref a_sp, .long v_sm_asked, .ref a_ds, .ref a_sm_fars, .ref a_sm_common, .ref a_sm_others, .ref a_sm_scale, .long v_sm_traced])), (a_ds, .inr (0, [.ref a_ds_costs, .int v_ds_alike, .ref a_ds_lengths])), (a_ds_lengths, .inl (cI, 64, .inl f_ds_lengths)), (a_sm_scale, .inl (cJ, 64, .inr (.inl f_sm_scale)))] [(a_sm, .inr (4, [.ref a_tx, .ref a_rd, .ref a_td, .ref a_sp, .long v_sm_asked, .ref a_ds, .ref a_sm_fars, .ref a_sm_common, .ref a_sm_others, .ref a_sm_scale, .long v_sm_traced])), (a_ds, .inr (0, [.ref a_ds_costs, .int v_ds_alike, .ref a_ds_lengths])), (a_ds_lengths, .inl (cI, 64, .inl f_ds_lengths)), (a_sm_scale, .inl (cJ, 64, .inr (.inl z.2)))] := by
  refine zk_of_l (cc := cX4_goneAlong) (maxL := 9) (by decide) rfl (Nat.le_of_ble_eq_true rfl) ?_
  intro p e R s m args below meth c A Q ls hx hb hml hRf hRl hts hown hP hK hD hA hS hG hl hret
  have hl : lv_has ls 9 [(0, .ref a_sm), (1, .long x0), (3, .long x1)] := hl
  have hown : s.vm.findClass RX4 = some m.cls := hown
  have hcs : 0 ≤ R.cells ∧ 0 ≤ R.slots := ⟨Nat.zero_le _, Nat.zero_le _⟩
  have lk0 := hts (.fieldLink RX4 60 "SayingsMerged" "scale" "[J") (by decide +kernel)
  have inX4 : ∀ w ∈ wsX40, w ∈ wsX4_goneAlong := by decide +kernel
  have lk2 := hts (.fieldLink RX4 44 "SayingsMerged" "distances" "LSayingsMerged$Distances;") (by decide +kernel)
  have lk3 : (Cond.fieldLinkNest RX4 122 "SayingsMerged$Distances" "lengths" "[I" "SayingsMerged").before args s = true := va_Nw.use rfl (hG.1 _ (by decide +kernel))
  have inX0 : ∀ w ∈ wsX00, w ∈ wsX4_goneAlong := by decide +kernel
  unfold zf_X4_goneAlong at hf
  refine lv_lconst (v := (0 : Int64)) hx hb dX4_goneAlong_0 (by decide) ?_
  refine lv_lstore (lv' := [(5, .long (0 : Int64)), (0, .ref a_sm), (1, .long x0), (3, .long x1)]) hx hb dX4_goneAlong_1 hl (by decide) rfl (fun ls hl => ?_)
  refine lv_iconst (v := (0 : Int32)) hx hb dX4_goneAlong_3 (by decide) ?_
  refine lv_istore (lv' := [(7, .int (0 : Int32)), (5, .long (0 : Int64)), (0, .ref a_sm), (1, .long x0), (3, .long x1)]) hx hb dX4_goneAlong_4 hl (by decide) rfl (fun ls hl => ?_)
  have lp6 : ∀ (n : Nat) (w1 : Int64) (w2 : Int32) (w3 : Nat → Int64) (z6 : Int64 × Int32 × (Nat → Int64)) (H : Heap) (locs : List Loc) (ls : Array Slot), zl_X4_goneAlong_6 x0 x1 f_ds_lengths n w1 w2 w3 = some z6 → va_P D vwCl [(a_sm, .inr (4, [.ref a_tx, .ref a_rd, .ref a_td, .ref a_sp, .long v_sm_asked, .ref a_ds, .ref a_sm_fars, .ref a_sm_common, .ref a_sm_others, .ref a_sm_scale, .long v_sm_traced])), (a_ds, .inr (0, [.ref a_ds_costs, .int v_ds_alike, .ref a_ds_lengths])), (a_ds_lengths, .inl (cI, 64, .inl f_ds_lengths)), (a_sm_scale, .inl (cJ, 64, .inr (.inl w3)))] H → va_D A [(a_sm, .inr (4, [.ref a_tx, .ref a_rd, .ref a_td, .ref a_sp, .long v_sm_asked, .ref a_ds, .ref a_sm_fars, .ref a_sm_common, .ref a_sm_others, .ref a_sm_scale, .long v_sm_traced])), (a_ds, .inr (0, [.ref a_ds_costs, .int v_ds_alike, .ref a_ds_lengths])), (a_ds_lengths, .inl (cI, 64, .inl f_ds_lengths)), (a_sm_scale, .inl (cJ, 64, .inr (.inl w3)))] → va_S A s.heap H locs → lv_has ls 9 [(0, .ref a_sm), (1, .long x0), (3, .long x1), (5, .long w1), (7, .int w2)] → (∀ (H : Heap) (locs : List Loc) (ls : Array Slot), va_P D vwCl [(a_sm, .inr (4, [.ref a_tx, .ref a_rd, .ref a_td, .ref a_sp, .long v_sm_asked, .ref a_ds, .ref a_sm_fars, .ref a_sm_common, .ref a_sm_others, .ref a_sm_scale, .long v_sm_traced])), (a_ds, .inr (0, [.ref a_ds_costs, .int v_ds_alike, .ref a_ds_lengths])), (a_ds_lengths, .inl (cI, 64, .inl f_ds_lengths)), (a_sm_scale, .inl (cJ, 64, .inr (.inl z6.2.2)))] H → va_D A [(a_sm, .inr (4, [.ref a_tx, .ref a_rd, .ref a_td, .ref a_sp, .long v_sm_asked, .ref a_ds, .ref a_sm_fars, .ref a_sm_common, .ref a_sm_others, .ref a_sm_scale, .long v_sm_traced])), (a_ds, .inr (0, [.ref a_ds_costs, .int v_ds_alike, .ref a_ds_lengths])), (a_ds_lengths, .inl (cI, 64, .inl f_ds_lengths)), (a_sm_scale, .inl (cJ, 64, .inr (.inl z6.2.2)))] → va_S A s.heap H locs → lv_has ls 9 [(0, .ref a_sm), (1, .long x0), (3, .long x1), (5, .long z6.1), (7, .int z6.2.1)] → W p l e R s m args below meth c H locs 0 0 Q (F0 m 78 ls [])) → W p l e R s m args below meth c H locs 0 0 Q (F0 m 6 ls []) := by
    intro n
    induction n with
    | zero => intro w1 w2 w3 z6 H locs ls hf; exact absurd (show none = some z6 from hf) (by simp)
    | succ n ih =>
      intro w1 w2 w3 z6 H locs ls hf hP hD hS hl hk
      rw [zl_X4_goneAlong_6] at hf
      refine lv_iload hx hb dX4_goneAlong_6 (lv_at hl 4 rfl) ?_
      refine lv_bipush (v := (64 : Int32)) hx hb dX4_goneAlong_8 (by decide) ?_
      refine lv_icmp_ge (tgt := 78) hx hb dX4_goneAlong_10 (by decide) (fun c18 => ?_) (fun c18 => ?_)
      · have hf := zk_t c18 hf
        obtain rfl := Option.some.inj hf
        exact hk _ _ _ hP hD hS (lv_sub hl [0, 1, 2, 3, 4] rfl)
      · have hf := zk_f c18 hf
        refine lv_lload_n hx hb dX4_goneAlong_13 rfl (lv_at hl 1 rfl) ?_
        refine lv_iload hx hb dX4_goneAlong_14 (lv_at hl 4 rfl) ?_
        obtain ⟨v4, hv4, hf⟩ := zk_ob hf
        refine zk_goR (zk_S (As := [.long x0, .int w2]) (rest := []) hx hb hml hown hts hK hG hP hD hS hA gX4_goneAlong_X4_isIn rfl hd_X4_isIn (Nat.le_trans (Nat.le_of_ble_eq_true rfl) hRf) (Nat.le_trans (Nat.le_of_ble_eq_true rfl) hRl) hcs (zc_X4_isIn l D tL tO cI cJ cB cQ x0 w2 v4 hv4) hl.1 rfl rfl (Nat.le_of_ble_eq_true rfl) dX4_goneAlong_16 [] rfl rfl) hP hD hS hA [] rfl (fun H locs hP hS => ?_)
        refine lv_if_eq (tgt := 72) hx hb dX4_goneAlong_19 (by decide) (fun c17 => ?_) (fun c17 => ?_)
        · have hf := zk_t c17 hf
          obtain ⟨y5, ey5, hf⟩ := zk_lt_s hf
          refine lv_iinc (v := y5) (lv' := [(7, .int y5), (0, .ref a_sm), (1, .long x0), (3, .long x1), (5, .long w1)]) hx hb dX4_goneAlong_72 hl (k := 4) rfl (by rw [ey5]; rfl) (by decide) rfl (fun ls hl => ?_)
          refine lv_goto (tgt := 6) hx hb dX4_goneAlong_75 (by decide) ?_
          exact ih w1 y5 w3 _ _ _ _ hf hP hD hS (lv_sub hl [1, 2, 3, 4, 0] rfl) hk
        · have hf := zk_f c17 hf
          refine lv_iconst (v := (0 : Int32)) hx hb dX4_goneAlong_22 (by decide) ?_
          refine lv_istore (lv' := [(8, .int (0 : Int32)), (0, .ref a_sm), (1, .long x0), (3, .long x1), (5, .long w1), (7, .int w2)]) hx hb dX4_goneAlong_23 hl (by decide) rfl (fun ls hl => ?_)
          have lp25_13 : ∀ (n : Nat) (w6 : Int32) (w7 : Nat → Int64) (z25 : Int32 × (Nat → Int64)) (H : Heap) (locs : List Loc) (ls : Array Slot), zl_X4_goneAlong_25 f_ds_lengths w2 n w6 w7 = some z25 → va_P D vwCl [(a_sm, .inr (4, [.ref a_tx, .ref a_rd, .ref a_td, .ref a_sp, .long v_sm_asked, .ref a_ds, .ref a_sm_fars, .ref a_sm_common, .ref a_sm_others, .ref a_sm_scale, .long v_sm_traced])), (a_ds, .inr (0, [.ref a_ds_costs, .int v_ds_alike, .ref a_ds_lengths])), (a_ds_lengths, .inl (cI, 64, .inl f_ds_lengths)), (a_sm_scale, .inl (cJ, 64, .inr (.inl w7)))] H → va_D A [(a_sm, .inr (4, [.ref a_tx, .ref a_rd, .ref a_td, .ref a_sp, .long v_sm_asked, .ref a_ds, .ref a_sm_fars, .ref a_sm_common, .ref a_sm_others, .ref a_sm_scale, .long v_sm_traced])), (a_ds, .inr (0, [.ref a_ds_costs, .int v_ds_alike, .ref a_ds_lengths])), (a_ds_lengths, .inl (cI, 64, .inl f_ds_lengths)), (a_sm_scale, .inl (cJ, 64, .inr (.inl w7)))] → va_S A s.heap H locs → lv_has ls 9 [(0, .ref a_sm), (1, .long x0), (3, .long x1), (5, .long w1), (7, .int w2), (8, .int w6)] → (∀ (H : Heap) (locs : List Loc) (ls : Array Slot), va_P D vwCl [(a_sm, .inr (4, [.ref a_tx, .ref a_rd, .ref a_td, .ref a_sp, .long v_sm_asked, .ref a_ds, .ref a_sm_fars, .ref a_sm_common, .ref a_sm_others, .ref a_sm_scale, .long v_sm_traced])), (a_ds, .inr (0, [.ref a_ds_costs, .int v_ds_alike, .ref a_ds_lengths])), (a_ds_lengths, .inl (cI, 64, .inl f_ds_lengths)), (a_sm_scale, .inl (cJ, 64, .inr (.inl z25.2)))] H → va_D A [(a_sm, .inr (4, [.ref a_tx, .ref a_rd, .ref a_td, .ref a_sp, .long v_sm_asked, .ref a_ds, .ref a_sm_fars, .ref a_sm_common, .ref a_sm_others, .ref a_sm_scale, .long v_sm_traced])), (a_ds, .inr (0, [.ref a_ds_costs, .int v_ds_alike, .ref a_ds_lengths])), (a_ds_lengths, .inl (cI, 64, .inl f_ds_lengths)), (a_sm_scale, .inl (cJ, 64, .inr (.inl z25.2)))] → va_S A s.heap H locs → lv_has ls 9 [(0, .ref a_sm), (1, .long x0), (3, .long x1), (5, .long w1), (7, .int w2), (8, .int z25.1)] → W p l e R s m args below meth c H locs 0 0 Q (F0 m 59 ls [])) → W p l e R s m args below meth c H locs 0 0 Q (F0 m 25 ls []) := by
            intro n
            induction n with
            | zero => intro w6 w7 z25 H locs ls hf; exact absurd (show none = some z25 from hf) (by simp)
            | succ n ih =>
              intro w6 w7 z25 H locs ls hf hP hD hS hl hk
              rw [zl_X4_goneAlong_25] at hf
              refine lv_iload hx hb dX4_goneAlong_25 (lv_at hl 5 rfl) ?_
              refine lv_bipush (v := (64 : Int32)) hx hb dX4_goneAlong_27 (by decide) ?_
              refine lv_icmp_ge (tgt := 59) hx hb dX4_goneAlong_29 (by decide) (fun c11 => ?_) (fun c11 => ?_)
              · have hf := zk_t c11 hf
                obtain rfl := Option.some.inj hf
                exact hk _ _ _ hP hD hS (lv_sub hl [0, 1, 2, 3, 4, 5] rfl)
              · have hf := zk_f c11 hf
                refine lv_aload_n hx hb dX4_goneAlong_32 rfl (lv_at hl 0 rfl) ?_
                refine va_get (ci := 4) (v := .ref a_sm_scale) (C := RX4) (T := TX4) (N := 11) hx hb hts inX4 hown hK hP 0 rfl rfl 9 (by decide) lk0 (fun _ h9 => h9) rfl dX4_goneAlong_33 ?_
                refine lv_iload hx hb dX4_goneAlong_36 (lv_at hl 5 rfl) ?_
                refine lv_aload_n hx hb dX4_goneAlong_38 rfl (lv_at hl 0 rfl) ?_
                refine va_get (ci := 4) (v := .ref a_ds) (C := RX4) (T := TX4) (N := 11) hx hb hts inX4 hown hK hP 0 rfl rfl 5 (by decide) lk2 (fun _ h9 => h9) rfl dX4_goneAlong_39 ?_
                refine va_getN (ci := 0) (v := .ref a_ds_lengths) (C := RX0) (T := TX0) (N := 3) hx hb hts inX0 hown hK hP 1 rfl rfl 2 (by decide) lk3 (fun _ h9 => h9) rfl dX4_goneAlong_42 ?_
                refine lv_iload hx hb dX4_goneAlong_45 (lv_at hl 4 rfl) ?_
                refine lv_iload hx hb dX4_goneAlong_47 (lv_at hl 5 rfl) ?_
                refine lv_ixor hx hb dX4_goneAlong_49 ?_
                obtain ⟨g8, hf⟩ := zk_gd_s hf
                refine va_iald hx hb hK hP 2 0 rfl rfl (zk_in_s g8) dX4_goneAlong_50 ?_
                refine lv_i2l hx hb dX4_goneAlong_51 rfl ?_
                obtain ⟨g9, hf⟩ := zk_gd_s hf
                refine va_last hx hb hK hP hD hS 3 1 rfl rfl (zk_in_s g9) dX4_goneAlong_52 (fun H locs hP hD hS => ?_)
                have hP : va_P D vwCl [(a_sm, .inr (4, [.ref a_tx, .ref a_rd, .ref a_td, .ref a_sp, .long v_sm_asked, .ref a_ds, .ref a_sm_fars, .ref a_sm_common, .ref a_sm_others, .ref a_sm_scale, .long v_sm_traced])), (a_ds, .inr (0, [.ref a_ds_costs, .int v_ds_alike, .ref a_ds_lengths])), (a_ds_lengths, .inl (cI, 64, .inl f_ds_lengths)), (a_sm_scale, .inl (cJ, 64, .inr (.inl (vp_updL w7 w6.toNatClampNeg ((f_ds_lengths (w2 ^^^ w6).toNatClampNeg).toInt64)))))] H := hP
                have hD : va_D A [(a_sm, .inr (4, [.ref a_tx, .ref a_rd, .ref a_td, .ref a_sp, .long v_sm_asked, .ref a_ds, .ref a_sm_fars, .ref a_sm_common, .ref a_sm_others, .ref a_sm_scale, .long v_sm_traced])), (a_ds, .inr (0, [.ref a_ds_costs, .int v_ds_alike, .ref a_ds_lengths])), (a_ds_lengths, .inl (cI, 64, .inl f_ds_lengths)), (a_sm_scale, .inl (cJ, 64, .inr (.inl (vp_updL w7 w6.toNatClampNeg ((f_ds_lengths (w2 ^^^ w6).toNatClampNeg).toInt64)))))] := hD
                obtain ⟨y10, ey10, hf⟩ := zk_lt_s hf
                refine lv_iinc (v := y10) (lv' := [(8, .int y10), (0, .ref a_sm), (1, .long x0), (3, .long x1), (5, .long w1), (7, .int w2)]) hx hb dX4_goneAlong_53 hl (k := 5) rfl (by rw [ey10]; rfl) (by decide) rfl (fun ls hl => ?_)
                refine lv_goto (tgt := 25) hx hb dX4_goneAlong_56 (by decide) ?_
                exact ih y10 (vp_updL w7 w6.toNatClampNeg ((f_ds_lengths (w2 ^^^ w6).toNatClampNeg).toInt64)) _ _ _ _ hf hP hD hS (lv_sub hl [1, 2, 3, 4, 5, 0] rfl) hk
          obtain ⟨v12, hv12, hf⟩ := zk_ob hf
          refine lp25_13 zk_F (0 : Int32) w3 v12 _ _ _ hv12 hP hD hS (lv_sub hl [1, 2, 3, 4, 5, 0] rfl) ?_
          intro H locs ls hP hD hS hl
          refine lv_lload hx hb dX4_goneAlong_59 (lv_at hl 3 rfl) ?_
          refine lv_lload_n hx hb dX4_goneAlong_61 rfl (lv_at hl 2 rfl) ?_
          refine lv_aload_n hx hb dX4_goneAlong_62 rfl (lv_at hl 0 rfl) ?_
          refine va_get (ci := 4) (v := .ref a_sm_scale) (C := RX4) (T := TX4) (N := 11) hx hb hts inX4 hown hK hP 0 rfl rfl 9 (by decide) lk0 (fun _ h9 => h9) rfl dX4_goneAlong_63 ?_
          obtain ⟨v14, hv14, hf⟩ := zk_ob hf
          refine zk_goR (zk_S (As := [.long x1, .ref a_sm_scale]) (rest := [.long w1]) hx hb hml hown hts hK hG hP hD hS hA gX4_goneAlong_X4_least rfl hd_X4_least (Nat.le_trans (Nat.le_of_ble_eq_true rfl) hRf) (Nat.le_trans (Nat.le_of_ble_eq_true rfl) hRl) hcs (zc_X4_least l D tL tO cI cJ cB cQ a_sm_scale 64 x1 v12.2 v14 hv14) hl.1 rfl rfl (Nat.le_of_ble_eq_true rfl) dX4_goneAlong_66 [3] rfl rfl) hP hD hS hA [3] rfl (fun H locs hP hS => ?_)
          refine lv_lor hx hb dX4_goneAlong_69 ?_
          obtain ⟨y15, ey15, hf⟩ := zk_lt_s hf
          refine zk_topl ey15 ?_
          refine lv_lstore (lv' := [(5, .long y15), (0, .ref a_sm), (1, .long x0), (3, .long x1), (7, .int w2), (8, .int v12.1)]) hx hb dX4_goneAlong_70 hl (by decide) rfl (fun ls hl => ?_)
          obtain ⟨y16, ey16, hf⟩ := zk_lt_s hf
          refine lv_iinc (v := y16) (lv' := [(7, .int y16), (5, .long y15), (0, .ref a_sm), (1, .long x0), (3, .long x1), (8, .int v12.1)]) hx hb dX4_goneAlong_72 hl (k := 4) rfl (by rw [ey16]; rfl) (by decide) rfl (fun ls hl => ?_)
          refine lv_goto (tgt := 6) hx hb dX4_goneAlong_75 (by decide) ?_
          exact ih y15 y16 v12.2 _ _ _ _ hf hP hD hS (lv_sub hl [2, 3, 4, 1, 0] rfl) hk
  obtain ⟨v19, hv19, hf⟩ := zk_ob hf
  refine lp6 zk_F (0 : Int64) (0 : Int32) f_sm_scale v19 _ _ _ hv19 hP hD hS (lv_sub hl [2, 3, 4, 1, 0] rfl) ?_
  intro H locs ls hP hD hS hl
  refine lv_lload hx hb dX4_goneAlong_78 (lv_at hl 3 rfl) ?_
  obtain rfl := Option.some.inj hf
  exact hret trivial _ _ _ _ hP hD hS dX4_goneAlong_80
def zf_X4_changed (x0 : Int32) (x1 : Int32) (v_sm_asked : Int64) (v_td_there : Int64) (v_td_sayers : Int32) (f_td_says : Nat → Int64) (f_ds_lengths : Nat → Int32) (f_sm_fars : Nat → Nat → Int64) (f_sm_scale : Nat → Int64) : Option (Int64 × (Nat → Int64)) :=
  (zf_X4_isSayer x0 v_td_sayers).bind (fun v1 =>
  if v1 = 0 then
  some ((0 : Int64), f_sm_scale)
  else
  if x1 = 0 then
  zk_gd (zk_in x0 7)
  ((zf_X4_least (v_td_there &&& v_sm_asked) 64 (f_sm_fars x0.toNatClampNeg)).bind (fun v4 =>
  some (v4, f_sm_scale)))
  else
  if x1 = 1 then
  zk_gd (zk_in x0 7)
  ((zf_X4_goneAlong (f_td_says x0.toNatClampNeg) (v_td_there &&& v_sm_asked) f_ds_lengths f_sm_scale).bind (fun v7 =>
  some (v7.1, v7.2)))
  else
  if x1 = 2 then
  zk_gd (zk_in x0 7)
  ((zf_X4_least (v_td_there &&& (v_sm_asked ^^^ (-1 : Int64))) 64 (f_sm_fars x0.toNatClampNeg)).bind (fun v10 =>
  some ((v_td_there &&& (f_td_says x0.toNatClampNeg)) ||| v10, f_sm_scale)))
  else
  some ((0 : Int64), f_sm_scale))
theorem hd_X4_changed : yX4_changed.cls = RX4 ∧ yX4_changed.cls ≠ "java/lang/invoke/MethodHandle" ∧ yX4_changed.cls ≠ "java/lang/invoke/VarHandle" ∧ (parseMethodDescriptor yX4_changed.desc).map (fun d => d.parameters.length) = some 2 := by decide +kernel
set_option maxHeartbeats 4000000 in
set_option maxRecDepth 100000 in
theorem zc_X4_changed (l : Launch) (D : va_G) (tL tO : Nat) (cI cJ cB cQ : ClassId) (a_sm a_tx a_rd a_td a_sp a_ds a_sm_fars a_sm_common a_sm_others a_sm_scale a_td_says a_td_weights a_ds_costs a_ds_lengths : Nat) (r_sm_fars : Nat → Nat) (x0 : Int32) (x1 : Int32) (v_sm_asked : Int64) (v_sm_traced : Int64) (v_td_laws : Int32) (v_td_there : Int64) (v_td_sayers : Int32) (f_td_says : Nat → Int64) (v_ds_alike : Int32) (f_ds_lengths : Nat → Int32) (f_sm_fars : Nat → Nat → Int64) (f_sm_scale : Nat → Int64) (z : Int64 × (Nat → Int64)) (hf : zf_X4_changed x0 x1 v_sm_asked v_td_there v_td_sayers f_td_says f_ds_lengths f_sm_fars f_sm_scale = some z) : zk_CT l D tL tO (zk_ty cI cJ cB cQ) yX4_changed wsX4_changed 3 77 [.ref a_sm, .int x0, .int x1] (some (.long z.1)) [(a_sm, .inr (4, [.ref a_tx, .ref a_rd, .ref a_td, .ref a_sp, .long v_sm_asked, .ref a_ds, .ref a_sm_fars, .ref a_sm_common, .ref a_sm_others, .ref a_sm_scale, .long v_sm_traced])), (a_td, .inr (3, [.int v_td_laws, .long v_td_there, .int v_td_sayers, .ref a_td_says, .ref a_td_weights])), (a_td_says, .inl (cJ, 7, .inr (.inl f_td_says))), (a_ds, .inr (0, [.ref a_ds_costs, .int v_ds_alike, .ref a_ds_lengths])), (a_ds_lengths, .inl (cI, 64, .inl f_ds_lengths)), (a_sm_fars, .inl (cQ, 7, .inr (.inr (.inr (.inr (fun i => if i < 7 then some (r_sm_fars i) else none)))))), ((r_sm_fars 0), .inl (cJ, 64, .inr (.inl (f_sm_fars 0)))), ((r_sm_fars 1), .inl (cJ, 64, .inr (.inl (f_sm_fars 1)))), ((r_sm_fars 2), .inl (cJ, 64, .inr (.inl (f_sm_fars 2)))), ((r_sm_fars 3), .inl (cJ, 64, .inr (.inl (f_sm_fars 3)))), ((r_sm_fars 4), .inl (cJ, 64, .inr (.inl (f_sm_fars 4)))), ((r_sm_fars 5), .inl (cJ, 64, .inr (.inl (f_sm_fars 5)))), ((r_sm_fars 6), .inl (cJ, 64, .inr (.inl (f_sm_fars 6)))), (a_sm_scale, .inl (cJ, 64, .inr (.inl f_sm_scale)))] [(a_sm, .inr (4, [.ref a_tx, .ref a_rd, .ref a_td, .ref a_sp, .long v_sm_asked, .ref a_ds, .ref a_sm_fars, .ref a_sm_common, .ref a_sm_others, .ref a_sm_scale, .long v_sm_traced])), (a_td, .inr (3, [.int v_td_laws, .long v_td_there, .int v_td_sayers, .ref a_td_says, .ref a_td_weights])), (a_td_says, .inl (cJ, 7, .inr (.inl f_td_says))), (a_ds, .inr (0, [.ref a_ds_costs, .int v_ds_alike, .ref a_ds_lengths])), (a_ds_lengths, .inl (cI, 64, .inl f_ds_lengths)), (a_sm_fars, .inl (cQ, 7, .inr (.inr (.inr (.inr (fun i => if i < 7 then some (r_sm_fars i) else none)))))), ((r_sm_fars 0), .inl (cJ, 64, .inr (.inl (f_sm_fars 0)))), ((r_sm_fars 1), .inl (cJ, 64, .inr (.inl (f_sm_fars 1)))), ((r_sm_fars 2), .inl (cJ, 64, .inr (.inl (f_sm_fars 2)))), ((r_sm_fars 3), .inl (cJ, 64, .inr (.inl (f_sm_fars 3)))), ((r_sm_fars 4), .inl (cJ, 64, .inr (.inl (f_sm_fars 4)))), ((r_sm_fars 5), .inl (cJ, 64, .inr (.inl (f_sm_fars 5)))), ((r_sm_fars 6), .inl (cJ, 64, .inr (.inl (f_sm_fars 6)))), (a_sm_scale, .inl (cJ, 64, .inr (.inl z.2)))] := by
  refine zk_of_l (cc := cX4_changed) (maxL := 3) (by decide) rfl (Nat.le_of_ble_eq_true rfl) ?_
  intro p e R s m args below meth c A Q ls hx hb hml hRf hRl hts hown hP hK hD hA hS hG hl hret
  have hl : lv_has ls 3 [(0, .ref a_sm), (1, .int x0), (2, .int x1)] := hl
  have hown : s.vm.findClass RX4 = some m.cls := hown
  have hcs : 0 ≤ R.cells ∧ 0 ≤ R.slots := ⟨Nat.zero_le _, Nat.zero_le _⟩
  have lk0 := hts (.fieldLink RX4 28 "SayingsMerged" "told" "LSayingsMerged$Told;") (by decide +kernel)
  have inX4 : ∀ w ∈ wsX40, w ∈ wsX4_changed := by decide +kernel
  have lk2 : (Cond.fieldLinkNest RX4 101 "SayingsMerged$Told" "there" "J" "SayingsMerged").before args s = true := va_Nw.use rfl (hG.1 _ (by decide +kernel))
  have inX3 : ∀ w ∈ wsX30, w ∈ wsX4_changed := by decide +kernel
  have lk4 := hts (.fieldLink RX4 37 "SayingsMerged" "asked" "J") (by decide +kernel)
  have lk5 := hts (.fieldLink RX4 50 "SayingsMerged" "fars" "[[J") (by decide +kernel)
  have lk6 : (Cond.fieldLinkNest RX4 108 "SayingsMerged$Told" "says" "[J" "SayingsMerged").before args s = true := va_Nw.use rfl (hG.1 _ (by decide +kernel))
  have lk7 := hts (.constantLong RX4 35 (-1)) (by decide +kernel)
  unfold zf_X4_changed at hf
  refine lv_aload_n hx hb dX4_changed_0 rfl (lv_at hl 0 rfl) ?_
  refine lv_iload_n hx hb dX4_changed_1 rfl (lv_at hl 1 rfl) ?_
  obtain ⟨v1, hv1, hf⟩ := zk_ob hf
  refine zk_goR (zk_V (As := [.int x0]) (rest := []) hx hb hml hown hts hK hG hP hD hS hA gX4_changed_X4_isSayer rfl hd_X4_isSayer (Nat.le_trans (Nat.le_of_ble_eq_true rfl) hRf) (Nat.le_trans (Nat.le_of_ble_eq_true rfl) hRl) hcs (zc_X4_isSayer l D tL tO cI cJ cB cQ a_sm a_tx a_rd a_td a_sp a_ds a_sm_fars a_sm_common a_sm_others a_sm_scale a_td_says a_td_weights x0 v_sm_asked v_sm_traced v_td_laws v_td_there v_td_sayers v1 hv1) rfl rfl 0 rfl hl.1 rfl rfl (Nat.le_of_ble_eq_true rfl) dX4_changed_2 [0, 1] rfl rfl) hP hD hS hA [0, 1] rfl (fun H locs hP hS => ?_)
  refine lv_if_ne (tgt := 10) hx hb dX4_changed_5 (by decide) (fun c11 => ?_) (fun c11 => ?_)
  · have hf := zk_f c11 hf
    refine lv_iload_n hx hb dX4_changed_10 rfl (lv_at hl 2 rfl) ?_
    by_cases c2 : x1 = 0
    · have hf := zk_t c2 hf
      refine lv_tableIn (off := 25) (tgt := 36) hx hb dX4_changed_11 (by rw [c2]; decide) (by rw [c2]; decide) (by rw [c2]; rfl) (by decide) ?_
      refine lv_aload_n hx hb dX4_changed_36 rfl (lv_at hl 0 rfl) ?_
      refine va_get (ci := 4) (v := .ref a_td) (C := RX4) (T := TX4) (N := 11) hx hb hts inX4 hown hK hP 0 rfl rfl 2 (by decide) lk0 (fun _ h9 => h9) rfl dX4_changed_37 ?_
      refine va_getN (ci := 3) (v := .long v_td_there) (C := RX3) (T := TX3) (N := 5) hx hb hts inX3 hown hK hP 1 rfl rfl 1 (by decide) lk2 (fun _ h9 => h9) rfl dX4_changed_40 ?_
      refine lv_aload_n hx hb dX4_changed_43 rfl (lv_at hl 0 rfl) ?_
      refine va_get (ci := 4) (v := .long v_sm_asked) (C := RX4) (T := TX4) (N := 11) hx hb hts inX4 hown hK hP 0 rfl rfl 4 (by decide) lk4 (fun _ h9 => h9) rfl dX4_changed_44 ?_
      refine lv_land hx hb dX4_changed_47 ?_
      refine lv_aload_n hx hb dX4_changed_48 rfl (lv_at hl 0 rfl) ?_
      refine va_get (ci := 4) (v := .ref a_sm_fars) (C := RX4) (T := TX4) (N := 11) hx hb hts inX4 hown hK hP 0 rfl rfl 6 (by decide) lk5 (fun _ h9 => h9) rfl dX4_changed_49 ?_
      refine lv_iload_n hx hb dX4_changed_52 rfl (lv_at hl 1 rfl) ?_
      obtain ⟨g3, hf⟩ := zk_gd_s hf
      refine zk_aald hx hb hK hP 5 3 rfl rfl (zk_in_s g3) dX4_changed_53 ?_
      obtain ⟨v4, hv4, hf⟩ := zk_ob hf
      refine zk_goR (zk_S (As := [.long (v_td_there &&& v_sm_asked), .ref (r_sm_fars x0.toNatClampNeg)]) (rest := []) hx hb hml hown hts hK hG hP hD hS hA gX4_changed_X4_least rfl hd_X4_least (Nat.le_trans (Nat.le_of_ble_eq_true rfl) hRf) (Nat.le_trans (Nat.le_of_ble_eq_true rfl) hRl) hcs (zc_X4_least l D tL tO cI cJ cB cQ (r_sm_fars x0.toNatClampNeg) 64 (v_td_there &&& v_sm_asked) (f_sm_fars x0.toNatClampNeg) v4 hv4) hl.1 rfl rfl (Nat.le_of_ble_eq_true rfl) dX4_changed_54 [6 + x0.toNatClampNeg] (congrArg (fun q9 => [q9]) (zk_7 (P := fun j9 => ([(a_sm, .inr (4, [.ref a_tx, .ref a_rd, .ref a_td, .ref a_sp, .long v_sm_asked, .ref a_ds, .ref a_sm_fars, .ref a_sm_common, .ref a_sm_others, .ref a_sm_scale, .long v_sm_traced])), (a_td, .inr (3, [.int v_td_laws, .long v_td_there, .int v_td_sayers, .ref a_td_says, .ref a_td_weights])), (a_td_says, .inl (cJ, 7, .inr (.inl f_td_says))), (a_ds, .inr (0, [.ref a_ds_costs, .int v_ds_alike, .ref a_ds_lengths])), (a_ds_lengths, .inl (cI, 64, .inl f_ds_lengths)), (a_sm_fars, .inl (cQ, 7, .inr (.inr (.inr (.inr (fun i => if i < 7 then some (r_sm_fars i) else none)))))), ((r_sm_fars 0), .inl (cJ, 64, .inr (.inl (f_sm_fars 0)))), ((r_sm_fars 1), .inl (cJ, 64, .inr (.inl (f_sm_fars 1)))), ((r_sm_fars 2), .inl (cJ, 64, .inr (.inl (f_sm_fars 2)))), ((r_sm_fars 3), .inl (cJ, 64, .inr (.inl (f_sm_fars 3)))), ((r_sm_fars 4), .inl (cJ, 64, .inr (.inl (f_sm_fars 4)))), ((r_sm_fars 5), .inl (cJ, 64, .inr (.inl (f_sm_fars 5)))), ((r_sm_fars 6), .inl (cJ, 64, .inr (.inl (f_sm_fars 6)))), (a_sm_scale, .inl (cJ, 64, .inr (.inl f_sm_scale)))] : va_W)[6 + j9]? = some (r_sm_fars j9, .inl (cJ, 64, .inr (.inl (f_sm_fars j9))))) rfl rfl rfl rfl rfl rfl rfl _ (zk_lt7 g3))) rfl) hP hD hS hA [6 + x0.toNatClampNeg] (congrArg (fun q9 => [q9]) (zk_7 (P := fun j9 => ([(a_sm, .inr (4, [.ref a_tx, .ref a_rd, .ref a_td, .ref a_sp, .long v_sm_asked, .ref a_ds, .ref a_sm_fars, .ref a_sm_common, .ref a_sm_others, .ref a_sm_scale, .long v_sm_traced])), (a_td, .inr (3, [.int v_td_laws, .long v_td_there, .int v_td_sayers, .ref a_td_says, .ref a_td_weights])), (a_td_says, .inl (cJ, 7, .inr (.inl f_td_says))), (a_ds, .inr (0, [.ref a_ds_costs, .int v_ds_alike, .ref a_ds_lengths])), (a_ds_lengths, .inl (cI, 64, .inl f_ds_lengths)), (a_sm_fars, .inl (cQ, 7, .inr (.inr (.inr (.inr (fun i => if i < 7 then some (r_sm_fars i) else none)))))), ((r_sm_fars 0), .inl (cJ, 64, .inr (.inl (f_sm_fars 0)))), ((r_sm_fars 1), .inl (cJ, 64, .inr (.inl (f_sm_fars 1)))), ((r_sm_fars 2), .inl (cJ, 64, .inr (.inl (f_sm_fars 2)))), ((r_sm_fars 3), .inl (cJ, 64, .inr (.inl (f_sm_fars 3)))), ((r_sm_fars 4), .inl (cJ, 64, .inr (.inl (f_sm_fars 4)))), ((r_sm_fars 5), .inl (cJ, 64, .inr (.inl (f_sm_fars 5)))), ((r_sm_fars 6), .inl (cJ, 64, .inr (.inl (f_sm_fars 6)))), (a_sm_scale, .inl (cJ, 64, .inr (.inl f_sm_scale)))] : va_W)[6 + j9]? = some (r_sm_fars j9, .inl (cJ, 64, .inr (.inl (f_sm_fars j9))))) rfl rfl rfl rfl rfl rfl rfl _ (zk_lt7 g3))) (fun H locs hP hS => ?_)
      obtain rfl := Option.some.inj hf
      exact hret trivial _ _ _ _ hP hD hS dX4_changed_57
    · have hf := zk_f c2 hf
      by_cases c5 : x1 = 1
      · have hf := zk_t c5 hf
        refine lv_tableIn (off := 47) (tgt := 58) hx hb dX4_changed_11 (by rw [c5]; decide) (by rw [c5]; decide) (by rw [c5]; rfl) (by decide) ?_
        refine lv_aload_n hx hb dX4_changed_58 rfl (lv_at hl 0 rfl) ?_
        refine lv_aload_n hx hb dX4_changed_59 rfl (lv_at hl 0 rfl) ?_
        refine va_get (ci := 4) (v := .ref a_td) (C := RX4) (T := TX4) (N := 11) hx hb hts inX4 hown hK hP 0 rfl rfl 2 (by decide) lk0 (fun _ h9 => h9) rfl dX4_changed_60 ?_
        refine va_getN (ci := 3) (v := .ref a_td_says) (C := RX3) (T := TX3) (N := 5) hx hb hts inX3 hown hK hP 1 rfl rfl 3 (by decide) lk6 (fun _ h9 => h9) rfl dX4_changed_63 ?_
        refine lv_iload_n hx hb dX4_changed_66 rfl (lv_at hl 1 rfl) ?_
        obtain ⟨g6, hf⟩ := zk_gd_s hf
        refine va_lald hx hb hK hP 2 1 rfl rfl (zk_in_s g6) dX4_changed_67 ?_
        refine lv_aload_n hx hb dX4_changed_68 rfl (lv_at hl 0 rfl) ?_
        refine va_get (ci := 4) (v := .ref a_td) (C := RX4) (T := TX4) (N := 11) hx hb hts inX4 hown hK hP 0 rfl rfl 2 (by decide) lk0 (fun _ h9 => h9) rfl dX4_changed_69 ?_
        refine va_getN (ci := 3) (v := .long v_td_there) (C := RX3) (T := TX3) (N := 5) hx hb hts inX3 hown hK hP 1 rfl rfl 1 (by decide) lk2 (fun _ h9 => h9) rfl dX4_changed_72 ?_
        refine lv_aload_n hx hb dX4_changed_75 rfl (lv_at hl 0 rfl) ?_
        refine va_get (ci := 4) (v := .long v_sm_asked) (C := RX4) (T := TX4) (N := 11) hx hb hts inX4 hown hK hP 0 rfl rfl 4 (by decide) lk4 (fun _ h9 => h9) rfl dX4_changed_76 ?_
        refine lv_land hx hb dX4_changed_79 ?_
        obtain ⟨v7, hv7, hf⟩ := zk_ob hf
        refine zk_go (wr := [(a_td, .inr (3, [.int v_td_laws, .long v_td_there, .int v_td_sayers, .ref a_td_says, .ref a_td_weights])), (a_td_says, .inl (cJ, 7, .inr (.inl f_td_says))), (a_sm_fars, .inl (cQ, 7, .inr (.inr (.inr (.inr (fun i => if i < 7 then some (r_sm_fars i) else none)))))), ((r_sm_fars 0), .inl (cJ, 64, .inr (.inl (f_sm_fars 0)))), ((r_sm_fars 1), .inl (cJ, 64, .inr (.inl (f_sm_fars 1)))), ((r_sm_fars 2), .inl (cJ, 64, .inr (.inl (f_sm_fars 2)))), ((r_sm_fars 3), .inl (cJ, 64, .inr (.inl (f_sm_fars 3)))), ((r_sm_fars 4), .inl (cJ, 64, .inr (.inl (f_sm_fars 4)))), ((r_sm_fars 5), .inl (cJ, 64, .inr (.inl (f_sm_fars 5)))), ((r_sm_fars 6), .inl (cJ, 64, .inr (.inl (f_sm_fars 6))))]) (w2 := [(a_sm, .inr (4, [.ref a_tx, .ref a_rd, .ref a_td, .ref a_sp, .long v_sm_asked, .ref a_ds, .ref a_sm_fars, .ref a_sm_common, .ref a_sm_others, .ref a_sm_scale, .long v_sm_traced])), (a_td, .inr (3, [.int v_td_laws, .long v_td_there, .int v_td_sayers, .ref a_td_says, .ref a_td_weights])), (a_td_says, .inl (cJ, 7, .inr (.inl f_td_says))), (a_ds, .inr (0, [.ref a_ds_costs, .int v_ds_alike, .ref a_ds_lengths])), (a_ds_lengths, .inl (cI, 64, .inl f_ds_lengths)), (a_sm_fars, .inl (cQ, 7, .inr (.inr (.inr (.inr (fun i => if i < 7 then some (r_sm_fars i) else none)))))), ((r_sm_fars 0), .inl (cJ, 64, .inr (.inl (f_sm_fars 0)))), ((r_sm_fars 1), .inl (cJ, 64, .inr (.inl (f_sm_fars 1)))), ((r_sm_fars 2), .inl (cJ, 64, .inr (.inl (f_sm_fars 2)))), ((r_sm_fars 3), .inl (cJ, 64, .inr (.inl (f_sm_fars 3)))), ((r_sm_fars 4), .inl (cJ, 64, .inr (.inl (f_sm_fars 4)))), ((r_sm_fars 5), .inl (cJ, 64, .inr (.inl (f_sm_fars 5)))), ((r_sm_fars 6), .inl (cJ, 64, .inr (.inl (f_sm_fars 6)))), (a_sm_scale, .inl (cJ, 64, .inr (.inl v7.2)))]) (zk_V (As := [.long (f_td_says x0.toNatClampNeg), .long (v_td_there &&& v_sm_asked)]) (rest := []) hx hb hml hown hts hK hG hP hD hS hA gX4_changed_X4_goneAlong rfl hd_X4_goneAlong (Nat.le_trans (Nat.le_of_ble_eq_true rfl) hRf) (Nat.le_trans (Nat.le_of_ble_eq_true rfl) hRl) hcs (zc_X4_goneAlong l D tL tO cI cJ cB cQ a_sm a_tx a_rd a_td a_sp a_ds a_sm_fars a_sm_common a_sm_others a_sm_scale a_ds_costs a_ds_lengths (f_td_says x0.toNatClampNeg) (v_td_there &&& v_sm_asked) v_sm_asked v_sm_traced v_ds_alike f_ds_lengths f_sm_scale v7 hv7) rfl rfl 0 rfl hl.1 rfl rfl (Nat.le_of_ble_eq_true rfl) dX4_changed_80 [0, 3, 4, 13] rfl rfl) hP hD hS hA [0, 3, 4, 13] [1, 2, 5, 6, 7, 8, 9, 10, 11, 12] [10, 0, 1, 11, 12, 2, 3, 4, 5, 6, 7, 8, 9, 13] rfl rfl rfl (by decide) rfl rfl (fun H locs hP hD hS => ?_)
        obtain rfl := Option.some.inj hf
        exact hret trivial _ _ _ _ hP hD hS dX4_changed_83
      · have hf := zk_f c5 hf
        by_cases c8 : x1 = 2
        · have hf := zk_t c8 hf
          refine lv_tableIn (off := 73) (tgt := 84) hx hb dX4_changed_11 (by rw [c8]; decide) (by rw [c8]; decide) (by rw [c8]; rfl) (by decide) ?_
          refine lv_aload_n hx hb dX4_changed_84 rfl (lv_at hl 0 rfl) ?_
          refine va_get (ci := 4) (v := .ref a_td) (C := RX4) (T := TX4) (N := 11) hx hb hts inX4 hown hK hP 0 rfl rfl 2 (by decide) lk0 (fun _ h9 => h9) rfl dX4_changed_85 ?_
          refine va_getN (ci := 3) (v := .long v_td_there) (C := RX3) (T := TX3) (N := 5) hx hb hts inX3 hown hK hP 1 rfl rfl 1 (by decide) lk2 (fun _ h9 => h9) rfl dX4_changed_88 ?_
          refine lv_aload_n hx hb dX4_changed_91 rfl (lv_at hl 0 rfl) ?_
          refine va_get (ci := 4) (v := .ref a_td) (C := RX4) (T := TX4) (N := 11) hx hb hts inX4 hown hK hP 0 rfl rfl 2 (by decide) lk0 (fun _ h9 => h9) rfl dX4_changed_92 ?_
          refine va_getN (ci := 3) (v := .ref a_td_says) (C := RX3) (T := TX3) (N := 5) hx hb hts inX3 hown hK hP 1 rfl rfl 3 (by decide) lk6 (fun _ h9 => h9) rfl dX4_changed_95 ?_
          refine lv_iload_n hx hb dX4_changed_98 rfl (lv_at hl 1 rfl) ?_
          obtain ⟨g9, hf⟩ := zk_gd_s hf
          refine va_lald hx hb hK hP 2 1 rfl rfl (zk_in_s g9) dX4_changed_99 ?_
          refine lv_land hx hb dX4_changed_100 ?_
          refine lv_aload_n hx hb dX4_changed_101 rfl (lv_at hl 0 rfl) ?_
          refine va_get (ci := 4) (v := .ref a_td) (C := RX4) (T := TX4) (N := 11) hx hb hts inX4 hown hK hP 0 rfl rfl 2 (by decide) lk0 (fun _ h9 => h9) rfl dX4_changed_102 ?_
          refine va_getN (ci := 3) (v := .long v_td_there) (C := RX3) (T := TX3) (N := 5) hx hb hts inX3 hown hK hP 1 rfl rfl 1 (by decide) lk2 (fun _ h9 => h9) rfl dX4_changed_105 ?_
          refine lv_aload_n hx hb dX4_changed_108 rfl (lv_at hl 0 rfl) ?_
          refine va_get (ci := 4) (v := .long v_sm_asked) (C := RX4) (T := TX4) (N := 11) hx hb hts inX4 hown hK hP 0 rfl rfl 4 (by decide) lk4 (fun _ h9 => h9) rfl dX4_changed_109 ?_
          refine lv_ldc2 hx hb hown lk7 dX4_changed_112 ?_
          refine lv_lxor hx hb dX4_changed_115 ?_
          refine lv_land hx hb dX4_changed_116 ?_
          refine lv_aload_n hx hb dX4_changed_117 rfl (lv_at hl 0 rfl) ?_
          refine va_get (ci := 4) (v := .ref a_sm_fars) (C := RX4) (T := TX4) (N := 11) hx hb hts inX4 hown hK hP 0 rfl rfl 6 (by decide) lk5 (fun _ h9 => h9) rfl dX4_changed_118 ?_
          refine lv_iload_n hx hb dX4_changed_121 rfl (lv_at hl 1 rfl) ?_
          refine zk_aald hx hb hK hP 5 3 rfl rfl (zk_in_s g9) dX4_changed_122 ?_
          obtain ⟨v10, hv10, hf⟩ := zk_ob hf
          refine zk_goR (zk_S (As := [.long (v_td_there &&& (v_sm_asked ^^^ (-1 : Int64))), .ref (r_sm_fars x0.toNatClampNeg)]) (rest := [.long (v_td_there &&& (f_td_says x0.toNatClampNeg))]) hx hb hml hown hts hK hG hP hD hS hA gX4_changed_X4_least rfl hd_X4_least (Nat.le_trans (Nat.le_of_ble_eq_true rfl) hRf) (Nat.le_trans (Nat.le_of_ble_eq_true rfl) hRl) hcs (zc_X4_least l D tL tO cI cJ cB cQ (r_sm_fars x0.toNatClampNeg) 64 (v_td_there &&& (v_sm_asked ^^^ (-1 : Int64))) (f_sm_fars x0.toNatClampNeg) v10 hv10) hl.1 rfl rfl (Nat.le_of_ble_eq_true rfl) dX4_changed_123 [6 + x0.toNatClampNeg] (congrArg (fun q9 => [q9]) (zk_7 (P := fun j9 => ([(a_sm, .inr (4, [.ref a_tx, .ref a_rd, .ref a_td, .ref a_sp, .long v_sm_asked, .ref a_ds, .ref a_sm_fars, .ref a_sm_common, .ref a_sm_others, .ref a_sm_scale, .long v_sm_traced])), (a_td, .inr (3, [.int v_td_laws, .long v_td_there, .int v_td_sayers, .ref a_td_says, .ref a_td_weights])), (a_td_says, .inl (cJ, 7, .inr (.inl f_td_says))), (a_ds, .inr (0, [.ref a_ds_costs, .int v_ds_alike, .ref a_ds_lengths])), (a_ds_lengths, .inl (cI, 64, .inl f_ds_lengths)), (a_sm_fars, .inl (cQ, 7, .inr (.inr (.inr (.inr (fun i => if i < 7 then some (r_sm_fars i) else none)))))), ((r_sm_fars 0), .inl (cJ, 64, .inr (.inl (f_sm_fars 0)))), ((r_sm_fars 1), .inl (cJ, 64, .inr (.inl (f_sm_fars 1)))), ((r_sm_fars 2), .inl (cJ, 64, .inr (.inl (f_sm_fars 2)))), ((r_sm_fars 3), .inl (cJ, 64, .inr (.inl (f_sm_fars 3)))), ((r_sm_fars 4), .inl (cJ, 64, .inr (.inl (f_sm_fars 4)))), ((r_sm_fars 5), .inl (cJ, 64, .inr (.inl (f_sm_fars 5)))), ((r_sm_fars 6), .inl (cJ, 64, .inr (.inl (f_sm_fars 6)))), (a_sm_scale, .inl (cJ, 64, .inr (.inl f_sm_scale)))] : va_W)[6 + j9]? = some (r_sm_fars j9, .inl (cJ, 64, .inr (.inl (f_sm_fars j9))))) rfl rfl rfl rfl rfl rfl rfl _ (zk_lt7 g9))) rfl) hP hD hS hA [6 + x0.toNatClampNeg] (congrArg (fun q9 => [q9]) (zk_7 (P := fun j9 => ([(a_sm, .inr (4, [.ref a_tx, .ref a_rd, .ref a_td, .ref a_sp, .long v_sm_asked, .ref a_ds, .ref a_sm_fars, .ref a_sm_common, .ref a_sm_others, .ref a_sm_scale, .long v_sm_traced])), (a_td, .inr (3, [.int v_td_laws, .long v_td_there, .int v_td_sayers, .ref a_td_says, .ref a_td_weights])), (a_td_says, .inl (cJ, 7, .inr (.inl f_td_says))), (a_ds, .inr (0, [.ref a_ds_costs, .int v_ds_alike, .ref a_ds_lengths])), (a_ds_lengths, .inl (cI, 64, .inl f_ds_lengths)), (a_sm_fars, .inl (cQ, 7, .inr (.inr (.inr (.inr (fun i => if i < 7 then some (r_sm_fars i) else none)))))), ((r_sm_fars 0), .inl (cJ, 64, .inr (.inl (f_sm_fars 0)))), ((r_sm_fars 1), .inl (cJ, 64, .inr (.inl (f_sm_fars 1)))), ((r_sm_fars 2), .inl (cJ, 64, .inr (.inl (f_sm_fars 2)))), ((r_sm_fars 3), .inl (cJ, 64, .inr (.inl (f_sm_fars 3)))), ((r_sm_fars 4), .inl (cJ, 64, .inr (.inl (f_sm_fars 4)))), ((r_sm_fars 5), .inl (cJ, 64, .inr (.inl (f_sm_fars 5)))), ((r_sm_fars 6), .inl (cJ, 64, .inr (.inl (f_sm_fars 6)))), (a_sm_scale, .inl (cJ, 64, .inr (.inl f_sm_scale)))] : va_W)[6 + j9]? = some (r_sm_fars j9, .inl (cJ, 64, .inr (.inl (f_sm_fars j9))))) rfl rfl rfl rfl rfl rfl rfl _ (zk_lt7 g9))) (fun H locs hP hS => ?_)
          refine lv_lor hx hb dX4_changed_126 ?_
          obtain rfl := Option.some.inj hf
          exact hret trivial _ _ _ _ hP hD hS dX4_changed_127
        · have hf := zk_f c8 hf
          refine lv_tableOut (tgt := 128) hx hb dX4_changed_11 (by have h0 := lv_neT c2 (a := 0) (by decide); have h1 := lv_neT c5 (a := 1) (by decide); have h2 := lv_neT c8 (a := 2) (by decide); omega) (by decide) ?_
          refine lv_lconst (v := (0 : Int64)) hx hb dX4_changed_128 (by decide) ?_
          obtain rfl := Option.some.inj hf
          exact hret trivial _ _ _ _ hP hD hS dX4_changed_129
  · have hf := zk_t c11 hf
    refine lv_lconst (v := (0 : Int64)) hx hb dX4_changed_8 (by decide) ?_
    obtain rfl := Option.some.inj hf
    exact hret trivial _ _ _ _ hP hD hS dX4_changed_9
