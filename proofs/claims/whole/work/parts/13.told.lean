def zf_X3_empty : Option (Int32 × Int64 × Int32) :=
  some ((0 : Int32), (-1 : Int64), (0 : Int32))
theorem hd_X3_empty : yX3_empty.cls = RX3 ∧ yX3_empty.cls ≠ "java/lang/invoke/MethodHandle" ∧ yX3_empty.cls ≠ "java/lang/invoke/VarHandle" ∧ (parseMethodDescriptor yX3_empty.desc).map (fun d => d.parameters.length) = some 0 := by decide +kernel
set_option maxHeartbeats 4000000 in
set_option maxRecDepth 100000 in
theorem zc_X3_empty (l : Launch) (D : va_G) (tL tO : Nat) (cI cJ cB cQ : ClassId) (a_td a_td_says a_td_weights : Nat) (v_td_laws : Int32) (v_td_there : Int64) (v_td_sayers : Int32) (z : Int32 × Int64 × Int32) (hf : zf_X3_empty = some z) : zk_CT l D tL tO (zk_ty cI cJ cB cQ) yX3_empty wsX3_empty 0 0 [.ref a_td] none [(a_td, .inr (3, [.int v_td_laws, .long v_td_there, .int v_td_sayers, .ref a_td_says, .ref a_td_weights]))] [(a_td, .inr (3, [.int z.1, .long z.2.1, .int z.2.2, .ref a_td_says, .ref a_td_weights]))] := by
  refine zk_of_v (cc := cX3_empty) (maxL := 1) (by decide) rfl (Nat.le_of_ble_eq_true rfl) ?_
  intro p e R s m args below meth c A Q ls hx hb hml hRf hRl hts hown hP hK hD hA hS hG hl hret
  have hl : lv_has ls 1 [(0, .ref a_td)] := hl
  have hown : s.vm.findClass RX3 = some m.cls := hown
  have hcs : 0 ≤ R.cells ∧ 0 ≤ R.slots := ⟨Nat.zero_le _, Nat.zero_le _⟩
  have lk0 := hts (.fieldLink RX3 9 "SayingsMerged$Told" "laws" "I") (by decide +kernel)
  have inX3 : ∀ w ∈ wsX30, w ∈ wsX3_empty := by decide +kernel
  have lk2 := hts (.constantLong RX3 15 (-1)) (by decide +kernel)
  have lk3 := hts (.fieldLink RX3 17 "SayingsMerged$Told" "there" "J") (by decide +kernel)
  have lk4 := hts (.fieldLink RX3 21 "SayingsMerged$Told" "sayers" "I") (by decide +kernel)
  unfold zf_X3_empty at hf
  refine lv_aload_n hx hb dX3_empty_0 rfl (lv_at hl 0 rfl) ?_
  refine lv_iconst (v := (0 : Int32)) hx hb dX3_empty_1 (by decide) ?_
  refine va_put (ci := 3) (v := .int (0 : Int32)) (ty := .int) (C := RX3) (T := TX3) (N := 5) hx hb hts inX3 tyX3 tyX3_ok nmX3 hown hK hP hD hS 0 rfl rfl 0 (by decide) lk0 (fun _ h9 => h9) rfl (by decide +kernel) rfl rfl (Nat.le_of_ble_eq_true rfl) dX3_empty_2 (fun H locs hP hD hS => ?_)
  have hP : va_P D vwCl [(a_td, .inr (3, [.int (0 : Int32), .long v_td_there, .int v_td_sayers, .ref a_td_says, .ref a_td_weights]))] H := hP
  have hD : va_D A [(a_td, .inr (3, [.int (0 : Int32), .long v_td_there, .int v_td_sayers, .ref a_td_says, .ref a_td_weights]))] := hD
  refine lv_aload_n hx hb dX3_empty_5 rfl (lv_at hl 0 rfl) ?_
  refine lv_ldc2 hx hb hown lk2 dX3_empty_6 ?_
  refine va_put (ci := 3) (v := .long (-1 : Int64)) (ty := .long) (C := RX3) (T := TX3) (N := 5) hx hb hts inX3 tyX3 tyX3_ok nmX3 hown hK hP hD hS 0 rfl rfl 1 (by decide) lk3 (fun _ h9 => h9) rfl (by decide +kernel) rfl rfl (Nat.le_of_ble_eq_true rfl) dX3_empty_9 (fun H locs hP hD hS => ?_)
  have hP : va_P D vwCl [(a_td, .inr (3, [.int (0 : Int32), .long (-1 : Int64), .int v_td_sayers, .ref a_td_says, .ref a_td_weights]))] H := hP
  have hD : va_D A [(a_td, .inr (3, [.int (0 : Int32), .long (-1 : Int64), .int v_td_sayers, .ref a_td_says, .ref a_td_weights]))] := hD
  refine lv_aload_n hx hb dX3_empty_12 rfl (lv_at hl 0 rfl) ?_
  refine lv_iconst (v := (0 : Int32)) hx hb dX3_empty_13 (by decide) ?_
  refine va_put (ci := 3) (v := .int (0 : Int32)) (ty := .int) (C := RX3) (T := TX3) (N := 5) hx hb hts inX3 tyX3 tyX3_ok nmX3 hown hK hP hD hS 0 rfl rfl 2 (by decide) lk4 (fun _ h9 => h9) rfl (by decide +kernel) rfl rfl (Nat.le_of_ble_eq_true rfl) dX3_empty_14 (fun H locs hP hD hS => ?_)
  have hP : va_P D vwCl [(a_td, .inr (3, [.int (0 : Int32), .long (-1 : Int64), .int (0 : Int32), .ref a_td_says, .ref a_td_weights]))] H := hP
  have hD : va_D A [(a_td, .inr (3, [.int (0 : Int32), .long (-1 : Int64), .int (0 : Int32), .ref a_td_says, .ref a_td_weights]))] := hD
  obtain rfl := Option.some.inj hf
  exact hret trivial _ _ _ _ hP hD hS dX3_empty_17
def zf_X3_addLaw (x0 : Int64) (v_td_laws : Int32) (v_td_there : Int64) : Option (Int32 × Int64) :=
  zk_lt (v_td_laws + (1 : Int32)) (fun y1 =>
  zk_lt (v_td_there &&& x0) (fun y2 =>
  some (y1, y2)))
theorem hd_X3_addLaw : yX3_addLaw.cls = RX3 ∧ yX3_addLaw.cls ≠ "java/lang/invoke/MethodHandle" ∧ yX3_addLaw.cls ≠ "java/lang/invoke/VarHandle" ∧ (parseMethodDescriptor yX3_addLaw.desc).map (fun d => d.parameters.length) = some 1 := by decide +kernel
set_option maxHeartbeats 4000000 in
set_option maxRecDepth 100000 in
theorem zc_X3_addLaw (l : Launch) (D : va_G) (tL tO : Nat) (cI cJ cB cQ : ClassId) (a_td a_td_says a_td_weights : Nat) (x0 : Int64) (v_td_laws : Int32) (v_td_there : Int64) (v_td_sayers : Int32) (z : Int32 × Int64) (hf : zf_X3_addLaw x0 v_td_laws v_td_there = some z) : zk_CT l D tL tO (zk_ty cI cJ cB cQ) yX3_addLaw wsX3_addLaw 0 0 [.ref a_td, .long x0] none [(a_td, .inr (3, [.int v_td_laws, .long v_td_there, .int v_td_sayers, .ref a_td_says, .ref a_td_weights]))] [(a_td, .inr (3, [.int z.1, .long z.2, .int v_td_sayers, .ref a_td_says, .ref a_td_weights]))] := by
  refine zk_of_v (cc := cX3_addLaw) (maxL := 3) (by decide) rfl (Nat.le_of_ble_eq_true rfl) ?_
  intro p e R s m args below meth c A Q ls hx hb hml hRf hRl hts hown hP hK hD hA hS hG hl hret
  have hl : lv_has ls 3 [(0, .ref a_td), (1, .long x0)] := hl
  have hown : s.vm.findClass RX3 = some m.cls := hown
  have hcs : 0 ≤ R.cells ∧ 0 ≤ R.slots := ⟨Nat.zero_le _, Nat.zero_le _⟩
  have lk0 := hts (.fieldLink RX3 9 "SayingsMerged$Told" "laws" "I") (by decide +kernel)
  have inX3 : ∀ w ∈ wsX30, w ∈ wsX3_addLaw := by decide +kernel
  have lk2 := hts (.fieldLink RX3 17 "SayingsMerged$Told" "there" "J") (by decide +kernel)
  unfold zf_X3_addLaw at hf
  refine lv_aload_n hx hb dX3_addLaw_0 rfl (lv_at hl 0 rfl) ?_
  refine lv_dup hx hb dX3_addLaw_1 rfl ?_
  refine va_get (ci := 3) (v := .int v_td_laws) (C := RX3) (T := TX3) (N := 5) hx hb hts inX3 hown hK hP 0 rfl rfl 0 (by decide) lk0 (fun _ h9 => h9) rfl dX3_addLaw_2 ?_
  refine lv_iconst (v := (1 : Int32)) hx hb dX3_addLaw_5 (by decide) ?_
  refine lv_iadd hx hb dX3_addLaw_6 ?_
  obtain ⟨y1, ey1, hf⟩ := zk_lt_s hf
  refine zk_topi ey1 ?_
  refine va_put (ci := 3) (v := .int y1) (ty := .int) (C := RX3) (T := TX3) (N := 5) hx hb hts inX3 tyX3 tyX3_ok nmX3 hown hK hP hD hS 0 rfl rfl 0 (by decide) lk0 (fun _ h9 => h9) rfl (by decide +kernel) rfl rfl (Nat.le_of_ble_eq_true rfl) dX3_addLaw_7 (fun H locs hP hD hS => ?_)
  have hP : va_P D vwCl [(a_td, .inr (3, [.int y1, .long v_td_there, .int v_td_sayers, .ref a_td_says, .ref a_td_weights]))] H := hP
  have hD : va_D A [(a_td, .inr (3, [.int y1, .long v_td_there, .int v_td_sayers, .ref a_td_says, .ref a_td_weights]))] := hD
  refine lv_aload_n hx hb dX3_addLaw_10 rfl (lv_at hl 0 rfl) ?_
  refine lv_dup hx hb dX3_addLaw_11 rfl ?_
  refine va_get (ci := 3) (v := .long v_td_there) (C := RX3) (T := TX3) (N := 5) hx hb hts inX3 hown hK hP 0 rfl rfl 1 (by decide) lk2 (fun _ h9 => h9) rfl dX3_addLaw_12 ?_
  refine lv_lload_n hx hb dX3_addLaw_15 rfl (lv_at hl 1 rfl) ?_
  refine lv_land hx hb dX3_addLaw_16 ?_
  obtain ⟨y2, ey2, hf⟩ := zk_lt_s hf
  refine zk_topl ey2 ?_
  refine va_put (ci := 3) (v := .long y2) (ty := .long) (C := RX3) (T := TX3) (N := 5) hx hb hts inX3 tyX3 tyX3_ok nmX3 hown hK hP hD hS 0 rfl rfl 1 (by decide) lk2 (fun _ h9 => h9) rfl (by decide +kernel) rfl rfl (Nat.le_of_ble_eq_true rfl) dX3_addLaw_17 (fun H locs hP hD hS => ?_)
  have hP : va_P D vwCl [(a_td, .inr (3, [.int y1, .long y2, .int v_td_sayers, .ref a_td_says, .ref a_td_weights]))] H := hP
  have hD : va_D A [(a_td, .inr (3, [.int y1, .long y2, .int v_td_sayers, .ref a_td_says, .ref a_td_weights]))] := hD
  obtain rfl := Option.some.inj hf
  exact hret trivial _ _ _ _ hP hD hS dX3_addLaw_20
def zf_X3_addSayer (x0 : Int32) (x1 : Int64) (v_td_sayers : Int32) (f_td_says : Nat → Int64) (f_td_weights : Nat → Int32) : Option (Int32 × (Nat → Int64) × (Nat → Int32)) :=
  if (7 : Int32) ≤ v_td_sayers then
  some (v_td_sayers, f_td_says, f_td_weights)
  else
  zk_gd (zk_in v_td_sayers 7)
  (zk_lt (v_td_sayers + (1 : Int32)) (fun y2 =>
  some (y2, vp_updL f_td_says v_td_sayers.toNatClampNeg x1, upd f_td_weights v_td_sayers.toNatClampNeg x0)))
theorem hd_X3_addSayer : yX3_addSayer.cls = RX3 ∧ yX3_addSayer.cls ≠ "java/lang/invoke/MethodHandle" ∧ yX3_addSayer.cls ≠ "java/lang/invoke/VarHandle" ∧ (parseMethodDescriptor yX3_addSayer.desc).map (fun d => d.parameters.length) = some 2 := by decide +kernel
set_option maxHeartbeats 4000000 in
set_option maxRecDepth 100000 in
theorem zc_X3_addSayer (l : Launch) (D : va_G) (tL tO : Nat) (cI cJ cB cQ : ClassId) (a_td a_td_says a_td_weights : Nat) (x0 : Int32) (x1 : Int64) (v_td_laws : Int32) (v_td_there : Int64) (v_td_sayers : Int32) (f_td_says : Nat → Int64) (f_td_weights : Nat → Int32) (z : Int32 × (Nat → Int64) × (Nat → Int32)) (hf : zf_X3_addSayer x0 x1 v_td_sayers f_td_says f_td_weights = some z) : zk_CT l D tL tO (zk_ty cI cJ cB cQ) yX3_addSayer wsX3_addSayer 0 0 [.ref a_td, .int x0, .long x1] none [(a_td, .inr (3, [.int v_td_laws, .long v_td_there, .int v_td_sayers, .ref a_td_says, .ref a_td_weights])), (a_td_says, .inl (cJ, 7, .inr (.inl f_td_says))), (a_td_weights, .inl (cI, 7, .inl f_td_weights))] [(a_td, .inr (3, [.int v_td_laws, .long v_td_there, .int z.1, .ref a_td_says, .ref a_td_weights])), (a_td_says, .inl (cJ, 7, .inr (.inl z.2.1))), (a_td_weights, .inl (cI, 7, .inl z.2.2))] := by
  refine zk_of_v (cc := cX3_addSayer) (maxL := 4) (by decide) rfl (Nat.le_of_ble_eq_true rfl) ?_
  intro p e R s m args below meth c A Q ls hx hb hml hRf hRl hts hown hP hK hD hA hS hG hl hret
  have hl : lv_has ls 4 [(0, .ref a_td), (1, .int x0), (2, .long x1)] := hl
  have hown : s.vm.findClass RX3 = some m.cls := hown
  have hcs : 0 ≤ R.cells ∧ 0 ≤ R.slots := ⟨Nat.zero_le _, Nat.zero_le _⟩
  have lk0 := hts (.fieldLink RX3 21 "SayingsMerged$Told" "sayers" "I") (by decide +kernel)
  have inX3 : ∀ w ∈ wsX30, w ∈ wsX3_addSayer := by decide +kernel
  have lk2 := hts (.fieldLink RX3 28 "SayingsMerged$Told" "weights" "[I") (by decide +kernel)
  have lk3 := hts (.fieldLink RX3 24 "SayingsMerged$Told" "says" "[J") (by decide +kernel)
  unfold zf_X3_addSayer at hf
  refine lv_aload_n hx hb dX3_addSayer_0 rfl (lv_at hl 0 rfl) ?_
  refine va_get (ci := 3) (v := .int v_td_sayers) (C := RX3) (T := TX3) (N := 5) hx hb hts inX3 hown hK hP 0 rfl rfl 2 (by decide) lk0 (fun _ h9 => h9) rfl dX3_addSayer_1 ?_
  refine lv_bipush (v := (7 : Int32)) hx hb dX3_addSayer_4 (by decide) ?_
  refine lv_icmp_ge (tgt := 39) hx hb dX3_addSayer_6 (by decide) (fun c3 => ?_) (fun c3 => ?_)
  · have hf := zk_t c3 hf
    obtain rfl := Option.some.inj hf
    exact hret trivial _ _ _ _ hP hD hS dX3_addSayer_39
  · have hf := zk_f c3 hf
    refine lv_aload_n hx hb dX3_addSayer_9 rfl (lv_at hl 0 rfl) ?_
    refine va_get (ci := 3) (v := .ref a_td_weights) (C := RX3) (T := TX3) (N := 5) hx hb hts inX3 hown hK hP 0 rfl rfl 4 (by decide) lk2 (fun _ h9 => h9) rfl dX3_addSayer_10 ?_
    refine lv_aload_n hx hb dX3_addSayer_13 rfl (lv_at hl 0 rfl) ?_
    refine va_get (ci := 3) (v := .int v_td_sayers) (C := RX3) (T := TX3) (N := 5) hx hb hts inX3 hown hK hP 0 rfl rfl 2 (by decide) lk0 (fun _ h9 => h9) rfl dX3_addSayer_14 ?_
    refine lv_iload_n hx hb dX3_addSayer_17 rfl (lv_at hl 1 rfl) ?_
    obtain ⟨g1, hf⟩ := zk_gd_s hf
    refine va_iast hx hb hK hP hD hS 2 0 rfl rfl (zk_in_s g1) dX3_addSayer_18 (fun H locs hP hD hS => ?_)
    have hP : va_P D vwCl [(a_td, .inr (3, [.int v_td_laws, .long v_td_there, .int v_td_sayers, .ref a_td_says, .ref a_td_weights])), (a_td_says, .inl (cJ, 7, .inr (.inl f_td_says))), (a_td_weights, .inl (cI, 7, .inl (upd f_td_weights v_td_sayers.toNatClampNeg x0)))] H := hP
    have hD : va_D A [(a_td, .inr (3, [.int v_td_laws, .long v_td_there, .int v_td_sayers, .ref a_td_says, .ref a_td_weights])), (a_td_says, .inl (cJ, 7, .inr (.inl f_td_says))), (a_td_weights, .inl (cI, 7, .inl (upd f_td_weights v_td_sayers.toNatClampNeg x0)))] := hD
    refine lv_aload_n hx hb dX3_addSayer_19 rfl (lv_at hl 0 rfl) ?_
    refine va_get (ci := 3) (v := .ref a_td_says) (C := RX3) (T := TX3) (N := 5) hx hb hts inX3 hown hK hP 0 rfl rfl 3 (by decide) lk3 (fun _ h9 => h9) rfl dX3_addSayer_20 ?_
    refine lv_aload_n hx hb dX3_addSayer_23 rfl (lv_at hl 0 rfl) ?_
    refine va_get (ci := 3) (v := .int v_td_sayers) (C := RX3) (T := TX3) (N := 5) hx hb hts inX3 hown hK hP 0 rfl rfl 2 (by decide) lk0 (fun _ h9 => h9) rfl dX3_addSayer_24 ?_
    refine lv_lload_n hx hb dX3_addSayer_27 rfl (lv_at hl 2 rfl) ?_
    refine va_last hx hb hK hP hD hS 1 1 rfl rfl (zk_in_s g1) dX3_addSayer_28 (fun H locs hP hD hS => ?_)
    have hP : va_P D vwCl [(a_td, .inr (3, [.int v_td_laws, .long v_td_there, .int v_td_sayers, .ref a_td_says, .ref a_td_weights])), (a_td_says, .inl (cJ, 7, .inr (.inl (vp_updL f_td_says v_td_sayers.toNatClampNeg x1)))), (a_td_weights, .inl (cI, 7, .inl (upd f_td_weights v_td_sayers.toNatClampNeg x0)))] H := hP
    have hD : va_D A [(a_td, .inr (3, [.int v_td_laws, .long v_td_there, .int v_td_sayers, .ref a_td_says, .ref a_td_weights])), (a_td_says, .inl (cJ, 7, .inr (.inl (vp_updL f_td_says v_td_sayers.toNatClampNeg x1)))), (a_td_weights, .inl (cI, 7, .inl (upd f_td_weights v_td_sayers.toNatClampNeg x0)))] := hD
    refine lv_aload_n hx hb dX3_addSayer_29 rfl (lv_at hl 0 rfl) ?_
    refine lv_dup hx hb dX3_addSayer_30 rfl ?_
    refine va_get (ci := 3) (v := .int v_td_sayers) (C := RX3) (T := TX3) (N := 5) hx hb hts inX3 hown hK hP 0 rfl rfl 2 (by decide) lk0 (fun _ h9 => h9) rfl dX3_addSayer_31 ?_
    refine lv_iconst (v := (1 : Int32)) hx hb dX3_addSayer_34 (by decide) ?_
    refine lv_iadd hx hb dX3_addSayer_35 ?_
    obtain ⟨y2, ey2, hf⟩ := zk_lt_s hf
    refine zk_topi ey2 ?_
    refine va_put (ci := 3) (v := .int y2) (ty := .int) (C := RX3) (T := TX3) (N := 5) hx hb hts inX3 tyX3 tyX3_ok nmX3 hown hK hP hD hS 0 rfl rfl 2 (by decide) lk0 (fun _ h9 => h9) rfl (by decide +kernel) rfl rfl (Nat.le_of_ble_eq_true rfl) dX3_addSayer_36 (fun H locs hP hD hS => ?_)
    have hP : va_P D vwCl [(a_td, .inr (3, [.int v_td_laws, .long v_td_there, .int y2, .ref a_td_says, .ref a_td_weights])), (a_td_says, .inl (cJ, 7, .inr (.inl (vp_updL f_td_says v_td_sayers.toNatClampNeg x1)))), (a_td_weights, .inl (cI, 7, .inl (upd f_td_weights v_td_sayers.toNatClampNeg x0)))] H := hP
    have hD : va_D A [(a_td, .inr (3, [.int v_td_laws, .long v_td_there, .int y2, .ref a_td_says, .ref a_td_weights])), (a_td_says, .inl (cJ, 7, .inr (.inl (vp_updL f_td_says v_td_sayers.toNatClampNeg x1)))), (a_td_weights, .inl (cI, 7, .inl (upd f_td_weights v_td_sayers.toNatClampNeg x0)))] := hD
    obtain rfl := Option.some.inj hf
    exact hret trivial _ _ _ _ hP hD hS dX3_addSayer_39
def zl_X3_allWeights_4 (v_td_sayers : Int32) (f_td_weights : Nat → Int32) : Nat → (Int32) → (Int32) → Option (Int32 × Int32)
  | 0, _, _ => none
  | n + 1, w1, w2 =>
    if v_td_sayers ≤ w2 then
    some (w1, w2)
    else
    zk_gd (zk_in w2 7)
    (zk_lt (w1 + (f_td_weights w2.toNatClampNeg)) (fun y4 =>
    zk_lt (w2 + 1) (fun y5 =>
    zl_X3_allWeights_4 v_td_sayers f_td_weights n y4 y5)))
def zf_X3_allWeights (v_td_sayers : Int32) (f_td_weights : Nat → Int32) : Option (Int32) :=
  (zl_X3_allWeights_4 v_td_sayers f_td_weights zk_F (0 : Int32) (0 : Int32)).bind (fun v7 =>
  some v7.1)
theorem hd_X3_allWeights : yX3_allWeights.cls = RX3 ∧ yX3_allWeights.cls ≠ "java/lang/invoke/MethodHandle" ∧ yX3_allWeights.cls ≠ "java/lang/invoke/VarHandle" ∧ (parseMethodDescriptor yX3_allWeights.desc).map (fun d => d.parameters.length) = some 0 := by decide +kernel
set_option maxHeartbeats 4000000 in
set_option maxRecDepth 100000 in
theorem zc_X3_allWeights (l : Launch) (D : va_G) (tL tO : Nat) (cI cJ cB cQ : ClassId) (a_td a_td_says a_td_weights : Nat) (v_td_laws : Int32) (v_td_there : Int64) (v_td_sayers : Int32) (f_td_weights : Nat → Int32) (z : Int32) (hf : zf_X3_allWeights v_td_sayers f_td_weights = some z) : zk_CT l D tL tO (zk_ty cI cJ cB cQ) yX3_allWeights wsX3_allWeights 0 0 [.ref a_td] (some (.int z)) [(a_td, .inr (3, [.int v_td_laws, .long v_td_there, .int v_td_sayers, .ref a_td_says, .ref a_td_weights])), (a_td_weights, .inl (cI, 7, .inl f_td_weights))] [(a_td, .inr (3, [.int v_td_laws, .long v_td_there, .int v_td_sayers, .ref a_td_says, .ref a_td_weights])), (a_td_weights, .inl (cI, 7, .inl f_td_weights))] := by
  refine zk_of_i (cc := cX3_allWeights) (maxL := 3) (by decide) rfl (Nat.le_of_ble_eq_true rfl) ?_
  intro p e R s m args below meth c A Q ls hx hb hml hRf hRl hts hown hP hK hD hA hS hG hl hret
  have hl : lv_has ls 3 [(0, .ref a_td)] := hl
  have hown : s.vm.findClass RX3 = some m.cls := hown
  have hcs : 0 ≤ R.cells ∧ 0 ≤ R.slots := ⟨Nat.zero_le _, Nat.zero_le _⟩
  have lk0 := hts (.fieldLink RX3 21 "SayingsMerged$Told" "sayers" "I") (by decide +kernel)
  have inX3 : ∀ w ∈ wsX30, w ∈ wsX3_allWeights := by decide +kernel
  have lk2 := hts (.fieldLink RX3 28 "SayingsMerged$Told" "weights" "[I") (by decide +kernel)
  unfold zf_X3_allWeights at hf
  refine lv_iconst (v := (0 : Int32)) hx hb dX3_allWeights_0 (by decide) ?_
  refine lv_istore_n (lv' := [(1, .int (0 : Int32)), (0, .ref a_td)]) hx hb dX3_allWeights_1 rfl hl (by decide) rfl (fun ls hl => ?_)
  refine lv_iconst (v := (0 : Int32)) hx hb dX3_allWeights_2 (by decide) ?_
  refine lv_istore_n (lv' := [(2, .int (0 : Int32)), (1, .int (0 : Int32)), (0, .ref a_td)]) hx hb dX3_allWeights_3 rfl hl (by decide) rfl (fun ls hl => ?_)
  have lp4 : ∀ (n : Nat) (w1 : Int32) (w2 : Int32) (z4 : Int32 × Int32) (H : Heap) (locs : List Loc) (ls : Array Slot), zl_X3_allWeights_4 v_td_sayers f_td_weights n w1 w2 = some z4 → va_P D vwCl [(a_td, .inr (3, [.int v_td_laws, .long v_td_there, .int v_td_sayers, .ref a_td_says, .ref a_td_weights])), (a_td_weights, .inl (cI, 7, .inl f_td_weights))] H → va_D A [(a_td, .inr (3, [.int v_td_laws, .long v_td_there, .int v_td_sayers, .ref a_td_says, .ref a_td_weights])), (a_td_weights, .inl (cI, 7, .inl f_td_weights))] → va_S A s.heap H locs → lv_has ls 3 [(0, .ref a_td), (1, .int w1), (2, .int w2)] → (∀ (H : Heap) (locs : List Loc) (ls : Array Slot), va_P D vwCl [(a_td, .inr (3, [.int v_td_laws, .long v_td_there, .int v_td_sayers, .ref a_td_says, .ref a_td_weights])), (a_td_weights, .inl (cI, 7, .inl f_td_weights))] H → va_D A [(a_td, .inr (3, [.int v_td_laws, .long v_td_there, .int v_td_sayers, .ref a_td_says, .ref a_td_weights])), (a_td_weights, .inl (cI, 7, .inl f_td_weights))] → va_S A s.heap H locs → lv_has ls 3 [(0, .ref a_td), (1, .int z4.1), (2, .int z4.2)] → W p l e R s m args below meth c H locs 0 0 Q (F0 m 27 ls [])) → W p l e R s m args below meth c H locs 0 0 Q (F0 m 4 ls []) := by
    intro n
    induction n with
    | zero => intro w1 w2 z4 H locs ls hf; exact absurd (show none = some z4 from hf) (by simp)
    | succ n ih =>
      intro w1 w2 z4 H locs ls hf hP hD hS hl hk
      rw [zl_X3_allWeights_4] at hf
      refine lv_iload_n hx hb dX3_allWeights_4 rfl (lv_at hl 2 rfl) ?_
      refine lv_aload_n hx hb dX3_allWeights_5 rfl (lv_at hl 0 rfl) ?_
      refine va_get (ci := 3) (v := .int v_td_sayers) (C := RX3) (T := TX3) (N := 5) hx hb hts inX3 hown hK hP 0 rfl rfl 2 (by decide) lk0 (fun _ h9 => h9) rfl dX3_allWeights_6 ?_
      refine lv_icmp_ge (tgt := 27) hx hb dX3_allWeights_9 (by decide) (fun c6 => ?_) (fun c6 => ?_)
      · have hf := zk_t c6 hf
        obtain rfl := Option.some.inj hf
        exact hk _ _ _ hP hD hS (lv_sub hl [0, 1, 2] rfl)
      · have hf := zk_f c6 hf
        refine lv_iload_n hx hb dX3_allWeights_12 rfl (lv_at hl 1 rfl) ?_
        refine lv_aload_n hx hb dX3_allWeights_13 rfl (lv_at hl 0 rfl) ?_
        refine va_get (ci := 3) (v := .ref a_td_weights) (C := RX3) (T := TX3) (N := 5) hx hb hts inX3 hown hK hP 0 rfl rfl 4 (by decide) lk2 (fun _ h9 => h9) rfl dX3_allWeights_14 ?_
        refine lv_iload_n hx hb dX3_allWeights_17 rfl (lv_at hl 2 rfl) ?_
        obtain ⟨g3, hf⟩ := zk_gd_s hf
        refine va_iald hx hb hK hP 1 0 rfl rfl (zk_in_s g3) dX3_allWeights_18 ?_
        refine lv_iadd hx hb dX3_allWeights_19 ?_
        obtain ⟨y4, ey4, hf⟩ := zk_lt_s hf
        refine zk_topi ey4 ?_
        refine lv_istore_n (lv' := [(1, .int y4), (0, .ref a_td), (2, .int w2)]) hx hb dX3_allWeights_20 rfl hl (by decide) rfl (fun ls hl => ?_)
        obtain ⟨y5, ey5, hf⟩ := zk_lt_s hf
        refine lv_iinc (v := y5) (lv' := [(2, .int y5), (1, .int y4), (0, .ref a_td)]) hx hb dX3_allWeights_21 hl (k := 2) rfl (by rw [ey5]; rfl) (by decide) rfl (fun ls hl => ?_)
        refine lv_goto (tgt := 4) hx hb dX3_allWeights_24 (by decide) ?_
        exact ih y4 y5 _ _ _ _ hf hP hD hS (lv_sub hl [2, 1, 0] rfl) hk
  obtain ⟨v7, hv7, hf⟩ := zk_ob hf
  refine lp4 zk_F (0 : Int32) (0 : Int32) v7 _ _ _ hv7 hP hD hS (lv_sub hl [2, 1, 0] rfl) ?_
  intro H locs ls hP hD hS hl
  refine lv_iload_n hx hb dX3_allWeights_27 rfl (lv_at hl 1 rfl) ?_
  obtain rfl := Option.some.inj hf
  exact hret trivial _ _ _ _ hP hD hS dX3_allWeights_28
def zl_X3_saidByOthers_5 (x0 : Int32) (v_td_sayers : Int32) (f_td_says : Nat → Int64) : Nat → (Int64) → (Int32) → Option (Int64 × Int32)
  | 0, _, _ => none
  | n + 1, w1, w2 =>
    if v_td_sayers ≤ w2 then
    some (w1, w2)
    else
    if w2 = x0 then
    zk_lt (w2 + 1) (fun y3 =>
    zl_X3_saidByOthers_5 x0 v_td_sayers f_td_says n w1 y3)
    else
    zk_gd (zk_in w2 7)
    (zk_lt (w1 ||| (f_td_says w2.toNatClampNeg)) (fun y5 =>
    zk_lt (w2 + 1) (fun y6 =>
    zl_X3_saidByOthers_5 x0 v_td_sayers f_td_says n y5 y6)))
def zf_X3_saidByOthers (x0 : Int32) (v_td_sayers : Int32) (f_td_says : Nat → Int64) : Option (Int64) :=
  (zl_X3_saidByOthers_5 x0 v_td_sayers f_td_says zk_F (0 : Int64) (0 : Int32)).bind (fun v9 =>
  some v9.1)
theorem hd_X3_saidByOthers : yX3_saidByOthers.cls = RX3 ∧ yX3_saidByOthers.cls ≠ "java/lang/invoke/MethodHandle" ∧ yX3_saidByOthers.cls ≠ "java/lang/invoke/VarHandle" ∧ (parseMethodDescriptor yX3_saidByOthers.desc).map (fun d => d.parameters.length) = some 1 := by decide +kernel
set_option maxHeartbeats 4000000 in
set_option maxRecDepth 100000 in
theorem zc_X3_saidByOthers (l : Launch) (D : va_G) (tL tO : Nat) (cI cJ cB cQ : ClassId) (a_td a_td_says a_td_weights : Nat) (x0 : Int32) (v_td_laws : Int32) (v_td_there : Int64) (v_td_sayers : Int32) (f_td_says : Nat → Int64) (z : Int64) (hf : zf_X3_saidByOthers x0 v_td_sayers f_td_says = some z) : zk_CT l D tL tO (zk_ty cI cJ cB cQ) yX3_saidByOthers wsX3_saidByOthers 0 0 [.ref a_td, .int x0] (some (.long z)) [(a_td, .inr (3, [.int v_td_laws, .long v_td_there, .int v_td_sayers, .ref a_td_says, .ref a_td_weights])), (a_td_says, .inl (cJ, 7, .inr (.inl f_td_says)))] [(a_td, .inr (3, [.int v_td_laws, .long v_td_there, .int v_td_sayers, .ref a_td_says, .ref a_td_weights])), (a_td_says, .inl (cJ, 7, .inr (.inl f_td_says)))] := by
  refine zk_of_l (cc := cX3_saidByOthers) (maxL := 5) (by decide) rfl (Nat.le_of_ble_eq_true rfl) ?_
  intro p e R s m args below meth c A Q ls hx hb hml hRf hRl hts hown hP hK hD hA hS hG hl hret
  have hl : lv_has ls 5 [(0, .ref a_td), (1, .int x0)] := hl
  have hown : s.vm.findClass RX3 = some m.cls := hown
  have hcs : 0 ≤ R.cells ∧ 0 ≤ R.slots := ⟨Nat.zero_le _, Nat.zero_le _⟩
  have lk0 := hts (.fieldLink RX3 21 "SayingsMerged$Told" "sayers" "I") (by decide +kernel)
  have inX3 : ∀ w ∈ wsX30, w ∈ wsX3_saidByOthers := by decide +kernel
  have lk2 := hts (.fieldLink RX3 24 "SayingsMerged$Told" "says" "[J") (by decide +kernel)
  unfold zf_X3_saidByOthers at hf
  refine lv_lconst (v := (0 : Int64)) hx hb dX3_saidByOthers_0 (by decide) ?_
  refine lv_lstore_n (lv' := [(2, .long (0 : Int64)), (0, .ref a_td), (1, .int x0)]) hx hb dX3_saidByOthers_1 rfl hl (by decide) rfl (fun ls hl => ?_)
  refine lv_iconst (v := (0 : Int32)) hx hb dX3_saidByOthers_2 (by decide) ?_
  refine lv_istore (lv' := [(4, .int (0 : Int32)), (2, .long (0 : Int64)), (0, .ref a_td), (1, .int x0)]) hx hb dX3_saidByOthers_3 hl (by decide) rfl (fun ls hl => ?_)
  have lp5 : ∀ (n : Nat) (w1 : Int64) (w2 : Int32) (z5 : Int64 × Int32) (H : Heap) (locs : List Loc) (ls : Array Slot), zl_X3_saidByOthers_5 x0 v_td_sayers f_td_says n w1 w2 = some z5 → va_P D vwCl [(a_td, .inr (3, [.int v_td_laws, .long v_td_there, .int v_td_sayers, .ref a_td_says, .ref a_td_weights])), (a_td_says, .inl (cJ, 7, .inr (.inl f_td_says)))] H → va_D A [(a_td, .inr (3, [.int v_td_laws, .long v_td_there, .int v_td_sayers, .ref a_td_says, .ref a_td_weights])), (a_td_says, .inl (cJ, 7, .inr (.inl f_td_says)))] → va_S A s.heap H locs → lv_has ls 5 [(0, .ref a_td), (1, .int x0), (2, .long w1), (4, .int w2)] → (∀ (H : Heap) (locs : List Loc) (ls : Array Slot), va_P D vwCl [(a_td, .inr (3, [.int v_td_laws, .long v_td_there, .int v_td_sayers, .ref a_td_says, .ref a_td_weights])), (a_td_says, .inl (cJ, 7, .inr (.inl f_td_says)))] H → va_D A [(a_td, .inr (3, [.int v_td_laws, .long v_td_there, .int v_td_sayers, .ref a_td_says, .ref a_td_weights])), (a_td_says, .inl (cJ, 7, .inr (.inl f_td_says)))] → va_S A s.heap H locs → lv_has ls 5 [(0, .ref a_td), (1, .int x0), (2, .long z5.1), (4, .int z5.2)] → W p l e R s m args below meth c H locs 0 0 Q (F0 m 36 ls [])) → W p l e R s m args below meth c H locs 0 0 Q (F0 m 5 ls []) := by
    intro n
    induction n with
    | zero => intro w1 w2 z5 H locs ls hf; exact absurd (show none = some z5 from hf) (by simp)
    | succ n ih =>
      intro w1 w2 z5 H locs ls hf hP hD hS hl hk
      rw [zl_X3_saidByOthers_5] at hf
      refine lv_iload hx hb dX3_saidByOthers_5 (lv_at hl 3 rfl) ?_
      refine lv_aload_n hx hb dX3_saidByOthers_7 rfl (lv_at hl 0 rfl) ?_
      refine va_get (ci := 3) (v := .int v_td_sayers) (C := RX3) (T := TX3) (N := 5) hx hb hts inX3 hown hK hP 0 rfl rfl 2 (by decide) lk0 (fun _ h9 => h9) rfl dX3_saidByOthers_8 ?_
      refine lv_icmp_ge (tgt := 36) hx hb dX3_saidByOthers_11 (by decide) (fun c8 => ?_) (fun c8 => ?_)
      · have hf := zk_t c8 hf
        obtain rfl := Option.some.inj hf
        exact hk _ _ _ hP hD hS (lv_sub hl [0, 1, 2, 3] rfl)
      · have hf := zk_f c8 hf
        refine lv_iload hx hb dX3_saidByOthers_14 (lv_at hl 3 rfl) ?_
        refine lv_iload_n hx hb dX3_saidByOthers_16 rfl (lv_at hl 1 rfl) ?_
        refine lv_icmp_eq (tgt := 30) hx hb dX3_saidByOthers_17 (by decide) (fun c7 => ?_) (fun c7 => ?_)
        · have hf := zk_t c7 hf
          obtain ⟨y3, ey3, hf⟩ := zk_lt_s hf
          refine lv_iinc (v := y3) (lv' := [(4, .int y3), (0, .ref a_td), (1, .int x0), (2, .long w1)]) hx hb dX3_saidByOthers_30 hl (k := 3) rfl (by rw [ey3]; rfl) (by decide) rfl (fun ls hl => ?_)
          refine lv_goto (tgt := 5) hx hb dX3_saidByOthers_33 (by decide) ?_
          exact ih w1 y3 _ _ _ _ hf hP hD hS (lv_sub hl [1, 2, 3, 0] rfl) hk
        · have hf := zk_f c7 hf
          refine lv_lload_n hx hb dX3_saidByOthers_20 rfl (lv_at hl 2 rfl) ?_
          refine lv_aload_n hx hb dX3_saidByOthers_21 rfl (lv_at hl 0 rfl) ?_
          refine va_get (ci := 3) (v := .ref a_td_says) (C := RX3) (T := TX3) (N := 5) hx hb hts inX3 hown hK hP 0 rfl rfl 3 (by decide) lk2 (fun _ h9 => h9) rfl dX3_saidByOthers_22 ?_
          refine lv_iload hx hb dX3_saidByOthers_25 (lv_at hl 3 rfl) ?_
          obtain ⟨g4, hf⟩ := zk_gd_s hf
          refine va_lald hx hb hK hP 1 1 rfl rfl (zk_in_s g4) dX3_saidByOthers_27 ?_
          refine lv_lor hx hb dX3_saidByOthers_28 ?_
          obtain ⟨y5, ey5, hf⟩ := zk_lt_s hf
          refine zk_topl ey5 ?_
          refine lv_lstore_n (lv' := [(2, .long y5), (0, .ref a_td), (1, .int x0), (4, .int w2)]) hx hb dX3_saidByOthers_29 rfl hl (by decide) rfl (fun ls hl => ?_)
          obtain ⟨y6, ey6, hf⟩ := zk_lt_s hf
          refine lv_iinc (v := y6) (lv' := [(4, .int y6), (2, .long y5), (0, .ref a_td), (1, .int x0)]) hx hb dX3_saidByOthers_30 hl (k := 3) rfl (by rw [ey6]; rfl) (by decide) rfl (fun ls hl => ?_)
          refine lv_goto (tgt := 5) hx hb dX3_saidByOthers_33 (by decide) ?_
          exact ih y5 y6 _ _ _ _ hf hP hD hS (lv_sub hl [2, 3, 1, 0] rfl) hk
  obtain ⟨v9, hv9, hf⟩ := zk_ob hf
  refine lp5 zk_F (0 : Int64) (0 : Int32) v9 _ _ _ hv9 hP hD hS (lv_sub hl [2, 3, 1, 0] rfl) ?_
  intro H locs ls hP hD hS hl
  refine lv_lload_n hx hb dX3_saidByOthers_36 rfl (lv_at hl 2 rfl) ?_
  obtain rfl := Option.some.inj hf
  exact hret trivial _ _ _ _ hP hD hS dX3_saidByOthers_37
