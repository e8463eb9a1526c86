def zl_X0_spread_2 (x1 : Int32) (x2 : Int32) (n0 : Nat) : Nat → (Int32) → (Nat → Int64) → Option (Int32 × (Nat → Int64))
  | 0, _, _ => none
  | n + 1, w1, w2 =>
    if (64 : Int32) ≤ w1 then
    some (w1, w2)
    else
    zk_gd (zk_in w1 n0)
    (zk_gd (zk_in (w1 ^^^ x1) n0)
    (zk_lt (w1 + 1) (fun y5 =>
    zl_X0_spread_2 x1 x2 n0 n y5 (vp_updL w2 w1.toNatClampNeg (if ((w2 (w1 ^^^ x1).toNatClampNeg) + x2.toInt64) < (w2 w1.toNatClampNeg) then ((w2 (w1 ^^^ x1).toNatClampNeg) + x2.toInt64) else (w2 w1.toNatClampNeg))))))
def zf_X0_spread (x1 : Int32) (x2 : Int32) (n0 : Nat) (f_p0 : Nat → Int64) : Option (Nat → Int64) :=
  (zl_X0_spread_2 x1 x2 n0 zk_F (0 : Int32) f_p0).bind (fun v7 =>
  some v7.2)
theorem hd_X0_spread : yX0_spread.cls ≠ "java/lang/invoke/MethodHandle" ∧ yX0_spread.cls ≠ "java/lang/invoke/VarHandle" ∧ (parseMethodDescriptor yX0_spread.desc).map (fun d => d.parameters.length) = some 3 := by decide +kernel
set_option maxHeartbeats 4000000 in
set_option maxRecDepth 100000 in
theorem zc_X0_spread (l : Launch) (D : va_G) (tL tO : Nat) (cI cJ cB cQ : ClassId) (a_p0 : Nat) (n0 : Nat) (x1 : Int32) (x2 : Int32) (f_p0 : Nat → Int64) (z : Nat → Int64) (hf : zf_X0_spread x1 x2 n0 f_p0 = some z) : zk_CT l D tL tO (zk_ty cI cJ cB cQ) yX0_spread wsX0_spread 1 23 [.ref a_p0, .int x1, .int x2] none [(a_p0, .inl (cJ, n0, .inr (.inl f_p0)))] [(a_p0, .inl (cJ, n0, .inr (.inl z)))] := by
  refine zk_of_v (cc := cX0_spread) (maxL := 4) (by decide) rfl (Nat.le_of_ble_eq_true rfl) ?_
  intro p e R s m args below meth c A Q ls hx hb hml hRf hRl hts hown hP hK hD hA hS hG hl hret
  have hl : lv_has ls 4 [(0, .ref a_p0), (1, .int x1), (2, .int x2)] := hl
  have hown : s.vm.findClass RX0 = some m.cls := hown
  have hcs : 0 ≤ R.cells ∧ 0 ≤ R.slots := ⟨Nat.zero_le _, Nat.zero_le _⟩
  have lk0 := hts (.methodLink RX0 50 Lib.MathLoose.min_long.x) (by decide +kernel)
  have lk1 := hts (.static Lib.MathLoose.min_long.x) (by decide +kernel)
  have lk2 := hts (.initialized "java/lang/Math") (by decide +kernel)
  have lk3 := hts (.code Lib.MathLoose.min_long.x Lib.MathLoose.min_long.code 4 (some .long)) (by decide +kernel)
  unfold zf_X0_spread at hf
  refine lv_iconst (v := (0 : Int32)) hx hb dX0_spread_0 (by decide) ?_
  refine lv_istore_n (lv' := [(3, .int (0 : Int32)), (0, .ref a_p0), (1, .int x1), (2, .int x2)]) hx hb dX0_spread_1 rfl hl (by decide) rfl (fun ls hl => ?_)
  have lp2 : ∀ (n : Nat) (w1 : Int32) (w2 : Nat → Int64) (z2 : Int32 × (Nat → Int64)) (H : Heap) (locs : List Loc) (ls : Array Slot), zl_X0_spread_2 x1 x2 n0 n w1 w2 = some z2 → va_P D vwCl [(a_p0, .inl (cJ, n0, .inr (.inl w2)))] H → va_D A [(a_p0, .inl (cJ, n0, .inr (.inl w2)))] → va_S A s.heap H locs → lv_has ls 4 [(0, .ref a_p0), (1, .int x1), (2, .int x2), (3, .int w1)] → (∀ (H : Heap) (locs : List Loc) (ls : Array Slot), va_P D vwCl [(a_p0, .inl (cJ, n0, .inr (.inl z2.2)))] H → va_D A [(a_p0, .inl (cJ, n0, .inr (.inl z2.2)))] → va_S A s.heap H locs → lv_has ls 4 [(0, .ref a_p0), (1, .int x1), (2, .int x2), (3, .int z2.1)] → W p l e R s m args below meth c H locs 0 0 Q (F0 m 31 ls [])) → W p l e R s m args below meth c H locs 0 0 Q (F0 m 2 ls []) := by
    intro n
    induction n with
    | zero => intro w1 w2 z2 H locs ls hf; exact absurd (show none = some z2 from hf) (by simp)
    | succ n ih =>
      intro w1 w2 z2 H locs ls hf hP hD hS hl hk
      rw [zl_X0_spread_2] at hf
      refine lv_iload_n hx hb dX0_spread_2 rfl (lv_at hl 3 rfl) ?_
      refine lv_bipush (v := (64 : Int32)) hx hb dX0_spread_3 (by decide) ?_
      refine lv_icmp_ge (tgt := 31) hx hb dX0_spread_5 (by decide) (fun c6 => ?_) (fun c6 => ?_)
      · have hf := zk_t c6 hf
        obtain rfl := Option.some.inj hf
        exact hk _ _ _ hP hD hS (lv_sub hl [0, 1, 2, 3] rfl)
      · have hf := zk_f c6 hf
        refine lv_aload_n hx hb dX0_spread_8 rfl (lv_at hl 0 rfl) ?_
        refine lv_iload_n hx hb dX0_spread_9 rfl (lv_at hl 3 rfl) ?_
        refine lv_aload_n hx hb dX0_spread_10 rfl (lv_at hl 0 rfl) ?_
        refine lv_iload_n hx hb dX0_spread_11 rfl (lv_at hl 3 rfl) ?_
        obtain ⟨g3, hf⟩ := zk_gd_s hf
        refine va_lald hx hb hK hP 0 1 rfl rfl (zk_in_s g3) dX0_spread_12 ?_
        refine lv_aload_n hx hb dX0_spread_13 rfl (lv_at hl 0 rfl) ?_
        refine lv_iload_n hx hb dX0_spread_14 rfl (lv_at hl 3 rfl) ?_
        refine lv_iload_n hx hb dX0_spread_15 rfl (lv_at hl 1 rfl) ?_
        refine lv_ixor hx hb dX0_spread_16 ?_
        obtain ⟨g4, hf⟩ := zk_gd_s hf
        refine va_lald hx hb hK hP 0 1 rfl rfl (zk_in_s g4) dX0_spread_17 ?_
        refine lv_iload_n hx hb dX0_spread_18 rfl (lv_at hl 2 rfl) ?_
        refine lv_i2l hx hb dX0_spread_19 rfl ?_
        refine lv_ladd hx hb dX0_spread_20 ?_
        refine va_mmin_long hx hb (hml.trans hl.1.symm) hown lk0 lk1 lk2 lk3 (Nat.le_trans (Nat.le_of_ble_eq_true rfl) hRf) (Nat.le_trans (Nat.le_of_ble_eq_true rfl) hRl) (Nat.zero_le _) (Nat.zero_le _) dX0_spread_21 ?_
        refine va_last hx hb hK hP hD hS 0 1 rfl rfl (zk_in_s g3) dX0_spread_24 (fun H locs hP hD hS => ?_)
        have hP : va_P D vwCl [(a_p0, .inl (cJ, n0, .inr (.inl (vp_updL w2 w1.toNatClampNeg (if ((w2 (w1 ^^^ x1).toNatClampNeg) + x2.toInt64) < (w2 w1.toNatClampNeg) then ((w2 (w1 ^^^ x1).toNatClampNeg) + x2.toInt64) else (w2 w1.toNatClampNeg))))))] H := hP
        have hD : va_D A [(a_p0, .inl (cJ, n0, .inr (.inl (vp_updL w2 w1.toNatClampNeg (if ((w2 (w1 ^^^ x1).toNatClampNeg) + x2.toInt64) < (w2 w1.toNatClampNeg) then ((w2 (w1 ^^^ x1).toNatClampNeg) + x2.toInt64) else (w2 w1.toNatClampNeg))))))] := hD
        obtain ⟨y5, ey5, hf⟩ := zk_lt_s hf
        refine lv_iinc (v := y5) (lv' := [(3, .int y5), (0, .ref a_p0), (1, .int x1), (2, .int x2)]) hx hb dX0_spread_25 hl (k := 3) rfl (by rw [ey5]; rfl) (by decide) rfl (fun ls hl => ?_)
        refine lv_goto (tgt := 2) hx hb dX0_spread_28 (by decide) ?_
        exact ih y5 (vp_updL w2 w1.toNatClampNeg (if ((w2 (w1 ^^^ x1).toNatClampNeg) + x2.toInt64) < (w2 w1.toNatClampNeg) then ((w2 (w1 ^^^ x1).toNatClampNeg) + x2.toInt64) else (w2 w1.toNatClampNeg))) _ _ _ _ hf hP hD hS (lv_sub hl [1, 2, 3, 0] rfl) hk
  obtain ⟨v7, hv7, hf⟩ := zk_ob hf
  refine lp2 zk_F (0 : Int32) f_p0 v7 _ _ _ hv7 hP hD hS (lv_sub hl [1, 2, 3, 0] rfl) ?_
  intro H locs ls hP hD hS hl
  obtain rfl := Option.some.inj hf
  exact hret trivial _ _ _ _ hP hD hS dX0_spread_31
def zl_X0_findLengths_9 (v_ds_alike : Int32) (f_ds_costs : Nat → Int32) : Nat → (Int32) → (Nat → Int32) → Option (Int32 × (Nat → Int32))
  | 0, _, _ => none
  | n + 1, w2, w3 =>
    if (64 : Int32) ≤ w2 then
    some (w2, w3)
    else
    (zf_J6_numberOfTrailingZeros_0f7a4 w2).bind (fun v4 =>
    if v_ds_alike = 0 then
    zk_gd (zk_in (w2 &&& (((1 : Int32) <<< (v4 &&& 31)) ^^^ (-1 : Int32))) 64)
    (zk_gd (zk_in v4 6)
    (zk_gd (zk_in w2 64)
    (zk_lt (w2 + 1) (fun y8 =>
    zl_X0_findLengths_9 v_ds_alike f_ds_costs n y8 (upd w3 w2.toNatClampNeg ((w3 (w2 &&& (((1 : Int32) <<< (v4 &&& 31)) ^^^ (-1 : Int32))).toNatClampNeg) + (f_ds_costs v4.toNatClampNeg)))))))
    else
    zk_gd (zk_in w2 64)
    (zk_lt (w2 + 1) (fun y10 =>
    zl_X0_findLengths_9 v_ds_alike f_ds_costs n y10 (upd w3 w2.toNatClampNeg (1 : Int32)))))
def zf_X0_findLengths (v_ds_alike : Int32) (f_ds_costs : Nat → Int32) (f_ds_lengths : Nat → Int32) : Option (Nat → Int32) :=
  zk_gd (zk_in (0 : Int32) 64)
  ((zl_X0_findLengths_9 v_ds_alike f_ds_costs zk_F (1 : Int32) (upd f_ds_lengths (0 : Int32).toNatClampNeg (0 : Int32))).bind (fun v13 =>
  some v13.2))
theorem hd_X0_findLengths : yX0_findLengths.cls = RX0 ∧ yX0_findLengths.cls ≠ "java/lang/invoke/MethodHandle" ∧ yX0_findLengths.cls ≠ "java/lang/invoke/VarHandle" ∧ (parseMethodDescriptor yX0_findLengths.desc).map (fun d => d.parameters.length) = some 0 := by decide +kernel
set_option maxHeartbeats 4000000 in
set_option maxRecDepth 100000 in
theorem zc_X0_findLengths (l : Launch) (D : va_G) (tL tO : Nat) (cI cJ cB cQ : ClassId) (a_ds a_ds_costs a_ds_lengths : Nat) (v_ds_alike : Int32) (f_ds_costs : Nat → Int32) (f_ds_lengths : Nat → Int32) (z : Nat → Int32) (hf : zf_X0_findLengths v_ds_alike f_ds_costs f_ds_lengths = some z) : zk_CT l D tL tO (zk_ty cI cJ cB cQ) yX0_findLengths wsX0_findLengths 1 21 [.ref a_ds] none [(a_ds, .inr (0, [.ref a_ds_costs, .int v_ds_alike, .ref a_ds_lengths])), (a_ds_costs, .inl (cI, 6, .inl f_ds_costs)), (a_ds_lengths, .inl (cI, 64, .inl f_ds_lengths))] [(a_ds, .inr (0, [.ref a_ds_costs, .int v_ds_alike, .ref a_ds_lengths])), (a_ds_costs, .inl (cI, 6, .inl f_ds_costs)), (a_ds_lengths, .inl (cI, 64, .inl z))] := by
  refine zk_of_v (cc := cX0_findLengths) (maxL := 3) (by decide) rfl (Nat.le_of_ble_eq_true rfl) ?_
  intro p e R s m args below meth c A Q ls hx hb hml hRf hRl hts hown hP hK hD hA hS hG hl hret
  have hl : lv_has ls 3 [(0, .ref a_ds)] := hl
  have hown : s.vm.findClass RX0 = some m.cls := hown
  have hcs : 0 ≤ R.cells ∧ 0 ≤ R.slots := ⟨Nat.zero_le _, Nat.zero_le _⟩
  have lk0 := hts (.fieldLink RX0 25 "SayingsMerged$Distances" "lengths" "[I") (by decide +kernel)
  have inX0 : ∀ w ∈ wsX00, w ∈ wsX0_findLengths := by decide +kernel
  have lk2 := hts (.fieldLink RX0 21 "SayingsMerged$Distances" "alike" "Z") (by decide +kernel)
  have lk3 := hts (.fieldLink RX0 9 "SayingsMerged$Distances" "costs" "[I") (by decide +kernel)
  unfold zf_X0_findLengths at hf
  refine lv_aload_n hx hb dX0_findLengths_0 rfl (lv_at hl 0 rfl) ?_
  refine va_get (ci := 0) (v := .ref a_ds_lengths) (C := RX0) (T := TX0) (N := 3) hx hb hts inX0 hown hK hP 0 rfl rfl 2 (by decide) lk0 (fun _ h9 => h9) rfl dX0_findLengths_1 ?_
  refine lv_iconst (v := (0 : Int32)) hx hb dX0_findLengths_4 (by decide) ?_
  refine lv_iconst (v := (0 : Int32)) hx hb dX0_findLengths_5 (by decide) ?_
  obtain ⟨g1, hf⟩ := zk_gd_s hf
  refine va_iast hx hb hK hP hD hS 2 0 rfl rfl (zk_in_s g1) dX0_findLengths_6 (fun H locs hP hD hS => ?_)
  have hP : va_P D vwCl [(a_ds, .inr (0, [.ref a_ds_costs, .int v_ds_alike, .ref a_ds_lengths])), (a_ds_costs, .inl (cI, 6, .inl f_ds_costs)), (a_ds_lengths, .inl (cI, 64, .inl (upd f_ds_lengths (0 : Int32).toNatClampNeg (0 : Int32))))] H := hP
  have hD : va_D A [(a_ds, .inr (0, [.ref a_ds_costs, .int v_ds_alike, .ref a_ds_lengths])), (a_ds_costs, .inl (cI, 6, .inl f_ds_costs)), (a_ds_lengths, .inl (cI, 64, .inl (upd f_ds_lengths (0 : Int32).toNatClampNeg (0 : Int32))))] := hD
  refine lv_iconst (v := (1 : Int32)) hx hb dX0_findLengths_7 (by decide) ?_
  refine lv_istore_n (lv' := [(1, .int (1 : Int32)), (0, .ref a_ds)]) hx hb dX0_findLengths_8 rfl hl (by decide) rfl (fun ls hl => ?_)
  have lp9 : ∀ (n : Nat) (w2 : Int32) (w3 : Nat → Int32) (z9 : Int32 × (Nat → Int32)) (H : Heap) (locs : List Loc) (ls : Array Slot), zl_X0_findLengths_9 v_ds_alike f_ds_costs n w2 w3 = some z9 → va_P D vwCl [(a_ds, .inr (0, [.ref a_ds_costs, .int v_ds_alike, .ref a_ds_lengths])), (a_ds_costs, .inl (cI, 6, .inl f_ds_costs)), (a_ds_lengths, .inl (cI, 64, .inl w3))] H → va_D A [(a_ds, .inr (0, [.ref a_ds_costs, .int v_ds_alike, .ref a_ds_lengths])), (a_ds_costs, .inl (cI, 6, .inl f_ds_costs)), (a_ds_lengths, .inl (cI, 64, .inl w3))] → va_S A s.heap H locs → lv_has ls 3 [(0, .ref a_ds), (1, .int w2)] → (∀ (H : Heap) (locs : List Loc) (ls : Array Slot), va_P D vwCl [(a_ds, .inr (0, [.ref a_ds_costs, .int v_ds_alike, .ref a_ds_lengths])), (a_ds_costs, .inl (cI, 6, .inl f_ds_costs)), (a_ds_lengths, .inl (cI, 64, .inl z9.2))] H → va_D A [(a_ds, .inr (0, [.ref a_ds_costs, .int v_ds_alike, .ref a_ds_lengths])), (a_ds_costs, .inl (cI, 6, .inl f_ds_costs)), (a_ds_lengths, .inl (cI, 64, .inl z9.2))] → va_S A s.heap H locs → lv_has ls 3 [(0, .ref a_ds), (1, .int z9.1)] → W p l e R s m args below meth c H locs 0 0 Q (F0 m 62 ls [])) → W p l e R s m args below meth c H locs 0 0 Q (F0 m 9 ls []) := by
    intro n
    induction n with
    | zero => intro w2 w3 z9 H locs ls hf; exact absurd (show none = some z9 from hf) (by simp)
    | succ n ih =>
      intro w2 w3 z9 H locs ls hf hP hD hS hl hk
      rw [zl_X0_findLengths_9] at hf
      refine lv_iload_n hx hb dX0_findLengths_9 rfl (lv_at hl 1 rfl) ?_
      refine lv_bipush (v := (64 : Int32)) hx hb dX0_findLengths_10 (by decide) ?_
      refine lv_icmp_ge (tgt := 62) hx hb dX0_findLengths_12 (by decide) (fun c12 => ?_) (fun c12 => ?_)
      · have hf := zk_t c12 hf
        obtain rfl := Option.some.inj hf
        exact hk _ _ _ hP hD hS (lv_sub hl [0, 1] rfl)
      · have hf := zk_f c12 hf
        refine lv_iload_n hx hb dX0_findLengths_15 rfl (lv_at hl 1 rfl) ?_
        obtain ⟨v4, hv4, hf⟩ := zk_ob hf
        refine zk_goR (zk_S (As := [.int w2]) (rest := []) hx hb hml hown hts hK hG hP hD hS hA gX0_findLengths_J6_numberOfTrailingZeros_0f7a4 rfl hd_J6_numberOfTrailingZeros_0f7a4 (Nat.le_trans (Nat.le_of_ble_eq_true rfl) hRf) (Nat.le_trans (Nat.le_of_ble_eq_true rfl) hRl) hcs (zc_J6_numberOfTrailingZeros_0f7a4 l D tL tO cI cJ cB cQ w2 v4 hv4) hl.1 rfl rfl (Nat.le_of_ble_eq_true rfl) dX0_findLengths_16 [] rfl rfl) hP hD hS hA [] rfl (fun H locs hP hS => ?_)
        refine lv_istore_n (lv' := [(2, .int v4), (0, .ref a_ds), (1, .int w2)]) hx hb dX0_findLengths_19 rfl hl (by decide) rfl (fun ls hl => ?_)
        refine lv_aload_n hx hb dX0_findLengths_20 rfl (lv_at hl 1 rfl) ?_
        refine va_get (ci := 0) (v := .ref a_ds_lengths) (C := RX0) (T := TX0) (N := 3) hx hb hts inX0 hown hK hP 0 rfl rfl 2 (by decide) lk0 (fun _ h9 => h9) rfl dX0_findLengths_21 ?_
        refine lv_iload_n hx hb dX0_findLengths_24 rfl (lv_at hl 2 rfl) ?_
        refine lv_aload_n hx hb dX0_findLengths_25 rfl (lv_at hl 1 rfl) ?_
        refine va_get (ci := 0) (v := .int v_ds_alike) (C := RX0) (T := TX0) (N := 3) hx hb hts inX0 hown hK hP 0 rfl rfl 1 (by decide) lk2 (fun _ h9 => h9) rfl dX0_findLengths_26 ?_
        refine lv_if_eq (tgt := 36) hx hb dX0_findLengths_29 (by decide) (fun c11 => ?_) (fun c11 => ?_)
        · have hf := zk_t c11 hf
          refine lv_aload_n hx hb dX0_findLengths_36 rfl (lv_at hl 1 rfl) ?_
          refine va_get (ci := 0) (v := .ref a_ds_lengths) (C := RX0) (T := TX0) (N := 3) hx hb hts inX0 hown hK hP 0 rfl rfl 2 (by decide) lk0 (fun _ h9 => h9) rfl dX0_findLengths_37 ?_
          refine lv_iload_n hx hb dX0_findLengths_40 rfl (lv_at hl 2 rfl) ?_
          refine lv_iconst (v := (1 : Int32)) hx hb dX0_findLengths_41 (by decide) ?_
          refine lv_iload_n hx hb dX0_findLengths_42 rfl (lv_at hl 0 rfl) ?_
          refine lv_ishl hx hb dX0_findLengths_43 ?_
          refine lv_iconst (v := (-1 : Int32)) hx hb dX0_findLengths_44 (by decide) ?_
          refine lv_ixor hx hb dX0_findLengths_45 ?_
          refine lv_iand hx hb dX0_findLengths_46 ?_
          obtain ⟨g5, hf⟩ := zk_gd_s hf
          refine va_iald hx hb hK hP 2 0 rfl rfl (zk_in_s g5) dX0_findLengths_47 ?_
          refine lv_aload_n hx hb dX0_findLengths_48 rfl (lv_at hl 1 rfl) ?_
          refine va_get (ci := 0) (v := .ref a_ds_costs) (C := RX0) (T := TX0) (N := 3) hx hb hts inX0 hown hK hP 0 rfl rfl 0 (by decide) lk3 (fun _ h9 => h9) rfl dX0_findLengths_49 ?_
          refine lv_iload_n hx hb dX0_findLengths_52 rfl (lv_at hl 0 rfl) ?_
          obtain ⟨g6, hf⟩ := zk_gd_s hf
          refine va_iald hx hb hK hP 1 0 rfl rfl (zk_in_s g6) dX0_findLengths_53 ?_
          refine lv_iadd hx hb dX0_findLengths_54 ?_
          obtain ⟨g7, hf⟩ := zk_gd_s hf
          refine va_iast hx hb hK hP hD hS 2 0 rfl rfl (zk_in_s g7) dX0_findLengths_55 (fun H locs hP hD hS => ?_)
          have hP : va_P D vwCl [(a_ds, .inr (0, [.ref a_ds_costs, .int v_ds_alike, .ref a_ds_lengths])), (a_ds_costs, .inl (cI, 6, .inl f_ds_costs)), (a_ds_lengths, .inl (cI, 64, .inl (upd w3 w2.toNatClampNeg ((w3 (w2 &&& (((1 : Int32) <<< (v4 &&& 31)) ^^^ (-1 : Int32))).toNatClampNeg) + (f_ds_costs v4.toNatClampNeg)))))] H := hP
          have hD : va_D A [(a_ds, .inr (0, [.ref a_ds_costs, .int v_ds_alike, .ref a_ds_lengths])), (a_ds_costs, .inl (cI, 6, .inl f_ds_costs)), (a_ds_lengths, .inl (cI, 64, .inl (upd w3 w2.toNatClampNeg ((w3 (w2 &&& (((1 : Int32) <<< (v4 &&& 31)) ^^^ (-1 : Int32))).toNatClampNeg) + (f_ds_costs v4.toNatClampNeg)))))] := hD
          obtain ⟨y8, ey8, hf⟩ := zk_lt_s hf
          refine lv_iinc (v := y8) (lv' := [(1, .int y8), (2, .int v4), (0, .ref a_ds)]) hx hb dX0_findLengths_56 hl (k := 2) rfl (by rw [ey8]; rfl) (by decide) rfl (fun ls hl => ?_)
          refine lv_goto (tgt := 9) hx hb dX0_findLengths_59 (by decide) ?_
          exact ih y8 (upd w3 w2.toNatClampNeg ((w3 (w2 &&& (((1 : Int32) <<< (v4 &&& 31)) ^^^ (-1 : Int32))).toNatClampNeg) + (f_ds_costs v4.toNatClampNeg))) _ _ _ _ hf hP hD hS (lv_sub hl [2, 0] rfl) hk
        · have hf := zk_f c11 hf
          refine lv_iconst (v := (1 : Int32)) hx hb dX0_findLengths_32 (by decide) ?_
          refine lv_goto (tgt := 55) hx hb dX0_findLengths_33 (by decide) ?_
          obtain ⟨g9, hf⟩ := zk_gd_s hf
          refine va_iast hx hb hK hP hD hS 2 0 rfl rfl (zk_in_s g9) dX0_findLengths_55 (fun H locs hP hD hS => ?_)
          have hP : va_P D vwCl [(a_ds, .inr (0, [.ref a_ds_costs, .int v_ds_alike, .ref a_ds_lengths])), (a_ds_costs, .inl (cI, 6, .inl f_ds_costs)), (a_ds_lengths, .inl (cI, 64, .inl (upd w3 w2.toNatClampNeg (1 : Int32))))] H := hP
          have hD : va_D A [(a_ds, .inr (0, [.ref a_ds_costs, .int v_ds_alike, .ref a_ds_lengths])), (a_ds_costs, .inl (cI, 6, .inl f_ds_costs)), (a_ds_lengths, .inl (cI, 64, .inl (upd w3 w2.toNatClampNeg (1 : Int32))))] := hD
          obtain ⟨y10, ey10, hf⟩ := zk_lt_s hf
          refine lv_iinc (v := y10) (lv' := [(1, .int y10), (2, .int v4), (0, .ref a_ds)]) hx hb dX0_findLengths_56 hl (k := 2) rfl (by rw [ey10]; rfl) (by decide) rfl (fun ls hl => ?_)
          refine lv_goto (tgt := 9) hx hb dX0_findLengths_59 (by decide) ?_
          exact ih y10 (upd w3 w2.toNatClampNeg (1 : Int32)) _ _ _ _ hf hP hD hS (lv_sub hl [2, 0] rfl) hk
  obtain ⟨v13, hv13, hf⟩ := zk_ob hf
  refine lp9 zk_F (1 : Int32) (upd f_ds_lengths (0 : Int32).toNatClampNeg (0 : Int32)) v13 _ _ _ hv13 hP hD hS (lv_sub hl [1, 0] rfl) ?_
  intro H locs ls hP hD hS hl
  obtain rfl := Option.some.inj hf
  exact hret trivial _ _ _ _ hP hD hS dX0_findLengths_62
def zl_X0_findFars_31 (x0 : Int64) (n1 : Nat) (v1 : Int64) : Nat → (Int32) → (Nat → Int64) → Option (Int32 × (Nat → Int64))
  | 0, _, _ => none
  | n + 1, w2, w3 =>
    if (64 : Int32) ≤ w2 then
    some (w2, w3)
    else
    (zf_X4_isIn x0 w2).bind (fun v4 =>
    if v4 = 0 then
    zk_gd (zk_in w2 n1)
    (zk_lt (w2 + 1) (fun y6 =>
    zl_X0_findFars_31 x0 n1 v1 n y6 (vp_updL w3 w2.toNatClampNeg v1)))
    else
    zk_gd (zk_in w2 n1)
    (zk_lt (w2 + 1) (fun y8 =>
    zl_X0_findFars_31 x0 n1 v1 n y8 (vp_updL w3 w2.toNatClampNeg (0 : Int64)))))
def zl_X0_findFars_73 (f_ds_costs : Nat → Int32) (n1 : Nat) : Nat → (Int32) → (Nat → Int64) → Option (Int32 × (Nat → Int64))
  | 0, _, _ => none
  | n + 1, w12, w13 =>
    if (6 : Int32) ≤ w12 then
    some (w12, w13)
    else
    zk_gd (zk_in w12 6)
    ((zf_X0_spread ((1 : Int32) <<< (w12 &&& 31)) (f_ds_costs w12.toNatClampNeg) n1 w13).bind (fun v15 =>
    zk_lt (w12 + 1) (fun y16 =>
    zl_X0_findFars_73 f_ds_costs n1 n y16 v15)))
def zf_X0_findFars (x0 : Int64) (n1 : Nat) (v_ds_alike : Int32) (f_ds_costs : Nat → Int32) (f_p1 : Nat → Int64) : Option (Nat → Int64) :=
  if (lg_cmp x0 (0 : Int64)) = 0 then
  (zf_J7_fill_d0a16 (0 : Int64) n1 f_p1).bind (fun v21 =>
  some v21)
  else
  (if v_ds_alike = 0 then
  some (1000 : Int64)
  else
  some (1 : Int64)).bind (fun v1 =>
  (zl_X0_findFars_31 x0 n1 v1 zk_F (0 : Int32) f_p1).bind (fun v11 =>
  if v_ds_alike = 0 then
  (zl_X0_findFars_73 f_ds_costs n1 zk_F (0 : Int32) v11.2).bind (fun v18 =>
  some v18.2)
  else
  some v11.2))
theorem hd_X0_findFars : yX0_findFars.cls = RX0 ∧ yX0_findFars.cls ≠ "java/lang/invoke/MethodHandle" ∧ yX0_findFars.cls ≠ "java/lang/invoke/VarHandle" ∧ (parseMethodDescriptor yX0_findFars.desc).map (fun d => d.parameters.length) = some 2 := by decide +kernel
set_option maxHeartbeats 4000000 in
set_option maxRecDepth 100000 in
theorem zc_X0_findFars (l : Launch) (D : va_G) (tL tO : Nat) (cI cJ cB cQ : ClassId) (a_ds a_p1 a_ds_costs a_ds_lengths : Nat) (n1 : Nat) (x0 : Int64) (v_ds_alike : Int32) (f_ds_costs : Nat → Int32) (f_p1 : Nat → Int64) (z : Nat → Int64) (hf : zf_X0_findFars x0 n1 v_ds_alike f_ds_costs f_p1 = some z) : zk_CT l D tL tO (zk_ty cI cJ cB cQ) yX0_findFars wsX0_findFars 2 46 [.ref a_ds, .long x0, .ref a_p1] none [(a_ds, .inr (0, [.ref a_ds_costs, .int v_ds_alike, .ref a_ds_lengths])), (a_ds_costs, .inl (cI, 6, .inl f_ds_costs)), (a_p1, .inl (cJ, n1, .inr (.inl f_p1)))] [(a_ds, .inr (0, [.ref a_ds_costs, .int v_ds_alike, .ref a_ds_lengths])), (a_ds_costs, .inl (cI, 6, .inl f_ds_costs)), (a_p1, .inl (cJ, n1, .inr (.inl z)))] := by
  refine zk_of_v (cc := cX0_findFars) (maxL := 7) (by decide) rfl (Nat.le_of_ble_eq_true rfl) ?_
  intro p e R s m args below meth c A Q ls hx hb hml hRf hRl hts hown hP hK hD hA hS hG hl hret
  have hl : lv_has ls 7 [(0, .ref a_ds), (1, .long x0), (3, .ref a_p1)] := hl
  have hown : s.vm.findClass RX0 = some m.cls := hown
  have hcs : 0 ≤ R.cells ∧ 0 ≤ R.slots := ⟨Nat.zero_le _, Nat.zero_le _⟩
  have lk0 := hts (.fieldLink RX0 21 "SayingsMerged$Distances" "alike" "Z") (by decide +kernel)
  have inX0 : ∀ w ∈ wsX00, w ∈ wsX0_findFars := by decide +kernel
  have lk2 := hts (.static yX4_isIn) (by decide +kernel)
  have lk3 := hts (.initialized RX4) (by decide +kernel)
  have lk4 := hts (.fieldLink RX0 9 "SayingsMerged$Distances" "costs" "[I") (by decide +kernel)
  have lk5 := hts (.constantLong RX0 40 (1000)) (by decide +kernel)
  unfold zf_X0_findFars at hf
  refine lv_lload_n hx hb dX0_findFars_0 rfl (lv_at hl 1 rfl) ?_
  refine lv_lconst (v := (0 : Int64)) hx hb dX0_findFars_1 (by decide) ?_
  refine W.lcmp hx hb dX0_findFars_2 ?_
  refine lv_if_ne (tgt := 12) hx hb dX0_findFars_3 (by decide) (fun c22 => ?_) (fun c22 => ?_)
  · have hf := zk_f c22 hf
    refine lv_aload_n hx hb dX0_findFars_12 rfl (lv_at hl 0 rfl) ?_
    refine va_get (ci := 0) (v := .int v_ds_alike) (C := RX0) (T := TX0) (N := 3) hx hb hts inX0 hown hK hP 0 rfl rfl 1 (by decide) lk0 (fun _ h9 => h9) rfl dX0_findFars_13 ?_
    obtain ⟨v1, hv1, hf⟩ := zk_ob hf
    have kv1 : ∀ (H : Heap) (locs : List Loc) (ls : Array Slot), va_P D vwCl [(a_ds, .inr (0, [.ref a_ds_costs, .int v_ds_alike, .ref a_ds_lengths])), (a_ds_costs, .inl (cI, 6, .inl f_ds_costs)), (a_p1, .inl (cJ, n1, .inr (.inl f_p1)))] H → va_D A [(a_ds, .inr (0, [.ref a_ds_costs, .int v_ds_alike, .ref a_ds_lengths])), (a_ds_costs, .inl (cI, 6, .inl f_ds_costs)), (a_p1, .inl (cJ, n1, .inr (.inl f_p1)))] → va_S A s.heap H locs → lv_has ls 7 [(0, .ref a_ds), (1, .long x0), (3, .ref a_p1)] → W p l e R s m args below meth c H locs 0 0 Q (F0 m 26 ls [.long v1]) := by
      intro H locs ls hP hD hS hl
      refine lv_lstore (lv' := [(4, .long v1), (0, .ref a_ds), (1, .long x0), (3, .ref a_p1)]) hx hb dX0_findFars_26 hl (by decide) rfl (fun ls hl => ?_)
      refine lv_iconst (v := (0 : Int32)) hx hb dX0_findFars_28 (by decide) ?_
      refine lv_istore (lv' := [(6, .int (0 : Int32)), (4, .long v1), (0, .ref a_ds), (1, .long x0), (3, .ref a_p1)]) hx hb dX0_findFars_29 hl (by decide) rfl (fun ls hl => ?_)
      have lp31 : ∀ (n : Nat) (w2 : Int32) (w3 : Nat → Int64) (z31 : Int32 × (Nat → Int64)) (H : Heap) (locs : List Loc) (ls : Array Slot), zl_X0_findFars_31 x0 n1 v1 n w2 w3 = some z31 → va_P D vwCl [(a_ds, .inr (0, [.ref a_ds_costs, .int v_ds_alike, .ref a_ds_lengths])), (a_ds_costs, .inl (cI, 6, .inl f_ds_costs)), (a_p1, .inl (cJ, n1, .inr (.inl w3)))] H → va_D A [(a_ds, .inr (0, [.ref a_ds_costs, .int v_ds_alike, .ref a_ds_lengths])), (a_ds_costs, .inl (cI, 6, .inl f_ds_costs)), (a_p1, .inl (cJ, n1, .inr (.inl w3)))] → va_S A s.heap H locs → lv_has ls 7 [(0, .ref a_ds), (1, .long x0), (3, .ref a_p1), (4, .long v1), (6, .int w2)] → (∀ (H : Heap) (locs : List Loc) (ls : Array Slot), va_P D vwCl [(a_ds, .inr (0, [.ref a_ds_costs, .int v_ds_alike, .ref a_ds_lengths])), (a_ds_costs, .inl (cI, 6, .inl f_ds_costs)), (a_p1, .inl (cJ, n1, .inr (.inl z31.2)))] H → va_D A [(a_ds, .inr (0, [.ref a_ds_costs, .int v_ds_alike, .ref a_ds_lengths])), (a_ds_costs, .inl (cI, 6, .inl f_ds_costs)), (a_p1, .inl (cJ, n1, .inr (.inl z31.2)))] → va_S A s.heap H locs → lv_has ls 7 [(0, .ref a_ds), (1, .long x0), (3, .ref a_p1), (4, .long v1), (6, .int z31.1)] → W p l e R s m args below meth c H locs 0 0 Q (F0 m 63 ls [])) → W p l e R s m args below meth c H locs 0 0 Q (F0 m 31 ls []) := by
        intro n
        induction n with
        | zero => intro w2 w3 z31 H locs ls hf; exact absurd (show none = some z31 from hf) (by simp)
        | succ n ih =>
          intro w2 w3 z31 H locs ls hf hP hD hS hl hk
          rw [zl_X0_findFars_31] at hf
          refine lv_iload hx hb dX0_findFars_31 (lv_at hl 4 rfl) ?_
          refine lv_bipush (v := (64 : Int32)) hx hb dX0_findFars_33 (by decide) ?_
          refine lv_icmp_ge (tgt := 63) hx hb dX0_findFars_35 (by decide) (fun c10 => ?_) (fun c10 => ?_)
          · have hf := zk_t c10 hf
            obtain rfl := Option.some.inj hf
            exact hk _ _ _ hP hD hS (lv_sub hl [0, 1, 2, 3, 4] rfl)
          · have hf := zk_f c10 hf
            refine lv_aload_n hx hb dX0_findFars_38 rfl (lv_at hl 2 rfl) ?_
            refine lv_iload hx hb dX0_findFars_39 (lv_at hl 4 rfl) ?_
            refine lv_lload_n hx hb dX0_findFars_41 rfl (lv_at hl 1 rfl) ?_
            refine lv_iload hx hb dX0_findFars_42 (lv_at hl 4 rfl) ?_
            obtain ⟨v4, hv4, hf⟩ := zk_ob hf
            refine zk_goR (zk_SN (host := "SayingsMerged") (As := [.long x0, .int w2]) (rest := [.int w2, .ref a_p1]) hx hb hml hown hts hK hG hP hD hS hA gX0_findFars_X4_isIn_n42 (by decide +kernel) lk2 lk3 rfl hd_X4_isIn (Nat.le_trans (Nat.le_of_ble_eq_true rfl) hRf) (Nat.le_trans (Nat.le_of_ble_eq_true rfl) hRl) hcs (zc_X4_isIn l D tL tO cI cJ cB cQ x0 w2 v4 hv4) hl.1 rfl rfl (Nat.le_of_ble_eq_true rfl) dX0_findFars_44 [] rfl rfl) hP hD hS hA [] rfl (fun H locs hP hS => ?_)
            refine lv_if_eq (tgt := 54) hx hb dX0_findFars_47 (by decide) (fun c9 => ?_) (fun c9 => ?_)
            · have hf := zk_t c9 hf
              refine lv_lload hx hb dX0_findFars_54 (lv_at hl 3 rfl) ?_
              obtain ⟨g5, hf⟩ := zk_gd_s hf
              refine va_last hx hb hK hP hD hS 2 1 rfl rfl (zk_in_s g5) dX0_findFars_56 (fun H locs hP hD hS => ?_)
              have hP : va_P D vwCl [(a_ds, .inr (0, [.ref a_ds_costs, .int v_ds_alike, .ref a_ds_lengths])), (a_ds_costs, .inl (cI, 6, .inl f_ds_costs)), (a_p1, .inl (cJ, n1, .inr (.inl (vp_updL w3 w2.toNatClampNeg v1))))] H := hP
              have hD : va_D A [(a_ds, .inr (0, [.ref a_ds_costs, .int v_ds_alike, .ref a_ds_lengths])), (a_ds_costs, .inl (cI, 6, .inl f_ds_costs)), (a_p1, .inl (cJ, n1, .inr (.inl (vp_updL w3 w2.toNatClampNeg v1))))] := hD
              obtain ⟨y6, ey6, hf⟩ := zk_lt_s hf
              refine lv_iinc (v := y6) (lv' := [(6, .int y6), (0, .ref a_ds), (1, .long x0), (3, .ref a_p1), (4, .long v1)]) hx hb dX0_findFars_57 hl (k := 4) rfl (by rw [ey6]; rfl) (by decide) rfl (fun ls hl => ?_)
              refine lv_goto (tgt := 31) hx hb dX0_findFars_60 (by decide) ?_
              exact ih y6 (vp_updL w3 w2.toNatClampNeg v1) _ _ _ _ hf hP hD hS (lv_sub hl [1, 2, 3, 4, 0] rfl) hk
            · have hf := zk_f c9 hf
              refine lv_lconst (v := (0 : Int64)) hx hb dX0_findFars_50 (by decide) ?_
              refine lv_goto (tgt := 56) hx hb dX0_findFars_51 (by decide) ?_
              obtain ⟨g7, hf⟩ := zk_gd_s hf
              refine va_last hx hb hK hP hD hS 2 1 rfl rfl (zk_in_s g7) dX0_findFars_56 (fun H locs hP hD hS => ?_)
              have hP : va_P D vwCl [(a_ds, .inr (0, [.ref a_ds_costs, .int v_ds_alike, .ref a_ds_lengths])), (a_ds_costs, .inl (cI, 6, .inl f_ds_costs)), (a_p1, .inl (cJ, n1, .inr (.inl (vp_updL w3 w2.toNatClampNeg (0 : Int64)))))] H := hP
              have hD : va_D A [(a_ds, .inr (0, [.ref a_ds_costs, .int v_ds_alike, .ref a_ds_lengths])), (a_ds_costs, .inl (cI, 6, .inl f_ds_costs)), (a_p1, .inl (cJ, n1, .inr (.inl (vp_updL w3 w2.toNatClampNeg (0 : Int64)))))] := hD
              obtain ⟨y8, ey8, hf⟩ := zk_lt_s hf
              refine lv_iinc (v := y8) (lv' := [(6, .int y8), (0, .ref a_ds), (1, .long x0), (3, .ref a_p1), (4, .long v1)]) hx hb dX0_findFars_57 hl (k := 4) rfl (by rw [ey8]; rfl) (by decide) rfl (fun ls hl => ?_)
              refine lv_goto (tgt := 31) hx hb dX0_findFars_60 (by decide) ?_
              exact ih y8 (vp_updL w3 w2.toNatClampNeg (0 : Int64)) _ _ _ _ hf hP hD hS (lv_sub hl [1, 2, 3, 4, 0] rfl) hk
      obtain ⟨v11, hv11, hf⟩ := zk_ob hf
      refine lp31 zk_F (0 : Int32) f_p1 v11 _ _ _ hv11 hP hD hS (lv_sub hl [2, 3, 4, 1, 0] rfl) ?_
      intro H locs ls hP hD hS hl
      refine lv_aload_n hx hb dX0_findFars_63 rfl (lv_at hl 0 rfl) ?_
      refine va_get (ci := 0) (v := .int v_ds_alike) (C := RX0) (T := TX0) (N := 3) hx hb hts inX0 hown hK hP 0 rfl rfl 1 (by decide) lk0 (fun _ h9 => h9) rfl dX0_findFars_64 ?_
      refine lv_if_ne (tgt := 101) hx hb dX0_findFars_67 (by decide) (fun c19 => ?_) (fun c19 => ?_)
      · have hf := zk_f c19 hf
        obtain rfl := Option.some.inj hf
        exact hret trivial _ _ _ _ hP hD hS dX0_findFars_101
      · have hf := zk_t c19 hf
        refine lv_iconst (v := (0 : Int32)) hx hb dX0_findFars_70 (by decide) ?_
        refine lv_istore (lv' := [(6, .int (0 : Int32)), (0, .ref a_ds), (1, .long x0), (3, .ref a_p1), (4, .long v1)]) hx hb dX0_findFars_71 hl (by decide) rfl (fun ls hl => ?_)
        have lp73 : ∀ (n : Nat) (w12 : Int32) (w13 : Nat → Int64) (z73 : Int32 × (Nat → Int64)) (H : Heap) (locs : List Loc) (ls : Array Slot), zl_X0_findFars_73 f_ds_costs n1 n w12 w13 = some z73 → va_P D vwCl [(a_ds, .inr (0, [.ref a_ds_costs, .int v_ds_alike, .ref a_ds_lengths])), (a_ds_costs, .inl (cI, 6, .inl f_ds_costs)), (a_p1, .inl (cJ, n1, .inr (.inl w13)))] H → va_D A [(a_ds, .inr (0, [.ref a_ds_costs, .int v_ds_alike, .ref a_ds_lengths])), (a_ds_costs, .inl (cI, 6, .inl f_ds_costs)), (a_p1, .inl (cJ, n1, .inr (.inl w13)))] → va_S A s.heap H locs → lv_has ls 7 [(0, .ref a_ds), (1, .long x0), (3, .ref a_p1), (4, .long v1), (6, .int w12)] → (∀ (H : Heap) (locs : List Loc) (ls : Array Slot), va_P D vwCl [(a_ds, .inr (0, [.ref a_ds_costs, .int v_ds_alike, .ref a_ds_lengths])), (a_ds_costs, .inl (cI, 6, .inl f_ds_costs)), (a_p1, .inl (cJ, n1, .inr (.inl z73.2)))] H → va_D A [(a_ds, .inr (0, [.ref a_ds_costs, .int v_ds_alike, .ref a_ds_lengths])), (a_ds_costs, .inl (cI, 6, .inl f_ds_costs)), (a_p1, .inl (cJ, n1, .inr (.inl z73.2)))] → va_S A s.heap H locs → lv_has ls 7 [(0, .ref a_ds), (1, .long x0), (3, .ref a_p1), (4, .long v1), (6, .int z73.1)] → W p l e R s m args below meth c H locs 0 0 Q (F0 m 101 ls [])) → W p l e R s m args below meth c H locs 0 0 Q (F0 m 73 ls []) := by
          intro n
          induction n with
          | zero => intro w12 w13 z73 H locs ls hf; exact absurd (show none = some z73 from hf) (by simp)
          | succ n ih =>
            intro w12 w13 z73 H locs ls hf hP hD hS hl hk
            rw [zl_X0_findFars_73] at hf
            refine lv_iload hx hb dX0_findFars_73 (lv_at hl 4 rfl) ?_
            refine lv_bipush (v := (6 : Int32)) hx hb dX0_findFars_75 (by decide) ?_
            refine lv_icmp_ge (tgt := 101) hx hb dX0_findFars_77 (by decide) (fun c17 => ?_) (fun c17 => ?_)
            · have hf := zk_t c17 hf
              obtain rfl := Option.some.inj hf
              exact hk _ _ _ hP hD hS (lv_sub hl [0, 1, 2, 3, 4] rfl)
            · have hf := zk_f c17 hf
              refine lv_aload_n hx hb dX0_findFars_80 rfl (lv_at hl 2 rfl) ?_
              refine lv_iconst (v := (1 : Int32)) hx hb dX0_findFars_81 (by decide) ?_
              refine lv_iload hx hb dX0_findFars_82 (lv_at hl 4 rfl) ?_
              refine lv_ishl hx hb dX0_findFars_84 ?_
              refine lv_aload_n hx hb dX0_findFars_85 rfl (lv_at hl 0 rfl) ?_
              refine va_get (ci := 0) (v := .ref a_ds_costs) (C := RX0) (T := TX0) (N := 3) hx hb hts inX0 hown hK hP 0 rfl rfl 0 (by decide) lk4 (fun _ h9 => h9) rfl dX0_findFars_86 ?_
              refine lv_iload hx hb dX0_findFars_89 (lv_at hl 4 rfl) ?_
              obtain ⟨g14, hf⟩ := zk_gd_s hf
              refine va_iald hx hb hK hP 1 0 rfl rfl (zk_in_s g14) dX0_findFars_91 ?_
              obtain ⟨v15, hv15, hf⟩ := zk_ob hf
              refine zk_go (wr := [(a_ds, .inr (0, [.ref a_ds_costs, .int v_ds_alike, .ref a_ds_lengths])), (a_ds_costs, .inl (cI, 6, .inl f_ds_costs))]) (w2 := [(a_ds, .inr (0, [.ref a_ds_costs, .int v_ds_alike, .ref a_ds_lengths])), (a_ds_costs, .inl (cI, 6, .inl f_ds_costs)), (a_p1, .inl (cJ, n1, .inr (.inl v15)))]) (zk_S (As := [.ref a_p1, .int ((1 : Int32) <<< (w12 &&& 31)), .int (f_ds_costs w12.toNatClampNeg)]) (rest := []) hx hb hml hown hts hK hG hP hD hS hA gX0_findFars_X0_spread rfl hd_X0_spread (Nat.le_trans (Nat.le_of_ble_eq_true rfl) hRf) (Nat.le_trans (Nat.le_of_ble_eq_true rfl) hRl) hcs (zc_X0_spread l D tL tO cI cJ cB cQ a_p1 n1 ((1 : Int32) <<< (w12 &&& 31)) (f_ds_costs w12.toNatClampNeg) w13 v15 hv15) hl.1 rfl rfl (Nat.le_of_ble_eq_true rfl) dX0_findFars_92 [2] rfl rfl) hP hD hS hA [2] [0, 1] [0, 1, 2] rfl rfl rfl (by decide) rfl rfl (fun H locs hP hD hS => ?_)
              obtain ⟨y16, ey16, hf⟩ := zk_lt_s hf
              refine lv_iinc (v := y16) (lv' := [(6, .int y16), (0, .ref a_ds), (1, .long x0), (3, .ref a_p1), (4, .long v1)]) hx hb dX0_findFars_95 hl (k := 4) rfl (by rw [ey16]; rfl) (by decide) rfl (fun ls hl => ?_)
              refine lv_goto (tgt := 73) hx hb dX0_findFars_98 (by decide) ?_
              exact ih y16 v15 _ _ _ _ hf hP hD hS (lv_sub hl [1, 2, 3, 4, 0] rfl) hk
        obtain ⟨v18, hv18, hf⟩ := zk_ob hf
        refine lp73 zk_F (0 : Int32) v11.2 v18 _ _ _ hv18 hP hD hS (lv_sub hl [1, 2, 3, 4, 0] rfl) ?_
        intro H locs ls hP hD hS hl
        obtain rfl := Option.some.inj hf
        exact hret trivial _ _ _ _ hP hD hS dX0_findFars_101
    replace hf := hv1
    refine lv_if_eq (tgt := 23) hx hb dX0_findFars_16 (by decide) (fun c20 => ?_) (fun c20 => ?_)
    · have hf := zk_t c20 hf
      refine lv_ldc2 hx hb hown lk5 dX0_findFars_23 ?_
      obtain rfl := Option.some.inj hf
      exact kv1 _ _ _ hP hD hS (lv_sub hl [0, 1, 2] rfl)
    · have hf := zk_f c20 hf
      refine lv_lconst (v := (1 : Int64)) hx hb dX0_findFars_19 (by decide) ?_
      refine lv_goto (tgt := 26) hx hb dX0_findFars_20 (by decide) ?_
      obtain rfl := Option.some.inj hf
      exact kv1 _ _ _ hP hD hS (lv_sub hl [0, 1, 2] rfl)
  · have hf := zk_t c22 hf
    refine lv_aload_n hx hb dX0_findFars_6 rfl (lv_at hl 2 rfl) ?_
    refine lv_lconst (v := (0 : Int64)) hx hb dX0_findFars_7 (by decide) ?_
    obtain ⟨v21, hv21, hf⟩ := zk_ob hf
    refine zk_go (wr := [(a_ds, .inr (0, [.ref a_ds_costs, .int v_ds_alike, .ref a_ds_lengths])), (a_ds_costs, .inl (cI, 6, .inl f_ds_costs))]) (w2 := [(a_ds, .inr (0, [.ref a_ds_costs, .int v_ds_alike, .ref a_ds_lengths])), (a_ds_costs, .inl (cI, 6, .inl f_ds_costs)), (a_p1, .inl (cJ, n1, .inr (.inl v21)))]) (zk_S (As := [.ref a_p1, .long (0 : Int64)]) (rest := []) hx hb hml hown hts hK hG hP hD hS hA gX0_findFars_J7_fill_d0a16 rfl hd_J7_fill_d0a16 (Nat.le_trans (Nat.le_of_ble_eq_true rfl) hRf) (Nat.le_trans (Nat.le_of_ble_eq_true rfl) hRl) hcs (zc_J7_fill_d0a16 l D tL tO cI cJ cB cQ a_p1 n1 (0 : Int64) f_p1 v21 hv21) hl.1 rfl rfl (Nat.le_of_ble_eq_true rfl) dX0_findFars_8 [2] rfl rfl) hP hD hS hA [2] [0, 1] [0, 1, 2] rfl rfl rfl (by decide) rfl rfl (fun H locs hP hD hS => ?_)
    obtain rfl := Option.some.inj hf
    exact hret trivial _ _ _ _ hP hD hS dX0_findFars_11
