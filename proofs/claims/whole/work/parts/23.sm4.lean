def zl_X4_lossOf_6 (x0 : Int32) (x1 : Int64) (f_sm_fars : Nat → Nat → Int64) : Nat → (Int64) → (Int32) → Option (Int64 × Int32)
  | 0, _, _ => none
  | n + 1, w1, w2 =>
    if (64 : Int32) ≤ w2 then
    some (w1, w2)
    else
    (zf_X4_isIn x1 w2).bind (fun v3 =>
    if v3 = 0 then
    zk_lt (w2 + 1) (fun y4 =>
    zl_X4_lossOf_6 x0 x1 f_sm_fars n w1 y4)
    else
    zk_gd (zk_in x0 7)
    (zk_gd (zk_in w2 64)
    (zk_lt (if (f_sm_fars x0.toNatClampNeg w2.toNatClampNeg) < w1 then w1 else (f_sm_fars x0.toNatClampNeg w2.toNatClampNeg)) (fun y7 =>
    zk_lt (w2 + 1) (fun y8 =>
    zl_X4_lossOf_6 x0 x1 f_sm_fars n y7 y8)))))
def zf_X4_lossOf (x0 : Int32) (x1 : Int64) (f_sm_fars : Nat → Nat → Int64) : Option (Int64) :=
  (zl_X4_lossOf_6 x0 x1 f_sm_fars zk_F (0 : Int64) (0 : Int32)).bind (fun v11 =>
  some v11.1)
theorem hd_X4_lossOf : yX4_lossOf.cls = RX4 ∧ yX4_lossOf.cls ≠ "java/lang/invoke/MethodHandle" ∧ yX4_lossOf.cls ≠ "java/lang/invoke/VarHandle" ∧ (parseMethodDescriptor yX4_lossOf.desc).map (fun d => d.parameters.length) = some 2 := by decide +kernel
set_option maxHeartbeats 4000000 in
set_option maxRecDepth 100000 in
theorem zc_X4_lossOf (l : Launch) (D : va_G) (tL tO : Nat) (cI cJ cB cQ : ClassId) (a_sm a_tx a_rd a_td a_sp a_ds a_sm_fars a_sm_common a_sm_others a_sm_scale : Nat) (r_sm_fars : Nat → Nat) (x0 : Int32) (x1 : Int64) (v_sm_asked : Int64) (v_sm_traced : Int64) (f_sm_fars : Nat → Nat → Int64) (z : Int64) (hf : zf_X4_lossOf x0 x1 f_sm_fars = some z) : zk_CT l D tL tO (zk_ty cI cJ cB cQ) yX4_lossOf wsX4_lossOf 1 23 [.ref a_sm, .int x0, .long x1] (some (.long z)) [(a_sm, .inr (4, [.ref a_tx, .ref a_rd, .ref a_td, .ref a_sp, .long v_sm_asked, .ref a_ds, .ref a_sm_fars, .ref a_sm_common, .ref a_sm_others, .ref a_sm_scale, .long v_sm_traced])), (a_sm_fars, .inl (cQ, 7, .inr (.inr (.inr (.inr (fun i => if i < 7 then some (r_sm_fars i) else none)))))), ((r_sm_fars 0), .inl (cJ, 64, .inr (.inl (f_sm_fars 0)))), ((r_sm_fars 1), .inl (cJ, 64, .inr (.inl (f_sm_fars 1)))), ((r_sm_fars 2), .inl (cJ, 64, .inr (.inl (f_sm_fars 2)))), ((r_sm_fars 3), .inl (cJ, 64, .inr (.inl (f_sm_fars 3)))), ((r_sm_fars 4), .inl (cJ, 64, .inr (.inl (f_sm_fars 4)))), ((r_sm_fars 5), .inl (cJ, 64, .inr (.inl (f_sm_fars 5)))), ((r_sm_fars 6), .inl (cJ, 64, .inr (.inl (f_sm_fars 6))))] [(a_sm, .inr (4, [.ref a_tx, .ref a_rd, .ref a_td, .ref a_sp, .long v_sm_asked, .ref a_ds, .ref a_sm_fars, .ref a_sm_common, .ref a_sm_others, .ref a_sm_scale, .long v_sm_traced])), (a_sm_fars, .inl (cQ, 7, .inr (.inr (.inr (.inr (fun i => if i < 7 then some (r_sm_fars i) else none)))))), ((r_sm_fars 0), .inl (cJ, 64, .inr (.inl (f_sm_fars 0)))), ((r_sm_fars 1), .inl (cJ, 64, .inr (.inl (f_sm_fars 1)))), ((r_sm_fars 2), .inl (cJ, 64, .inr (.inl (f_sm_fars 2)))), ((r_sm_fars 3), .inl (cJ, 64, .inr (.inl (f_sm_fars 3)))), ((r_sm_fars 4), .inl (cJ, 64, .inr (.inl (f_sm_fars 4)))), ((r_sm_fars 5), .inl (cJ, 64, .inr (.inl (f_sm_fars 5)))), ((r_sm_fars 6), .inl (cJ, 64, .inr (.inl (f_sm_fars 6))))] := by
  refine zk_of_l (cc := cX4_lossOf) (maxL := 7) (by decide) rfl (Nat.le_of_ble_eq_true rfl) ?_
  intro p e R s m args below meth c A Q ls hx hb hml hRf hRl hts hown hP hK hD hA hS hG hl hret
  have hl : lv_has ls 7 [(0, .ref a_sm), (1, .int x0), (2, .long x1)] := hl
  have hown : s.vm.findClass RX4 = some m.cls := hown
  have hcs : 0 ≤ R.cells ∧ 0 ≤ R.slots := ⟨Nat.zero_le _, Nat.zero_le _⟩
  have lk0 := hts (.fieldLink RX4 50 "SayingsMerged" "fars" "[[J") (by decide +kernel)
  have inX4 : ∀ w ∈ wsX40, w ∈ wsX4_lossOf := by decide +kernel
  have lk2 := hts (.methodLink RX4 225 Lib.MathLoose.max_long.x) (by decide +kernel)
  have lk3 := hts (.static Lib.MathLoose.max_long.x) (by decide +kernel)
  have lk4 := hts (.initialized "java/lang/Math") (by decide +kernel)
  have lk5 := hts (.code Lib.MathLoose.max_long.x Lib.MathLoose.max_long.code 4 (some .long)) (by decide +kernel)
  unfold zf_X4_lossOf at hf
  refine lv_lconst (v := (0 : Int64)) hx hb dX4_lossOf_0 (by decide) ?_
  refine lv_lstore (lv' := [(4, .long (0 : Int64)), (0, .ref a_sm), (1, .int x0), (2, .long x1)]) hx hb dX4_lossOf_1 hl (by decide) rfl (fun ls hl => ?_)
  refine lv_iconst (v := (0 : Int32)) hx hb dX4_lossOf_3 (by decide) ?_
  refine lv_istore (lv' := [(6, .int (0 : Int32)), (4, .long (0 : Int64)), (0, .ref a_sm), (1, .int x0), (2, .long x1)]) hx hb dX4_lossOf_4 hl (by decide) rfl (fun ls hl => ?_)
  have lp6 : ∀ (n : Nat) (w1 : Int64) (w2 : Int32) (z6 : Int64 × Int32) (H : Heap) (locs : List Loc) (ls : Array Slot), zl_X4_lossOf_6 x0 x1 f_sm_fars n w1 w2 = some z6 → va_P D vwCl [(a_sm, .inr (4, [.ref a_tx, .ref a_rd, .ref a_td, .ref a_sp, .long v_sm_asked, .ref a_ds, .ref a_sm_fars, .ref a_sm_common, .ref a_sm_others, .ref a_sm_scale, .long v_sm_traced])), (a_sm_fars, .inl (cQ, 7, .inr (.inr (.inr (.inr (fun i => if i < 7 then some (r_sm_fars i) else none)))))), ((r_sm_fars 0), .inl (cJ, 64, .inr (.inl (f_sm_fars 0)))), ((r_sm_fars 1), .inl (cJ, 64, .inr (.inl (f_sm_fars 1)))), ((r_sm_fars 2), .inl (cJ, 64, .inr (.inl (f_sm_fars 2)))), ((r_sm_fars 3), .inl (cJ, 64, .inr (.inl (f_sm_fars 3)))), ((r_sm_fars 4), .inl (cJ, 64, .inr (.inl (f_sm_fars 4)))), ((r_sm_fars 5), .inl (cJ, 64, .inr (.inl (f_sm_fars 5)))), ((r_sm_fars 6), .inl (cJ, 64, .inr (.inl (f_sm_fars 6))))] H → va_D A [(a_sm, .inr (4, [.ref a_tx, .ref a_rd, .ref a_td, .ref a_sp, .long v_sm_asked, .ref a_ds, .ref a_sm_fars, .ref a_sm_common, .ref a_sm_others, .ref a_sm_scale, .long v_sm_traced])), (a_sm_fars, .inl (cQ, 7, .inr (.inr (.inr (.inr (fun i => if i < 7 then some (r_sm_fars i) else none)))))), ((r_sm_fars 0), .inl (cJ, 64, .inr (.inl (f_sm_fars 0)))), ((r_sm_fars 1), .inl (cJ, 64, .inr (.inl (f_sm_fars 1)))), ((r_sm_fars 2), .inl (cJ, 64, .inr (.inl (f_sm_fars 2)))), ((r_sm_fars 3), .inl (cJ, 64, .inr (.inl (f_sm_fars 3)))), ((r_sm_fars 4), .inl (cJ, 64, .inr (.inl (f_sm_fars 4)))), ((r_sm_fars 5), .inl (cJ, 64, .inr (.inl (f_sm_fars 5)))), ((r_sm_fars 6), .inl (cJ, 64, .inr (.inl (f_sm_fars 6))))] → va_S A s.heap H locs → lv_has ls 7 [(0, .ref a_sm), (1, .int x0), (2, .long x1), (4, .long w1), (6, .int w2)] → (∀ (H : Heap) (locs : List Loc) (ls : Array Slot), va_P D vwCl [(a_sm, .inr (4, [.ref a_tx, .ref a_rd, .ref a_td, .ref a_sp, .long v_sm_asked, .ref a_ds, .ref a_sm_fars, .ref a_sm_common, .ref a_sm_others, .ref a_sm_scale, .long v_sm_traced])), (a_sm_fars, .inl (cQ, 7, .inr (.inr (.inr (.inr (fun i => if i < 7 then some (r_sm_fars i) else none)))))), ((r_sm_fars 0), .inl (cJ, 64, .inr (.inl (f_sm_fars 0)))), ((r_sm_fars 1), .inl (cJ, 64, .inr (.inl (f_sm_fars 1)))), ((r_sm_fars 2), .inl (cJ, 64, .inr (.inl (f_sm_fars 2)))), ((r_sm_fars 3), .inl (cJ, 64, .inr (.inl (f_sm_fars 3)))), ((r_sm_fars 4), .inl (cJ, 64, .inr (.inl (f_sm_fars 4)))), ((r_sm_fars 5), .inl (cJ, 64, .inr (.inl (f_sm_fars 5)))), ((r_sm_fars 6), .inl (cJ, 64, .inr (.inl (f_sm_fars 6))))] H → va_D A [(a_sm, .inr (4, [.ref a_tx, .ref a_rd, .ref a_td, .ref a_sp, .long v_sm_asked, .ref a_ds, .ref a_sm_fars, .ref a_sm_common, .ref a_sm_others, .ref a_sm_scale, .long v_sm_traced])), (a_sm_fars, .inl (cQ, 7, .inr (.inr (.inr (.inr (fun i => if i < 7 then some (r_sm_fars i) else none)))))), ((r_sm_fars 0), .inl (cJ, 64, .inr (.inl (f_sm_fars 0)))), ((r_sm_fars 1), .inl (cJ, 64, .inr (.inl (f_sm_fars 1)))), ((r_sm_fars 2), .inl (cJ, 64, .inr (.inl (f_sm_fars 2)))), ((r_sm_fars 3), .inl (cJ, 64, .inr (.inl (f_sm_fars 3)))), ((r_sm_fars 4), .inl (cJ, 64, .inr (.inl (f_sm_fars 4)))), ((r_sm_fars 5), .inl (cJ, 64, .inr (.inl (f_sm_fars 5)))), ((r_sm_fars 6), .inl (cJ, 64, .inr (.inl (f_sm_fars 6))))] → va_S A s.heap H locs → lv_has ls 7 [(0, .ref a_sm), (1, .int x0), (2, .long x1), (4, .long z6.1), (6, .int z6.2)] → W p l e R s m args below meth c H locs 0 0 Q (F0 m 44 ls [])) → W p l e R s m args below meth c H locs 0 0 Q (F0 m 6 ls []) := by
    intro n
    induction n with
    | zero => intro w1 w2 z6 H locs ls hf; exact absurd (show none = some z6 from hf) (by simp)
    | succ n ih =>
      intro w1 w2 z6 H locs ls hf hP hD hS hl hk
      rw [zl_X4_lossOf_6] at hf
      refine lv_iload hx hb dX4_lossOf_6 (lv_at hl 4 rfl) ?_
      refine lv_bipush (v := (64 : Int32)) hx hb dX4_lossOf_8 (by decide) ?_
      refine lv_icmp_ge (tgt := 44) hx hb dX4_lossOf_10 (by decide) (fun c10 => ?_) (fun c10 => ?_)
      · have hf := zk_t c10 hf
        obtain rfl := Option.some.inj hf
        exact hk _ _ _ hP hD hS (lv_sub hl [0, 1, 2, 3, 4] rfl)
      · have hf := zk_f c10 hf
        refine lv_lload_n hx hb dX4_lossOf_13 rfl (lv_at hl 2 rfl) ?_
        refine lv_iload hx hb dX4_lossOf_14 (lv_at hl 4 rfl) ?_
        obtain ⟨v3, hv3, hf⟩ := zk_ob hf
        refine zk_goR (zk_S (As := [.long x1, .int w2]) (rest := []) hx hb hml hown hts hK hG hP hD hS hA gX4_lossOf_X4_isIn rfl hd_X4_isIn (Nat.le_trans (Nat.le_of_ble_eq_true rfl) hRf) (Nat.le_trans (Nat.le_of_ble_eq_true rfl) hRl) hcs (zc_X4_isIn l D tL tO cI cJ cB cQ x1 w2 v3 hv3) hl.1 rfl rfl (Nat.le_of_ble_eq_true rfl) dX4_lossOf_16 [] rfl rfl) hP hD hS hA [] rfl (fun H locs hP hS => ?_)
        refine lv_if_eq (tgt := 38) hx hb dX4_lossOf_19 (by decide) (fun c9 => ?_) (fun c9 => ?_)
        · have hf := zk_t c9 hf
          obtain ⟨y4, ey4, hf⟩ := zk_lt_s hf
          refine lv_iinc (v := y4) (lv' := [(6, .int y4), (0, .ref a_sm), (1, .int x0), (2, .long x1), (4, .long w1)]) hx hb dX4_lossOf_38 hl (k := 4) rfl (by rw [ey4]; rfl) (by decide) rfl (fun ls hl => ?_)
          refine lv_goto (tgt := 6) hx hb dX4_lossOf_41 (by decide) ?_
          exact ih w1 y4 _ _ _ _ hf hP hD hS (lv_sub hl [1, 2, 3, 4, 0] rfl) hk
        · have hf := zk_f c9 hf
          refine lv_lload hx hb dX4_lossOf_22 (lv_at hl 3 rfl) ?_
          refine lv_aload_n hx hb dX4_lossOf_24 rfl (lv_at hl 0 rfl) ?_
          refine va_get (ci := 4) (v := .ref a_sm_fars) (C := RX4) (T := TX4) (N := 11) hx hb hts inX4 hown hK hP 0 rfl rfl 6 (by decide) lk0 (fun _ h9 => h9) rfl dX4_lossOf_25 ?_
          refine lv_iload_n hx hb dX4_lossOf_28 rfl (lv_at hl 1 rfl) ?_
          obtain ⟨g5, hf⟩ := zk_gd_s hf
          refine zk_aald hx hb hK hP 1 3 rfl rfl (zk_in_s g5) dX4_lossOf_29 ?_
          refine lv_iload hx hb dX4_lossOf_30 (lv_at hl 4 rfl) ?_
          obtain ⟨g6, hf⟩ := zk_gd_s hf
          refine va_lald hx hb hK hP (2 + x0.toNatClampNeg) 1 (zk_7 (P := fun j9 => ([(a_sm, .inr (4, [.ref a_tx, .ref a_rd, .ref a_td, .ref a_sp, .long v_sm_asked, .ref a_ds, .ref a_sm_fars, .ref a_sm_common, .ref a_sm_others, .ref a_sm_scale, .long v_sm_traced])), (a_sm_fars, .inl (cQ, 7, .inr (.inr (.inr (.inr (fun i => if i < 7 then some (r_sm_fars i) else none)))))), ((r_sm_fars 0), .inl (cJ, 64, .inr (.inl (f_sm_fars 0)))), ((r_sm_fars 1), .inl (cJ, 64, .inr (.inl (f_sm_fars 1)))), ((r_sm_fars 2), .inl (cJ, 64, .inr (.inl (f_sm_fars 2)))), ((r_sm_fars 3), .inl (cJ, 64, .inr (.inl (f_sm_fars 3)))), ((r_sm_fars 4), .inl (cJ, 64, .inr (.inl (f_sm_fars 4)))), ((r_sm_fars 5), .inl (cJ, 64, .inr (.inl (f_sm_fars 5)))), ((r_sm_fars 6), .inl (cJ, 64, .inr (.inl (f_sm_fars 6))))] : va_W)[2 + j9]? = some (r_sm_fars j9, .inl (cJ, 64, .inr (.inl (f_sm_fars j9))))) rfl rfl rfl rfl rfl rfl rfl _ (zk_lt7 g5)) rfl (zk_in_s g6) dX4_lossOf_32 ?_
          refine va_mmax_long hx hb (hml.trans hl.1.symm) hown lk2 lk3 lk4 lk5 (Nat.le_trans (Nat.le_of_ble_eq_true rfl) hRf) (Nat.le_trans (Nat.le_of_ble_eq_true rfl) hRl) (Nat.zero_le _) (Nat.zero_le _) dX4_lossOf_33 ?_
          obtain ⟨y7, ey7, hf⟩ := zk_lt_s hf
          refine zk_topl ey7 ?_
          refine lv_lstore (lv' := [(4, .long y7), (0, .ref a_sm), (1, .int x0), (2, .long x1), (6, .int w2)]) hx hb dX4_lossOf_36 hl (by decide) rfl (fun ls hl => ?_)
          obtain ⟨y8, ey8, hf⟩ := zk_lt_s hf
          refine lv_iinc (v := y8) (lv' := [(6, .int y8), (4, .long y7), (0, .ref a_sm), (1, .int x0), (2, .long x1)]) hx hb dX4_lossOf_38 hl (k := 4) rfl (by rw [ey8]; rfl) (by decide) rfl (fun ls hl => ?_)
          refine lv_goto (tgt := 6) hx hb dX4_lossOf_41 (by decide) ?_
          exact ih y7 y8 _ _ _ _ hf hP hD hS (lv_sub hl [2, 3, 4, 1, 0] rfl) hk
  obtain ⟨v11, hv11, hf⟩ := zk_ob hf
  refine lp6 zk_F (0 : Int64) (0 : Int32) v11 _ _ _ hv11 hP hD hS (lv_sub hl [2, 3, 4, 1, 0] rfl) ?_
  intro H locs ls hP hD hS hl
  refine lv_lload hx hb dX4_lossOf_44 (lv_at hl 3 rfl) ?_
  obtain rfl := Option.some.inj hf
  exact hret trivial _ _ _ _ hP hD hS dX4_lossOf_46
def zl_X4_mergedWithTerm_3 (x0 : Int32) (x1 : Int32) (x2 : Int32) (x3 : Int32) (f_ds_lengths : Nat → Int32) (f_sm_others : Nat → Int64) : Nat → (Int32) → (Nat → Int64) → Option (Int32 × (Nat → Int64))
  | 0, _, _ => none
  | n + 1, w1, w2 =>
    if (64 : Int32) ≤ w1 then
    some (w1, w2)
    else
    zk_lt ((x2 &&& (w1 ^^^ (-1 : Int32))) ||| (x3 &&& w1)) (fun y3 =>
    zk_gd (zk_in w1 64)
    (zk_gd (zk_in y3 64)
    ((zf_X4_joined x1 (f_sm_others w1.toNatClampNeg) ((x0 * (f_ds_lengths y3.toNatClampNeg)).toInt64)).bind (fun v6 =>
    zk_lt (w1 + 1) (fun y7 =>
    zl_X4_mergedWithTerm_3 x0 x1 x2 x3 f_ds_lengths f_sm_others n y7 (vp_updL w2 w1.toNatClampNeg v6))))))
def zf_X4_mergedWithTerm (x0 : Int32) (x1 : Int32) (x2 : Int32) (x3 : Int32) (v_td_there : Int64) (f_ds_lengths : Nat → Int32) (f_sm_others : Nat → Int64) (f_sm_scale : Nat → Int64) : Option (Int64 × (Nat → Int64)) :=
  (zl_X4_mergedWithTerm_3 x0 x1 x2 x3 f_ds_lengths f_sm_others zk_F (0 : Int32) f_sm_scale).bind (fun v9 =>
  (zf_X4_least v_td_there 64 v9.2).bind (fun v10 =>
  some (v10, v9.2)))
theorem hd_X4_mergedWithTerm : yX4_mergedWithTerm.cls = RX4 ∧ yX4_mergedWithTerm.cls ≠ "java/lang/invoke/MethodHandle" ∧ yX4_mergedWithTerm.cls ≠ "java/lang/invoke/VarHandle" ∧ (parseMethodDescriptor yX4_mergedWithTerm.desc).map (fun d => d.parameters.length) = some 4 := by decide +kernel
set_option maxHeartbeats 4000000 in
set_option maxRecDepth 100000 in
theorem zc_X4_mergedWithTerm (l : Launch) (D : va_G) (tL tO : Nat) (cI cJ cB cQ : ClassId) (a_sm a_tx a_rd a_td a_sp a_ds a_sm_fars a_sm_common a_sm_others a_sm_scale a_td_says a_td_weights a_ds_costs a_ds_lengths : Nat) (x0 : Int32) (x1 : Int32) (x2 : Int32) (x3 : Int32) (v_sm_asked : Int64) (v_sm_traced : Int64) (v_td_laws : Int32) (v_td_there : Int64) (v_td_sayers : Int32) (v_ds_alike : Int32) (f_ds_lengths : Nat → Int32) (f_sm_others : Nat → Int64) (f_sm_scale : Nat → Int64) (z : Int64 × (Nat → Int64)) (hf : zf_X4_mergedWithTerm x0 x1 x2 x3 v_td_there f_ds_lengths f_sm_others f_sm_scale = some z) : zk_CT l D tL tO (zk_ty cI cJ cB cQ) yX4_mergedWithTerm wsX4_mergedWithTerm 2 52 [.ref a_sm, .int x0, .int x1, .int x2, .int x3] (some (.long z.1)) [(a_sm, .inr (4, [.ref a_tx, .ref a_rd, .ref a_td, .ref a_sp, .long v_sm_asked, .ref a_ds, .ref a_sm_fars, .ref a_sm_common, .ref a_sm_others, .ref a_sm_scale, .long v_sm_traced])), (a_td, .inr (3, [.int v_td_laws, .long v_td_there, .int v_td_sayers, .ref a_td_says, .ref a_td_weights])), (a_ds, .inr (0, [.ref a_ds_costs, .int v_ds_alike, .ref a_ds_lengths])), (a_ds_lengths, .inl (cI, 64, .inl f_ds_lengths)), (a_sm_others, .inl (cJ, 64, .inr (.inl f_sm_others))), (a_sm_scale, .inl (cJ, 64, .inr (.inl f_sm_scale)))] [(a_sm, .inr (4, [.ref a_tx, .ref a_rd, .ref a_td, .ref a_sp, .long v_sm_asked, .ref a_ds, .ref a_sm_fars, .ref a_sm_common, .ref a_sm_others, .ref a_sm_scale, .long v_sm_traced])), (a_td, .inr (3, [.int v_td_laws, .long v_td_there, .int v_td_sayers, .ref a_td_says, .ref a_td_weights])), (a_ds, .inr (0, [.ref a_ds_costs, .int v_ds_alike, .ref a_ds_lengths])), (a_ds_lengths, .inl (cI, 64, .inl f_ds_lengths)), (a_sm_others, .inl (cJ, 64, .inr (.inl f_sm_others))), (a_sm_scale, .inl (cJ, 64, .inr (.inl z.2)))] := by
  refine zk_of_l (cc := cX4_mergedWithTerm) (maxL := 7) (by decide) rfl (Nat.le_of_ble_eq_true rfl) ?_
  intro p e R s m args below meth c A Q ls hx hb hml hRf hRl hts hown hP hK hD hA hS hG hl hret
  have hl : lv_has ls 7 [(0, .ref a_sm), (1, .int x0), (2, .int x1), (3, .int x2), (4, .int x3)] := hl
  have hown : s.vm.findClass RX4 = some m.cls := hown
  have hcs : 0 ≤ R.cells ∧ 0 ≤ R.slots := ⟨Nat.zero_le _, Nat.zero_le _⟩
  have lk0 := hts (.fieldLink RX4 60 "SayingsMerged" "scale" "[J") (by decide +kernel)
  have inX4 : ∀ w ∈ wsX40, w ∈ wsX4_mergedWithTerm := by decide +kernel
  have lk2 := hts (.fieldLink RX4 57 "SayingsMerged" "others" "[J") (by decide +kernel)
  have lk3 := hts (.fieldLink RX4 44 "SayingsMerged" "distances" "LSayingsMerged$Distances;") (by decide +kernel)
  have lk4 : (Cond.fieldLinkNest RX4 122 "SayingsMerged$Distances" "lengths" "[I" "SayingsMerged").before args s = true := va_Nw.use rfl (hG.1 _ (by decide +kernel))
  have inX0 : ∀ w ∈ wsX00, w ∈ wsX4_mergedWithTerm := by decide +kernel
  have lk6 := hts (.fieldLink RX4 28 "SayingsMerged" "told" "LSayingsMerged$Told;") (by decide +kernel)
  have lk7 : (Cond.fieldLinkNest RX4 101 "SayingsMerged$Told" "there" "J" "SayingsMerged").before args s = true := va_Nw.use rfl (hG.1 _ (by decide +kernel))
  have inX3 : ∀ w ∈ wsX30, w ∈ wsX4_mergedWithTerm := by decide +kernel
  unfold zf_X4_mergedWithTerm at hf
  refine lv_iconst (v := (0 : Int32)) hx hb dX4_mergedWithTerm_0 (by decide) ?_
  refine lv_istore (lv' := [(5, .int (0 : Int32)), (0, .ref a_sm), (1, .int x0), (2, .int x1), (3, .int x2), (4, .int x3)]) hx hb dX4_mergedWithTerm_1 hl (by decide) rfl (fun ls hl => ?_)
  have lp3 : ∀ (n : Nat) (w1 : Int32) (w2 : Nat → Int64) (z3 : Int32 × (Nat → Int64)) (H : Heap) (locs : List Loc) (ls : Array Slot), zl_X4_mergedWithTerm_3 x0 x1 x2 x3 f_ds_lengths f_sm_others n w1 w2 = some z3 → va_P D vwCl [(a_sm, .inr (4, [.ref a_tx, .ref a_rd, .ref a_td, .ref a_sp, .long v_sm_asked, .ref a_ds, .ref a_sm_fars, .ref a_sm_common, .ref a_sm_others, .ref a_sm_scale, .long v_sm_traced])), (a_td, .inr (3, [.int v_td_laws, .long v_td_there, .int v_td_sayers, .ref a_td_says, .ref a_td_weights])), (a_ds, .inr (0, [.ref a_ds_costs, .int v_ds_alike, .ref a_ds_lengths])), (a_ds_lengths, .inl (cI, 64, .inl f_ds_lengths)), (a_sm_others, .inl (cJ, 64, .inr (.inl f_sm_others))), (a_sm_scale, .inl (cJ, 64, .inr (.inl w2)))] H → va_D A [(a_sm, .inr (4, [.ref a_tx, .ref a_rd, .ref a_td, .ref a_sp, .long v_sm_asked, .ref a_ds, .ref a_sm_fars, .ref a_sm_common, .ref a_sm_others, .ref a_sm_scale, .long v_sm_traced])), (a_td, .inr (3, [.int v_td_laws, .long v_td_there, .int v_td_sayers, .ref a_td_says, .ref a_td_weights])), (a_ds, .inr (0, [.ref a_ds_costs, .int v_ds_alike, .ref a_ds_lengths])), (a_ds_lengths, .inl (cI, 64, .inl f_ds_lengths)), (a_sm_others, .inl (cJ, 64, .inr (.inl f_sm_others))), (a_sm_scale, .inl (cJ, 64, .inr (.inl w2)))] → va_S A s.heap H locs → lv_has ls 7 [(0, .ref a_sm), (1, .int x0), (2, .int x1), (3, .int x2), (4, .int x3), (5, .int w1)] → (∀ (H : Heap) (locs : List Loc) (ls : Array Slot), va_P D vwCl [(a_sm, .inr (4, [.ref a_tx, .ref a_rd, .ref a_td, .ref a_sp, .long v_sm_asked, .ref a_ds, .ref a_sm_fars, .ref a_sm_common, .ref a_sm_others, .ref a_sm_scale, .long v_sm_traced])), (a_td, .inr (3, [.int v_td_laws, .long v_td_there, .int v_td_sayers, .ref a_td_says, .ref a_td_weights])), (a_ds, .inr (0, [.ref a_ds_costs, .int v_ds_alike, .ref a_ds_lengths])), (a_ds_lengths, .inl (cI, 64, .inl f_ds_lengths)), (a_sm_others, .inl (cJ, 64, .inr (.inl f_sm_others))), (a_sm_scale, .inl (cJ, 64, .inr (.inl z3.2)))] H → va_D A [(a_sm, .inr (4, [.ref a_tx, .ref a_rd, .ref a_td, .ref a_sp, .long v_sm_asked, .ref a_ds, .ref a_sm_fars, .ref a_sm_common, .ref a_sm_others, .ref a_sm_scale, .long v_sm_traced])), (a_td, .inr (3, [.int v_td_laws, .long v_td_there, .int v_td_sayers, .ref a_td_says, .ref a_td_weights])), (a_ds, .inr (0, [.ref a_ds_costs, .int v_ds_alike, .ref a_ds_lengths])), (a_ds_lengths, .inl (cI, 64, .inl f_ds_lengths)), (a_sm_others, .inl (cJ, 64, .inr (.inl f_sm_others))), (a_sm_scale, .inl (cJ, 64, .inr (.inl z3.2)))] → va_S A s.heap H locs → lv_has ls 7 [(0, .ref a_sm), (1, .int x0), (2, .int x1), (3, .int x2), (4, .int x3), (5, .int z3.1)] → W p l e R s m args below meth c H locs 0 0 Q (F0 m 61 ls [])) → W p l e R s m args below meth c H locs 0 0 Q (F0 m 3 ls []) := by
    intro n
    induction n with
    | zero => intro w1 w2 z3 H locs ls hf; exact absurd (show none = some z3 from hf) (by simp)
    | succ n ih =>
      intro w1 w2 z3 H locs ls hf hP hD hS hl hk
      rw [zl_X4_mergedWithTerm_3] at hf
      refine lv_iload hx hb dX4_mergedWithTerm_3 (lv_at hl 5 rfl) ?_
      refine lv_bipush (v := (64 : Int32)) hx hb dX4_mergedWithTerm_5 (by decide) ?_
      refine lv_icmp_ge (tgt := 61) hx hb dX4_mergedWithTerm_7 (by decide) (fun c8 => ?_) (fun c8 => ?_)
      · have hf := zk_t c8 hf
        obtain rfl := Option.some.inj hf
        exact hk _ _ _ hP hD hS (lv_sub hl [0, 1, 2, 3, 4, 5] rfl)
      · have hf := zk_f c8 hf
        refine lv_iload_n hx hb dX4_mergedWithTerm_10 rfl (lv_at hl 3 rfl) ?_
        refine lv_iload hx hb dX4_mergedWithTerm_11 (lv_at hl 5 rfl) ?_
        refine lv_iconst (v := (-1 : Int32)) hx hb dX4_mergedWithTerm_13 (by decide) ?_
        refine lv_ixor hx hb dX4_mergedWithTerm_14 ?_
        refine lv_iand hx hb dX4_mergedWithTerm_15 ?_
        refine lv_iload hx hb dX4_mergedWithTerm_16 (lv_at hl 4 rfl) ?_
        refine lv_iload hx hb dX4_mergedWithTerm_18 (lv_at hl 5 rfl) ?_
        refine lv_iand hx hb dX4_mergedWithTerm_20 ?_
        refine lv_ior hx hb dX4_mergedWithTerm_21 ?_
        obtain ⟨y3, ey3, hf⟩ := zk_lt_s hf
        refine zk_topi ey3 ?_
        refine lv_istore (lv' := [(6, .int y3), (0, .ref a_sm), (1, .int x0), (2, .int x1), (3, .int x2), (4, .int x3), (5, .int w1)]) hx hb dX4_mergedWithTerm_22 hl (by decide) rfl (fun ls hl => ?_)
        refine lv_aload_n hx hb dX4_mergedWithTerm_24 rfl (lv_at hl 1 rfl) ?_
        refine va_get (ci := 4) (v := .ref a_sm_scale) (C := RX4) (T := TX4) (N := 11) hx hb hts inX4 hown hK hP 0 rfl rfl 9 (by decide) lk0 (fun _ h9 => h9) rfl dX4_mergedWithTerm_25 ?_
        refine lv_iload hx hb dX4_mergedWithTerm_28 (lv_at hl 6 rfl) ?_
        refine lv_iload_n hx hb dX4_mergedWithTerm_30 rfl (lv_at hl 3 rfl) ?_
        refine lv_aload_n hx hb dX4_mergedWithTerm_31 rfl (lv_at hl 1 rfl) ?_
        refine va_get (ci := 4) (v := .ref a_sm_others) (C := RX4) (T := TX4) (N := 11) hx hb hts inX4 hown hK hP 0 rfl rfl 8 (by decide) lk2 (fun _ h9 => h9) rfl dX4_mergedWithTerm_32 ?_
        refine lv_iload hx hb dX4_mergedWithTerm_35 (lv_at hl 6 rfl) ?_
        obtain ⟨g4, hf⟩ := zk_gd_s hf
        refine va_lald hx hb hK hP 4 1 rfl rfl (zk_in_s g4) dX4_mergedWithTerm_37 ?_
        refine lv_iload_n hx hb dX4_mergedWithTerm_38 rfl (lv_at hl 2 rfl) ?_
        refine lv_aload_n hx hb dX4_mergedWithTerm_39 rfl (lv_at hl 1 rfl) ?_
        refine va_get (ci := 4) (v := .ref a_ds) (C := RX4) (T := TX4) (N := 11) hx hb hts inX4 hown hK hP 0 rfl rfl 5 (by decide) lk3 (fun _ h9 => h9) rfl dX4_mergedWithTerm_40 ?_
        refine va_getN (ci := 0) (v := .ref a_ds_lengths) (C := RX0) (T := TX0) (N := 3) hx hb hts inX0 hown hK hP 2 rfl rfl 2 (by decide) lk4 (fun _ h9 => h9) rfl dX4_mergedWithTerm_43 ?_
        refine lv_iload hx hb dX4_mergedWithTerm_46 (lv_at hl 0 rfl) ?_
        obtain ⟨g5, hf⟩ := zk_gd_s hf
        refine va_iald hx hb hK hP 3 0 rfl rfl (zk_in_s g5) dX4_mergedWithTerm_48 ?_
        refine lv_imul hx hb dX4_mergedWithTerm_49 ?_
        refine lv_i2l hx hb dX4_mergedWithTerm_50 rfl ?_
        obtain ⟨v6, hv6, hf⟩ := zk_ob hf
        refine zk_goR (zk_S (As := [.int x1, .long (f_sm_others w1.toNatClampNeg), .long ((x0 * (f_ds_lengths y3.toNatClampNeg)).toInt64)]) (rest := [.int w1, .ref a_sm_scale]) hx hb hml hown hts hK hG hP hD hS hA gX4_mergedWithTerm_X4_joined rfl hd_X4_joined (Nat.le_trans (Nat.le_of_ble_eq_true rfl) hRf) (Nat.le_trans (Nat.le_of_ble_eq_true rfl) hRl) hcs (zc_X4_joined l D tL tO cI cJ cB cQ x1 (f_sm_others w1.toNatClampNeg) ((x0 * (f_ds_lengths y3.toNatClampNeg)).toInt64) v6 hv6) hl.1 rfl rfl (Nat.le_of_ble_eq_true rfl) dX4_mergedWithTerm_51 [] rfl rfl) hP hD hS hA [] rfl (fun H locs hP hS => ?_)
        refine va_last hx hb hK hP hD hS 5 1 rfl rfl (zk_in_s g4) dX4_mergedWithTerm_54 (fun H locs hP hD hS => ?_)
        have hP : va_P D vwCl [(a_sm, .inr (4, [.ref a_tx, .ref a_rd, .ref a_td, .ref a_sp, .long v_sm_asked, .ref a_ds, .ref a_sm_fars, .ref a_sm_common, .ref a_sm_others, .ref a_sm_scale, .long v_sm_traced])), (a_td, .inr (3, [.int v_td_laws, .long v_td_there, .int v_td_sayers, .ref a_td_says, .ref a_td_weights])), (a_ds, .inr (0, [.ref a_ds_costs, .int v_ds_alike, .ref a_ds_lengths])), (a_ds_lengths, .inl (cI, 64, .inl f_ds_lengths)), (a_sm_others, .inl (cJ, 64, .inr (.inl f_sm_others))), (a_sm_scale, .inl (cJ, 64, .inr (.inl (vp_updL w2 w1.toNatClampNeg v6))))] H := hP
        have hD : va_D A [(a_sm, .inr (4, [.ref a_tx, .ref a_rd, .ref a_td, .ref a_sp, .long v_sm_asked, .ref a_ds, .ref a_sm_fars, .ref a_sm_common, .ref a_sm_others, .ref a_sm_scale, .long v_sm_traced])), (a_td, .inr (3, [.int v_td_laws, .long v_td_there, .int v_td_sayers, .ref a_td_says, .ref a_td_weights])), (a_ds, .inr (0, [.ref a_ds_costs, .int v_ds_alike, .ref a_ds_lengths])), (a_ds_lengths, .inl (cI, 64, .inl f_ds_lengths)), (a_sm_others, .inl (cJ, 64, .inr (.inl f_sm_others))), (a_sm_scale, .inl (cJ, 64, .inr (.inl (vp_updL w2 w1.toNatClampNeg v6))))] := hD
        obtain ⟨y7, ey7, hf⟩ := zk_lt_s hf
        refine lv_iinc (v := y7) (lv' := [(5, .int y7), (6, .int y3), (0, .ref a_sm), (1, .int x0), (2, .int x1), (3, .int x2), (4, .int x3)]) hx hb dX4_mergedWithTerm_55 hl (k := 6) rfl (by rw [ey7]; rfl) (by decide) rfl (fun ls hl => ?_)
        refine lv_goto (tgt := 3) hx hb dX4_mergedWithTerm_58 (by decide) ?_
        exact ih y7 (vp_updL w2 w1.toNatClampNeg v6) _ _ _ _ hf hP hD hS (lv_sub hl [2, 3, 4, 5, 6, 0] rfl) hk
  obtain ⟨v9, hv9, hf⟩ := zk_ob hf
  refine lp3 zk_F (0 : Int32) f_sm_scale v9 _ _ _ hv9 hP hD hS (lv_sub hl [1, 2, 3, 4, 5, 0] rfl) ?_
  intro H locs ls hP hD hS hl
  refine lv_aload_n hx hb dX4_mergedWithTerm_61 rfl (lv_at hl 0 rfl) ?_
  refine va_get (ci := 4) (v := .ref a_td) (C := RX4) (T := TX4) (N := 11) hx hb hts inX4 hown hK hP 0 rfl rfl 2 (by decide) lk6 (fun _ h9 => h9) rfl dX4_mergedWithTerm_62 ?_
  refine va_getN (ci := 3) (v := .long v_td_there) (C := RX3) (T := TX3) (N := 5) hx hb hts inX3 hown hK hP 1 rfl rfl 1 (by decide) lk7 (fun _ h9 => h9) rfl dX4_mergedWithTerm_65 ?_
  refine lv_aload_n hx hb dX4_mergedWithTerm_68 rfl (lv_at hl 0 rfl) ?_
  refine va_get (ci := 4) (v := .ref a_sm_scale) (C := RX4) (T := TX4) (N := 11) hx hb hts inX4 hown hK hP 0 rfl rfl 9 (by decide) lk0 (fun _ h9 => h9) rfl dX4_mergedWithTerm_69 ?_
  obtain ⟨v10, hv10, hf⟩ := zk_ob hf
  refine zk_goR (zk_S (As := [.long v_td_there, .ref a_sm_scale]) (rest := []) hx hb hml hown hts hK hG hP hD hS hA gX4_mergedWithTerm_X4_least rfl hd_X4_least (Nat.le_trans (Nat.le_of_ble_eq_true rfl) hRf) (Nat.le_trans (Nat.le_of_ble_eq_true rfl) hRl) hcs (zc_X4_least l D tL tO cI cJ cB cQ a_sm_scale 64 v_td_there v9.2 v10 hv10) hl.1 rfl rfl (Nat.le_of_ble_eq_true rfl) dX4_mergedWithTerm_72 [5] rfl rfl) hP hD hS hA [5] rfl (fun H locs hP hS => ?_)
  obtain rfl := Option.some.inj hf
  exact hret trivial _ _ _ _ hP hD hS dX4_mergedWithTerm_75
def zl_X4_bestLie_3 (x0 : Int32) (x1 : Int32) (v_td_sayers : Int32) (f_td_weights : Nat → Int32) (f_sm_fars : Nat → Nat → Int64) : Nat → (Int32) → (Nat → Int64) → Option (Int32 × (Nat → Int64))
  | 0, _, _ => none
  | n + 1, w1, w2 =>
    if (64 : Int32) ≤ w1 then
    some (w1, w2)
    else
    (zf_X4_weighed x1 w1 x0 v_td_sayers f_td_weights f_sm_fars).bind (fun v3 =>
    zk_gd (zk_in w1 64)
    (zk_lt (w1 + 1) (fun y5 =>
    zl_X4_bestLie_3 x0 x1 v_td_sayers f_td_weights f_sm_fars n y5 (vp_updL w2 w1.toNatClampNeg v3))))
def zl_X4_bestLie_46 (x0 : Int32) (x1 : Int32) (v_td_there : Int64) (f_td_weights : Nat → Int32) (f_ds_lengths : Nat → Int32) (f_sm_fars : Nat → Nat → Int64) (v7 : Int32 × (Nat → Int64)) : Nat → (Int64) → (Int32) → (Int32) → (Nat → Int64) → Option (Int64 × Int32 × Int32 × (Nat → Int64))
  | 0, _, _, _, _ => none
  | n + 1, w8, w9, w10, w11 =>
    if (4096 : Int32) ≤ w10 then
    some (w8, w9, w10, w11)
    else
    if (lg_cmp w8 (0 : Int64)) ≤ 0 then
    some (w8, w9, w10, w11)
    else
    zk_gd (zk_nz (64 : Int32))
    (zk_lt (w10 / (64 : Int32)) (fun y13 =>
    zk_lt (w10 - w10 / (64 : Int32) * (64 : Int32)) (fun y14 =>
    if (y13 &&& y14) = 0 then
    zk_gd (zk_in x0 7)
    ((zf_X4_mergedWithTerm (f_td_weights x0.toNatClampNeg) x1 y13 y14 v_td_there f_ds_lengths v7.2 w11).bind (fun v17 =>
    (zf_X4_lossOf x0 v17.1 f_sm_fars).bind (fun v18 =>
    if 0 ≤ (lg_cmp v18 w8) then
    zk_lt (w10 + 1) (fun y19 =>
    zl_X4_bestLie_46 x0 x1 v_td_there f_td_weights f_ds_lengths f_sm_fars v7 n w8 w9 y19 v17.2)
    else
    zk_lt (w10 + 1) (fun y20 =>
    zl_X4_bestLie_46 x0 x1 v_td_there f_td_weights f_ds_lengths f_sm_fars v7 n v18 w10 y20 v17.2))))
    else
    zk_lt (w10 + 1) (fun y15 =>
    zl_X4_bestLie_46 x0 x1 v_td_there f_td_weights f_ds_lengths f_sm_fars v7 n w8 w9 y15 w11))))
def zf_X4_bestLie (x0 : Int32) (x1 : Int32) (x2 : Int64) (x3 : Int32) (v_td_there : Int64) (v_td_sayers : Int32) (f_td_weights : Nat → Int32) (f_ds_lengths : Nat → Int32) (f_sm_fars : Nat → Nat → Int64) (f_sm_others : Nat → Int64) (f_sm_scale : Nat → Int64) : Option (Int32 × (Nat → Int64) × (Nat → Int64)) :=
  (zl_X4_bestLie_3 x0 x1 v_td_sayers f_td_weights f_sm_fars zk_F (0 : Int32) f_sm_others).bind (fun v7 =>
  (zl_X4_bestLie_46 x0 x1 v_td_there f_td_weights f_ds_lengths f_sm_fars v7 zk_F x2 (-9 : Int32) (0 : Int32) f_sm_scale).bind (fun v25 =>
  if x3 = 0 then
  some (v25.2.1, v7.2, v25.2.2.2)
  else
  if v25.2.1 = (-9 : Int32) then
  some (v25.2.1, v7.2, v25.2.2.2)
  else
  some (v25.1.toInt32, v7.2, v25.2.2.2)))
theorem hd_X4_bestLie : yX4_bestLie.cls = RX4 ∧ yX4_bestLie.cls ≠ "java/lang/invoke/MethodHandle" ∧ yX4_bestLie.cls ≠ "java/lang/invoke/VarHandle" ∧ (parseMethodDescriptor yX4_bestLie.desc).map (fun d => d.parameters.length) = some 4 := by decide +kernel
set_option maxHeartbeats 4000000 in
set_option maxRecDepth 100000 in
theorem zc_X4_bestLie (l : Launch) (D : va_G) (tL tO : Nat) (cI cJ cB cQ : ClassId) (a_sm a_tx a_rd a_td a_sp a_ds a_sm_fars a_sm_common a_sm_others a_sm_scale a_td_says a_td_weights a_ds_costs a_ds_lengths : Nat) (r_sm_fars : Nat → Nat) (x0 : Int32) (x1 : Int32) (x2 : Int64) (x3 : Int32) (v_sm_asked : Int64) (v_sm_traced : Int64) (v_td_laws : Int32) (v_td_there : Int64) (v_td_sayers : Int32) (f_td_weights : Nat → Int32) (v_ds_alike : Int32) (f_ds_lengths : Nat → Int32) (f_sm_fars : Nat → Nat → Int64) (f_sm_others : Nat → Int64) (f_sm_scale : Nat → Int64) (z : Int32 × (Nat → Int64) × (Nat → Int64)) (hf : zf_X4_bestLie x0 x1 x2 x3 v_td_there v_td_sayers f_td_weights f_ds_lengths f_sm_fars f_sm_others f_sm_scale = some z) : zk_CT l D tL tO (zk_ty cI cJ cB cQ) yX4_bestLie wsX4_bestLie 3 78 [.ref a_sm, .int x0, .int x1, .long x2, .int x3] (some (.int z.1)) [(a_sm, .inr (4, [.ref a_tx, .ref a_rd, .ref a_td, .ref a_sp, .long v_sm_asked, .ref a_ds, .ref a_sm_fars, .ref a_sm_common, .ref a_sm_others, .ref a_sm_scale, .long v_sm_traced])), (a_td, .inr (3, [.int v_td_laws, .long v_td_there, .int v_td_sayers, .ref a_td_says, .ref a_td_weights])), (a_td_weights, .inl (cI, 7, .inl f_td_weights)), (a_ds, .inr (0, [.ref a_ds_costs, .int v_ds_alike, .ref a_ds_lengths])), (a_ds_lengths, .inl (cI, 64, .inl f_ds_lengths)), (a_sm_fars, .inl (cQ, 7, .inr (.inr (.inr (.inr (fun i => if i < 7 then some (r_sm_fars i) else none)))))), ((r_sm_fars 0), .inl (cJ, 64, .inr (.inl (f_sm_fars 0)))), ((r_sm_fars 1), .inl (cJ, 64, .inr (.inl (f_sm_fars 1)))), ((r_sm_fars 2), .inl (cJ, 64, .inr (.inl (f_sm_fars 2)))), ((r_sm_fars 3), .inl (cJ, 64, .inr (.inl (f_sm_fars 3)))), ((r_sm_fars 4), .inl (cJ, 64, .inr (.inl (f_sm_fars 4)))), ((r_sm_fars 5), .inl (cJ, 64, .inr (.inl (f_sm_fars 5)))), ((r_sm_fars 6), .inl (cJ, 64, .inr (.inl (f_sm_fars 6)))), (a_sm_others, .inl (cJ, 64, .inr (.inl f_sm_others))), (a_sm_scale, .inl (cJ, 64, .inr (.inl f_sm_scale)))] [(a_sm, .inr (4, [.ref a_tx, .ref a_rd, .ref a_td, .ref a_sp, .long v_sm_asked, .ref a_ds, .ref a_sm_fars, .ref a_sm_common, .ref a_sm_others, .ref a_sm_scale, .long v_sm_traced])), (a_td, .inr (3, [.int v_td_laws, .long v_td_there, .int v_td_sayers, .ref a_td_says, .ref a_td_weights])), (a_td_weights, .inl (cI, 7, .inl f_td_weights)), (a_ds, .inr (0, [.ref a_ds_costs, .int v_ds_alike, .ref a_ds_lengths])), (a_ds_lengths, .inl (cI, 64, .inl f_ds_lengths)), (a_sm_fars, .inl (cQ, 7, .inr (.inr (.inr (.inr (fun i => if i < 7 then some (r_sm_fars i) else none)))))), ((r_sm_fars 0), .inl (cJ, 64, .inr (.inl (f_sm_fars 0)))), ((r_sm_fars 1), .inl (cJ, 64, .inr (.inl (f_sm_fars 1)))), ((r_sm_fars 2), .inl (cJ, 64, .inr (.inl (f_sm_fars 2)))), ((r_sm_fars 3), .inl (cJ, 64, .inr (.inl (f_sm_fars 3)))), ((r_sm_fars 4), .inl (cJ, 64, .inr (.inl (f_sm_fars 4)))), ((r_sm_fars 5), .inl (cJ, 64, .inr (.inl (f_sm_fars 5)))), ((r_sm_fars 6), .inl (cJ, 64, .inr (.inl (f_sm_fars 6)))), (a_sm_others, .inl (cJ, 64, .inr (.inl z.2.1))), (a_sm_scale, .inl (cJ, 64, .inr (.inl z.2.2)))] := by
  refine zk_of_i (cc := cX4_bestLie) (maxL := 15) (by decide) rfl (Nat.le_of_ble_eq_true rfl) ?_
  intro p e R s m args below meth c A Q ls hx hb hml hRf hRl hts hown hP hK hD hA hS hG hl hret
  have hl : lv_has ls 15 [(0, .ref a_sm), (1, .int x0), (2, .int x1), (3, .long x2), (5, .int x3)] := hl
  have hown : s.vm.findClass RX4 = some m.cls := hown
  have hcs : 0 ≤ R.cells ∧ 0 ≤ R.slots := ⟨Nat.zero_le _, Nat.zero_le _⟩
  have lk0 := hts (.fieldLink RX4 57 "SayingsMerged" "others" "[J") (by decide +kernel)
  have inX4 : ∀ w ∈ wsX40, w ∈ wsX4_bestLie := by decide +kernel
  have lk2 := hts (.fieldLink RX4 28 "SayingsMerged" "told" "LSayingsMerged$Told;") (by decide +kernel)
  have lk3 : (Cond.fieldLinkNest RX4 212 "SayingsMerged$Told" "weights" "[I" "SayingsMerged").before args s = true := va_Nw.use rfl (hG.1 _ (by decide +kernel))
  have inX3 : ∀ w ∈ wsX30, w ∈ wsX4_bestLie := by decide +kernel
  unfold zf_X4_bestLie at hf
  refine lv_iconst (v := (0 : Int32)) hx hb dX4_bestLie_0 (by decide) ?_
  refine lv_istore (lv' := [(6, .int (0 : Int32)), (0, .ref a_sm), (1, .int x0), (2, .int x1), (3, .long x2), (5, .int x3)]) hx hb dX4_bestLie_1 hl (by decide) rfl (fun ls hl => ?_)
  have lp3 : ∀ (n : Nat) (w1 : Int32) (w2 : Nat → Int64) (z3 : Int32 × (Nat → Int64)) (H : Heap) (locs : List Loc) (ls : Array Slot), zl_X4_bestLie_3 x0 x1 v_td_sayers f_td_weights f_sm_fars n w1 w2 = some z3 → va_P D vwCl [(a_sm, .inr (4, [.ref a_tx, .ref a_rd, .ref a_td, .ref a_sp, .long v_sm_asked, .ref a_ds, .ref a_sm_fars, .ref a_sm_common, .ref a_sm_others, .ref a_sm_scale, .long v_sm_traced])), (a_td, .inr (3, [.int v_td_laws, .long v_td_there, .int v_td_sayers, .ref a_td_says, .ref a_td_weights])), (a_td_weights, .inl (cI, 7, .inl f_td_weights)), (a_ds, .inr (0, [.ref a_ds_costs, .int v_ds_alike, .ref a_ds_lengths])), (a_ds_lengths, .inl (cI, 64, .inl f_ds_lengths)), (a_sm_fars, .inl (cQ, 7, .inr (.inr (.inr (.inr (fun i => if i < 7 then some (r_sm_fars i) else none)))))), ((r_sm_fars 0), .inl (cJ, 64, .inr (.inl (f_sm_fars 0)))), ((r_sm_fars 1), .inl (cJ, 64, .inr (.inl (f_sm_fars 1)))), ((r_sm_fars 2), .inl (cJ, 64, .inr (.inl (f_sm_fars 2)))), ((r_sm_fars 3), .inl (cJ, 64, .inr (.inl (f_sm_fars 3)))), ((r_sm_fars 4), .inl (cJ, 64, .inr (.inl (f_sm_fars 4)))), ((r_sm_fars 5), .inl (cJ, 64, .inr (.inl (f_sm_fars 5)))), ((r_sm_fars 6), .inl (cJ, 64, .inr (.inl (f_sm_fars 6)))), (a_sm_others, .inl (cJ, 64, .inr (.inl w2))), (a_sm_scale, .inl (cJ, 64, .inr (.inl f_sm_scale)))] H → va_D A [(a_sm, .inr (4, [.ref a_tx, .ref a_rd, .ref a_td, .ref a_sp, .long v_sm_asked, .ref a_ds, .ref a_sm_fars, .ref a_sm_common, .ref a_sm_others, .ref a_sm_scale, .long v_sm_traced])), (a_td, .inr (3, [.int v_td_laws, .long v_td_there, .int v_td_sayers, .ref a_td_says, .ref a_td_weights])), (a_td_weights, .inl (cI, 7, .inl f_td_weights)), (a_ds, .inr (0, [.ref a_ds_costs, .int v_ds_alike, .ref a_ds_lengths])), (a_ds_lengths, .inl (cI, 64, .inl f_ds_lengths)), (a_sm_fars, .inl (cQ, 7, .inr (.inr (.inr (.inr (fun i => if i < 7 then some (r_sm_fars i) else none)))))), ((r_sm_fars 0), .inl (cJ, 64, .inr (.inl (f_sm_fars 0)))), ((r_sm_fars 1), .inl (cJ, 64, .inr (.inl (f_sm_fars 1)))), ((r_sm_fars 2), .inl (cJ, 64, .inr (.inl (f_sm_fars 2)))), ((r_sm_fars 3), .inl (cJ, 64, .inr (.inl (f_sm_fars 3)))), ((r_sm_fars 4), .inl (cJ, 64, .inr (.inl (f_sm_fars 4)))), ((r_sm_fars 5), .inl (cJ, 64, .inr (.inl (f_sm_fars 5)))), ((r_sm_fars 6), .inl (cJ, 64, .inr (.inl (f_sm_fars 6)))), (a_sm_others, .inl (cJ, 64, .inr (.inl w2))), (a_sm_scale, .inl (cJ, 64, .inr (.inl f_sm_scale)))] → va_S A s.heap H locs → lv_has ls 15 [(0, .ref a_sm), (1, .int x0), (2, .int x1), (3, .long x2), (5, .int x3), (6, .int w1)] → (∀ (H : Heap) (locs : List Loc) (ls : Array Slot), va_P D vwCl [(a_sm, .inr (4, [.ref a_tx, .ref a_rd, .ref a_td, .ref a_sp, .long v_sm_asked, .ref a_ds, .ref a_sm_fars, .ref a_sm_common, .ref a_sm_others, .ref a_sm_scale, .long v_sm_traced])), (a_td, .inr (3, [.int v_td_laws, .long v_td_there, .int v_td_sayers, .ref a_td_says, .ref a_td_weights])), (a_td_weights, .inl (cI, 7, .inl f_td_weights)), (a_ds, .inr (0, [.ref a_ds_costs, .int v_ds_alike, .ref a_ds_lengths])), (a_ds_lengths, .inl (cI, 64, .inl f_ds_lengths)), (a_sm_fars, .inl (cQ, 7, .inr (.inr (.inr (.inr (fun i => if i < 7 then some (r_sm_fars i) else none)))))), ((r_sm_fars 0), .inl (cJ, 64, .inr (.inl (f_sm_fars 0)))), ((r_sm_fars 1), .inl (cJ, 64, .inr (.inl (f_sm_fars 1)))), ((r_sm_fars 2), .inl (cJ, 64, .inr (.inl (f_sm_fars 2)))), ((r_sm_fars 3), .inl (cJ, 64, .inr (.inl (f_sm_fars 3)))), ((r_sm_fars 4), .inl (cJ, 64, .inr (.inl (f_sm_fars 4)))), ((r_sm_fars 5), .inl (cJ, 64, .inr (.inl (f_sm_fars 5)))), ((r_sm_fars 6), .inl (cJ, 64, .inr (.inl (f_sm_fars 6)))), (a_sm_others, .inl (cJ, 64, .inr (.inl z3.2))), (a_sm_scale, .inl (cJ, 64, .inr (.inl f_sm_scale)))] H → va_D A [(a_sm, .inr (4, [.ref a_tx, .ref a_rd, .ref a_td, .ref a_sp, .long v_sm_asked, .ref a_ds, .ref a_sm_fars, .ref a_sm_common, .ref a_sm_others, .ref a_sm_scale, .long v_sm_traced])), (a_td, .inr (3, [.int v_td_laws, .long v_td_there, .int v_td_sayers, .ref a_td_says, .ref a_td_weights])), (a_td_weights, .inl (cI, 7, .inl f_td_weights)), (a_ds, .inr (0, [.ref a_ds_costs, .int v_ds_alike, .ref a_ds_lengths])), (a_ds_lengths, .inl (cI, 64, .inl f_ds_lengths)), (a_sm_fars, .inl (cQ, 7, .inr (.inr (.inr (.inr (fun i => if i < 7 then some (r_sm_fars i) else none)))))), ((r_sm_fars 0), .inl (cJ, 64, .inr (.inl (f_sm_fars 0)))), ((r_sm_fars 1), .inl (cJ, 64, .inr (.inl (f_sm_fars 1)))), ((r_sm_fars 2), .inl (cJ, 64, .inr (.inl (f_sm_fars 2)))), ((r_sm_fars 3), .inl (cJ, 64, .inr (.inl (f_sm_fars 3)))), ((r_sm_fars 4), .inl (cJ, 64, .inr (.inl (f_sm_fars 4)))), ((r_sm_fars 5), .inl (cJ, 64, .inr (.inl (f_sm_fars 5)))), ((r_sm_fars 6), .inl (cJ, 64, .inr (.inl (f_sm_fars 6)))), (a_sm_others, .inl (cJ, 64, .inr (.inl z3.2))), (a_sm_scale, .inl (cJ, 64, .inr (.inl f_sm_scale)))] → va_S A s.heap H locs → lv_has ls 15 [(0, .ref a_sm), (1, .int x0), (2, .int x1), (3, .long x2), (5, .int x3), (6, .int z3.1)] → W p l e R s m args below meth c H locs 0 0 Q (F0 m 31 ls [])) → W p l e R s m args below meth c H locs 0 0 Q (F0 m 3 ls []) := by
    intro n
    induction n with
    | zero => intro w1 w2 z3 H locs ls hf; exact absurd (show none = some z3 from hf) (by simp)
    | succ n ih =>
      intro w1 w2 z3 H locs ls hf hP hD hS hl hk
      rw [zl_X4_bestLie_3] at hf
      refine lv_iload hx hb dX4_bestLie_3 (lv_at hl 5 rfl) ?_
      refine lv_bipush (v := (64 : Int32)) hx hb dX4_bestLie_5 (by decide) ?_
      refine lv_icmp_ge (tgt := 31) hx hb dX4_bestLie_7 (by decide) (fun c6 => ?_) (fun c6 => ?_)
      · have hf := zk_t c6 hf
        obtain rfl := Option.some.inj hf
        exact hk _ _ _ hP hD hS (lv_sub hl [0, 1, 2, 3, 4, 5] rfl)
      · have hf := zk_f c6 hf
        refine lv_aload_n hx hb dX4_bestLie_10 rfl (lv_at hl 0 rfl) ?_
        refine va_get (ci := 4) (v := .ref a_sm_others) (C := RX4) (T := TX4) (N := 11) hx hb hts inX4 hown hK hP 0 rfl rfl 8 (by decide) lk0 (fun _ h9 => h9) rfl dX4_bestLie_11 ?_
        refine lv_iload hx hb dX4_bestLie_14 (lv_at hl 5 rfl) ?_
        refine lv_aload_n hx hb dX4_bestLie_16 rfl (lv_at hl 0 rfl) ?_
        refine lv_iload_n hx hb dX4_bestLie_17 rfl (lv_at hl 2 rfl) ?_
        refine lv_iload hx hb dX4_bestLie_18 (lv_at hl 5 rfl) ?_
        refine lv_iload_n hx hb dX4_bestLie_20 rfl (lv_at hl 1 rfl) ?_
        obtain ⟨v3, hv3, hf⟩ := zk_ob hf
        refine zk_goR (zk_V (As := [.int x1, .int w1, .int x0]) (rest := [.int w1, .ref a_sm_others]) hx hb hml hown hts hK hG hP hD hS hA gX4_bestLie_X4_weighed rfl hd_X4_weighed (Nat.le_trans (Nat.le_of_ble_eq_true rfl) hRf) (Nat.le_trans (Nat.le_of_ble_eq_true rfl) hRl) hcs (zc_X4_weighed l D tL tO cI cJ cB cQ a_sm a_tx a_rd a_td a_sp a_ds a_sm_fars a_sm_common a_sm_others a_sm_scale a_td_says a_td_weights r_sm_fars x1 w1 x0 v_sm_asked v_sm_traced v_td_laws v_td_there v_td_sayers f_td_weights f_sm_fars v3 hv3) rfl rfl 0 rfl hl.1 rfl rfl (Nat.le_of_ble_eq_true rfl) dX4_bestLie_21 [0, 1, 2, 5, 6, 7, 8, 9, 10, 11, 12] rfl rfl) hP hD hS hA [0, 1, 2, 5, 6, 7, 8, 9, 10, 11, 12] rfl (fun H locs hP hS => ?_)
        obtain ⟨g4, hf⟩ := zk_gd_s hf
        refine va_last hx hb hK hP hD hS 13 1 rfl rfl (zk_in_s g4) dX4_bestLie_24 (fun H locs hP hD hS => ?_)
        have hP : va_P D vwCl [(a_sm, .inr (4, [.ref a_tx, .ref a_rd, .ref a_td, .ref a_sp, .long v_sm_asked, .ref a_ds, .ref a_sm_fars, .ref a_sm_common, .ref a_sm_others, .ref a_sm_scale, .long v_sm_traced])), (a_td, .inr (3, [.int v_td_laws, .long v_td_there, .int v_td_sayers, .ref a_td_says, .ref a_td_weights])), (a_td_weights, .inl (cI, 7, .inl f_td_weights)), (a_ds, .inr (0, [.ref a_ds_costs, .int v_ds_alike, .ref a_ds_lengths])), (a_ds_lengths, .inl (cI, 64, .inl f_ds_lengths)), (a_sm_fars, .inl (cQ, 7, .inr (.inr (.inr (.inr (fun i => if i < 7 then some (r_sm_fars i) else none)))))), ((r_sm_fars 0), .inl (cJ, 64, .inr (.inl (f_sm_fars 0)))), ((r_sm_fars 1), .inl (cJ, 64, .inr (.inl (f_sm_fars 1)))), ((r_sm_fars 2), .inl (cJ, 64, .inr (.inl (f_sm_fars 2)))), ((r_sm_fars 3), .inl (cJ, 64, .inr (.inl (f_sm_fars 3)))), ((r_sm_fars 4), .inl (cJ, 64, .inr (.inl (f_sm_fars 4)))), ((r_sm_fars 5), .inl (cJ, 64, .inr (.inl (f_sm_fars 5)))), ((r_sm_fars 6), .inl (cJ, 64, .inr (.inl (f_sm_fars 6)))), (a_sm_others, .inl (cJ, 64, .inr (.inl (vp_updL w2 w1.toNatClampNeg v3)))), (a_sm_scale, .inl (cJ, 64, .inr (.inl f_sm_scale)))] H := hP
        have hD : va_D A [(a_sm, .inr (4, [.ref a_tx, .ref a_rd, .ref a_td, .ref a_sp, .long v_sm_asked, .ref a_ds, .ref a_sm_fars, .ref a_sm_common, .ref a_sm_others, .ref a_sm_scale, .long v_sm_traced])), (a_td, .inr (3, [.int v_td_laws, .long v_td_there, .int v_td_sayers, .ref a_td_says, .ref a_td_weights])), (a_td_weights, .inl (cI, 7, .inl f_td_weights)), (a_ds, .inr (0, [.ref a_ds_costs, .int v_ds_alike, .ref a_ds_lengths])), (a_ds_lengths, .inl (cI, 64, .inl f_ds_lengths)), (a_sm_fars, .inl (cQ, 7, .inr (.inr (.inr (.inr (fun i => if i < 7 then some (r_sm_fars i) else none)))))), ((r_sm_fars 0), .inl (cJ, 64, .inr (.inl (f_sm_fars 0)))), ((r_sm_fars 1), .inl (cJ, 64, .inr (.inl (f_sm_fars 1)))), ((r_sm_fars 2), .inl (cJ, 64, .inr (.inl (f_sm_fars 2)))), ((r_sm_fars 3), .inl (cJ, 64, .inr (.inl (f_sm_fars 3)))), ((r_sm_fars 4), .inl (cJ, 64, .inr (.inl (f_sm_fars 4)))), ((r_sm_fars 5), .inl (cJ, 64, .inr (.inl (f_sm_fars 5)))), ((r_sm_fars 6), .inl (cJ, 64, .inr (.inl (f_sm_fars 6)))), (a_sm_others, .inl (cJ, 64, .inr (.inl (vp_updL w2 w1.toNatClampNeg v3)))), (a_sm_scale, .inl (cJ, 64, .inr (.inl f_sm_scale)))] := hD
        obtain ⟨y5, ey5, hf⟩ := zk_lt_s hf
        refine lv_iinc (v := y5) (lv' := [(6, .int y5), (0, .ref a_sm), (1, .int x0), (2, .int x1), (3, .long x2), (5, .int x3)]) hx hb dX4_bestLie_25 hl (k := 5) rfl (by rw [ey5]; rfl) (by decide) rfl (fun ls hl => ?_)
        refine lv_goto (tgt := 3) hx hb dX4_bestLie_28 (by decide) ?_
        exact ih y5 (vp_updL w2 w1.toNatClampNeg v3) _ _ _ _ hf hP hD hS (lv_sub hl [1, 2, 3, 4, 5, 0] rfl) hk
  obtain ⟨v7, hv7, hf⟩ := zk_ob hf
  refine lp3 zk_F (0 : Int32) f_sm_others v7 _ _ _ hv7 hP hD hS (lv_sub hl [1, 2, 3, 4, 5, 0] rfl) ?_
  intro H locs ls hP hD hS hl
  refine lv_lload_n hx hb dX4_bestLie_31 rfl (lv_at hl 3 rfl) ?_
  refine lv_lstore (lv' := [(6, .long x2), (0, .ref a_sm), (1, .int x0), (2, .int x1), (3, .long x2), (5, .int x3)]) hx hb dX4_bestLie_32 hl (by decide) rfl (fun ls hl => ?_)
  refine lv_bipush (v := (-9 : Int32)) hx hb dX4_bestLie_34 (by decide) ?_
  refine lv_istore (lv' := [(8, .int (-9 : Int32)), (6, .long x2), (0, .ref a_sm), (1, .int x0), (2, .int x1), (3, .long x2), (5, .int x3)]) hx hb dX4_bestLie_36 hl (by decide) rfl (fun ls hl => ?_)
  refine lv_sipush (v := (4096 : Int32)) hx hb dX4_bestLie_38 (by decide) ?_
  refine lv_istore (lv' := [(9, .int (4096 : Int32)), (8, .int (-9 : Int32)), (6, .long x2), (0, .ref a_sm), (1, .int x0), (2, .int x1), (3, .long x2), (5, .int x3)]) hx hb dX4_bestLie_41 hl (by decide) rfl (fun ls hl => ?_)
  refine lv_iconst (v := (0 : Int32)) hx hb dX4_bestLie_43 (by decide) ?_
  refine lv_istore (lv' := [(10, .int (0 : Int32)), (9, .int (4096 : Int32)), (8, .int (-9 : Int32)), (6, .long x2), (0, .ref a_sm), (1, .int x0), (2, .int x1), (3, .long x2), (5, .int x3)]) hx hb dX4_bestLie_44 hl (by decide) rfl (fun ls hl => ?_)
  have lp46 : ∀ (n : Nat) (w8 : Int64) (w9 : Int32) (w10 : Int32) (w11 : Nat → Int64) (z46 : Int64 × Int32 × Int32 × (Nat → Int64)) (H : Heap) (locs : List Loc) (ls : Array Slot), zl_X4_bestLie_46 x0 x1 v_td_there f_td_weights f_ds_lengths f_sm_fars v7 n w8 w9 w10 w11 = some z46 → va_P D vwCl [(a_sm, .inr (4, [.ref a_tx, .ref a_rd, .ref a_td, .ref a_sp, .long v_sm_asked, .ref a_ds, .ref a_sm_fars, .ref a_sm_common, .ref a_sm_others, .ref a_sm_scale, .long v_sm_traced])), (a_td, .inr (3, [.int v_td_laws, .long v_td_there, .int v_td_sayers, .ref a_td_says, .ref a_td_weights])), (a_td_weights, .inl (cI, 7, .inl f_td_weights)), (a_ds, .inr (0, [.ref a_ds_costs, .int v_ds_alike, .ref a_ds_lengths])), (a_ds_lengths, .inl (cI, 64, .inl f_ds_lengths)), (a_sm_fars, .inl (cQ, 7, .inr (.inr (.inr (.inr (fun i => if i < 7 then some (r_sm_fars i) else none)))))), ((r_sm_fars 0), .inl (cJ, 64, .inr (.inl (f_sm_fars 0)))), ((r_sm_fars 1), .inl (cJ, 64, .inr (.inl (f_sm_fars 1)))), ((r_sm_fars 2), .inl (cJ, 64, .inr (.inl (f_sm_fars 2)))), ((r_sm_fars 3), .inl (cJ, 64, .inr (.inl (f_sm_fars 3)))), ((r_sm_fars 4), .inl (cJ, 64, .inr (.inl (f_sm_fars 4)))), ((r_sm_fars 5), .inl (cJ, 64, .inr (.inl (f_sm_fars 5)))), ((r_sm_fars 6), .inl (cJ, 64, .inr (.inl (f_sm_fars 6)))), (a_sm_others, .inl (cJ, 64, .inr (.inl v7.2))), (a_sm_scale, .inl (cJ, 64, .inr (.inl w11)))] H → va_D A [(a_sm, .inr (4, [.ref a_tx, .ref a_rd, .ref a_td, .ref a_sp, .long v_sm_asked, .ref a_ds, .ref a_sm_fars, .ref a_sm_common, .ref a_sm_others, .ref a_sm_scale, .long v_sm_traced])), (a_td, .inr (3, [.int v_td_laws, .long v_td_there, .int v_td_sayers, .ref a_td_says, .ref a_td_weights])), (a_td_weights, .inl (cI, 7, .inl f_td_weights)), (a_ds, .inr (0, [.ref a_ds_costs, .int v_ds_alike, .ref a_ds_lengths])), (a_ds_lengths, .inl (cI, 64, .inl f_ds_lengths)), (a_sm_fars, .inl (cQ, 7, .inr (.inr (.inr (.inr (fun i => if i < 7 then some (r_sm_fars i) else none)))))), ((r_sm_fars 0), .inl (cJ, 64, .inr (.inl (f_sm_fars 0)))), ((r_sm_fars 1), .inl (cJ, 64, .inr (.inl (f_sm_fars 1)))), ((r_sm_fars 2), .inl (cJ, 64, .inr (.inl (f_sm_fars 2)))), ((r_sm_fars 3), .inl (cJ, 64, .inr (.inl (f_sm_fars 3)))), ((r_sm_fars 4), .inl (cJ, 64, .inr (.inl (f_sm_fars 4)))), ((r_sm_fars 5), .inl (cJ, 64, .inr (.inl (f_sm_fars 5)))), ((r_sm_fars 6), .inl (cJ, 64, .inr (.inl (f_sm_fars 6)))), (a_sm_others, .inl (cJ, 64, .inr (.inl v7.2))), (a_sm_scale, .inl (cJ, 64, .inr (.inl w11)))] → va_S A s.heap H locs → lv_has ls 15 [(0, .ref a_sm), (1, .int x0), (2, .int x1), (3, .long x2), (5, .int x3), (6, .long w8), (8, .int w9), (9, .int (4096 : Int32)), (10, .int w10)] → (∀ (H : Heap) (locs : List Loc) (ls : Array Slot), va_P D vwCl [(a_sm, .inr (4, [.ref a_tx, .ref a_rd, .ref a_td, .ref a_sp, .long v_sm_asked, .ref a_ds, .ref a_sm_fars, .ref a_sm_common, .ref a_sm_others, .ref a_sm_scale, .long v_sm_traced])), (a_td, .inr (3, [.int v_td_laws, .long v_td_there, .int v_td_sayers, .ref a_td_says, .ref a_td_weights])), (a_td_weights, .inl (cI, 7, .inl f_td_weights)), (a_ds, .inr (0, [.ref a_ds_costs, .int v_ds_alike, .ref a_ds_lengths])), (a_ds_lengths, .inl (cI, 64, .inl f_ds_lengths)), (a_sm_fars, .inl (cQ, 7, .inr (.inr (.inr (.inr (fun i => if i < 7 then some (r_sm_fars i) else none)))))), ((r_sm_fars 0), .inl (cJ, 64, .inr (.inl (f_sm_fars 0)))), ((r_sm_fars 1), .inl (cJ, 64, .inr (.inl (f_sm_fars 1)))), ((r_sm_fars 2), .inl (cJ, 64, .inr (.inl (f_sm_fars 2)))), ((r_sm_fars 3), .inl (cJ, 64, .inr (.inl (f_sm_fars 3)))), ((r_sm_fars 4), .inl (cJ, 64, .inr (.inl (f_sm_fars 4)))), ((r_sm_fars 5), .inl (cJ, 64, .inr (.inl (f_sm_fars 5)))), ((r_sm_fars 6), .inl (cJ, 64, .inr (.inl (f_sm_fars 6)))), (a_sm_others, .inl (cJ, 64, .inr (.inl v7.2))), (a_sm_scale, .inl (cJ, 64, .inr (.inl z46.2.2.2)))] H → va_D A [(a_sm, .inr (4, [.ref a_tx, .ref a_rd, .ref a_td, .ref a_sp, .long v_sm_asked, .ref a_ds, .ref a_sm_fars, .ref a_sm_common, .ref a_sm_others, .ref a_sm_scale, .long v_sm_traced])), (a_td, .inr (3, [.int v_td_laws, .long v_td_there, .int v_td_sayers, .ref a_td_says, .ref a_td_weights])), (a_td_weights, .inl (cI, 7, .inl f_td_weights)), (a_ds, .inr (0, [.ref a_ds_costs, .int v_ds_alike, .ref a_ds_lengths])), (a_ds_lengths, .inl (cI, 64, .inl f_ds_lengths)), (a_sm_fars, .inl (cQ, 7, .inr (.inr (.inr (.inr (fun i => if i < 7 then some (r_sm_fars i) else none)))))), ((r_sm_fars 0), .inl (cJ, 64, .inr (.inl (f_sm_fars 0)))), ((r_sm_fars 1), .inl (cJ, 64, .inr (.inl (f_sm_fars 1)))), ((r_sm_fars 2), .inl (cJ, 64, .inr (.inl (f_sm_fars 2)))), ((r_sm_fars 3), .inl (cJ, 64, .inr (.inl (f_sm_fars 3)))), ((r_sm_fars 4), .inl (cJ, 64, .inr (.inl (f_sm_fars 4)))), ((r_sm_fars 5), .inl (cJ, 64, .inr (.inl (f_sm_fars 5)))), ((r_sm_fars 6), .inl (cJ, 64, .inr (.inl (f_sm_fars 6)))), (a_sm_others, .inl (cJ, 64, .inr (.inl v7.2))), (a_sm_scale, .inl (cJ, 64, .inr (.inl z46.2.2.2)))] → va_S A s.heap H locs → lv_has ls 15 [(0, .ref a_sm), (1, .int x0), (2, .int x1), (3, .long x2), (5, .int x3), (6, .long z46.1), (8, .int z46.2.1), (9, .int (4096 : Int32)), (10, .int z46.2.2.1)] → W p l e R s m args below meth c H locs 0 0 Q (F0 m 129 ls [])) → W p l e R s m args below meth c H locs 0 0 Q (F0 m 46 ls []) := by
    intro n
    induction n with
    | zero => intro w8 w9 w10 w11 z46 H locs ls hf; exact absurd (show none = some z46 from hf) (by simp)
    | succ n ih =>
      intro w8 w9 w10 w11 z46 H locs ls hf hP hD hS hl hk
      rw [zl_X4_bestLie_46] at hf
      refine lv_iload hx hb dX4_bestLie_46 (lv_at hl 8 rfl) ?_
      refine lv_iload hx hb dX4_bestLie_48 (lv_at hl 7 rfl) ?_
      refine lv_icmp_ge (tgt := 129) hx hb dX4_bestLie_50 (by decide) (fun c24 => ?_) (fun c24 => ?_)
      · have hf := zk_t c24 hf
        obtain rfl := Option.some.inj hf
        exact hk _ _ _ hP hD hS (lv_sub hl [0, 1, 2, 3, 4, 5, 6, 7, 8] rfl)
      · have hf := zk_f c24 hf
        refine lv_lload hx hb dX4_bestLie_53 (lv_at hl 5 rfl) ?_
        refine lv_lconst (v := (0 : Int64)) hx hb dX4_bestLie_55 (by decide) ?_
        refine W.lcmp hx hb dX4_bestLie_56 ?_
        refine lv_if_le (tgt := 129) hx hb dX4_bestLie_57 (by decide) (fun c23 => ?_) (fun c23 => ?_)
        · have hf := zk_t c23 hf
          obtain rfl := Option.some.inj hf
          exact hk _ _ _ hP hD hS (lv_sub hl [0, 1, 2, 3, 4, 5, 6, 7, 8] rfl)
        · have hf := zk_f c23 hf
          refine lv_iload hx hb dX4_bestLie_60 (lv_at hl 8 rfl) ?_
          refine lv_bipush (v := (64 : Int32)) hx hb dX4_bestLie_62 (by decide) ?_
          obtain ⟨g12, hf⟩ := zk_gd_s hf
          refine lv_idiv hx hb dX4_bestLie_64 (zk_nz_s g12) ?_
          obtain ⟨y13, ey13, hf⟩ := zk_lt_s hf
          refine zk_topi ey13 ?_
          refine lv_istore (lv' := [(11, .int y13), (0, .ref a_sm), (1, .int x0), (2, .int x1), (3, .long x2), (5, .int x3), (6, .long w8), (8, .int w9), (9, .int (4096 : Int32)), (10, .int w10)]) hx hb dX4_bestLie_65 hl (by decide) rfl (fun ls hl => ?_)
          refine lv_iload hx hb dX4_bestLie_67 (lv_at hl 9 rfl) ?_
          refine lv_bipush (v := (64 : Int32)) hx hb dX4_bestLie_69 (by decide) ?_
          refine lv_irem hx hb dX4_bestLie_71 (zk_nz_s g12) ?_
          obtain ⟨y14, ey14, hf⟩ := zk_lt_s hf
          refine zk_topi ey14 ?_
          refine lv_istore (lv' := [(12, .int y14), (11, .int y13), (0, .ref a_sm), (1, .int x0), (2, .int x1), (3, .long x2), (5, .int x3), (6, .long w8), (8, .int w9), (9, .int (4096 : Int32)), (10, .int w10)]) hx hb dX4_bestLie_72 hl (by decide) rfl (fun ls hl => ?_)
          refine lv_iload hx hb dX4_bestLie_74 (lv_at hl 1 rfl) ?_
          refine lv_iload hx hb dX4_bestLie_76 (lv_at hl 0 rfl) ?_
          refine lv_iand hx hb dX4_bestLie_78 ?_
          refine lv_if_ne (tgt := 123) hx hb dX4_bestLie_79 (by decide) (fun c22 => ?_) (fun c22 => ?_)
          · have hf := zk_f c22 hf
            obtain ⟨y15, ey15, hf⟩ := zk_lt_s hf
            refine lv_iinc (v := y15) (lv' := [(10, .int y15), (12, .int y14), (11, .int y13), (0, .ref a_sm), (1, .int x0), (2, .int x1), (3, .long x2), (5, .int x3), (6, .long w8), (8, .int w9), (9, .int (4096 : Int32))]) hx hb dX4_bestLie_123 hl (k := 10) rfl (by rw [ey15]; rfl) (by decide) rfl (fun ls hl => ?_)
            refine lv_goto (tgt := 46) hx hb dX4_bestLie_126 (by decide) ?_
            exact ih w8 w9 y15 w11 _ _ _ _ hf hP hD hS (lv_sub hl [3, 4, 5, 6, 7, 8, 9, 10, 0] rfl) hk
          · have hf := zk_t c22 hf
            refine lv_aload_n hx hb dX4_bestLie_82 rfl (lv_at hl 2 rfl) ?_
            refine lv_iload_n hx hb dX4_bestLie_83 rfl (lv_at hl 3 rfl) ?_
            refine lv_aload_n hx hb dX4_bestLie_84 rfl (lv_at hl 2 rfl) ?_
            refine lv_aload_n hx hb dX4_bestLie_85 rfl (lv_at hl 2 rfl) ?_
            refine va_get (ci := 4) (v := .ref a_td) (C := RX4) (T := TX4) (N := 11) hx hb hts inX4 hown hK hP 0 rfl rfl 2 (by decide) lk2 (fun _ h9 => h9) rfl dX4_bestLie_86 ?_
            refine va_getN (ci := 3) (v := .ref a_td_weights) (C := RX3) (T := TX3) (N := 5) hx hb hts inX3 hown hK hP 1 rfl rfl 4 (by decide) lk3 (fun _ h9 => h9) rfl dX4_bestLie_89 ?_
            refine lv_iload_n hx hb dX4_bestLie_92 rfl (lv_at hl 3 rfl) ?_
            obtain ⟨g16, hf⟩ := zk_gd_s hf
            refine va_iald hx hb hK hP 2 0 rfl rfl (zk_in_s g16) dX4_bestLie_93 ?_
            refine lv_iload_n hx hb dX4_bestLie_94 rfl (lv_at hl 4 rfl) ?_
            refine lv_iload hx hb dX4_bestLie_95 (lv_at hl 1 rfl) ?_
            refine lv_iload hx hb dX4_bestLie_97 (lv_at hl 0 rfl) ?_
            obtain ⟨v17, hv17, hf⟩ := zk_ob hf
            refine zk_go (wr := [(a_td_weights, .inl (cI, 7, .inl f_td_weights)), (a_sm_fars, .inl (cQ, 7, .inr (.inr (.inr (.inr (fun i => if i < 7 then some (r_sm_fars i) else none)))))), ((r_sm_fars 0), .inl (cJ, 64, .inr (.inl (f_sm_fars 0)))), ((r_sm_fars 1), .inl (cJ, 64, .inr (.inl (f_sm_fars 1)))), ((r_sm_fars 2), .inl (cJ, 64, .inr (.inl (f_sm_fars 2)))), ((r_sm_fars 3), .inl (cJ, 64, .inr (.inl (f_sm_fars 3)))), ((r_sm_fars 4), .inl (cJ, 64, .inr (.inl (f_sm_fars 4)))), ((r_sm_fars 5), .inl (cJ, 64, .inr (.inl (f_sm_fars 5)))), ((r_sm_fars 6), .inl (cJ, 64, .inr (.inl (f_sm_fars 6))))]) (w2 := [(a_sm, .inr (4, [.ref a_tx, .ref a_rd, .ref a_td, .ref a_sp, .long v_sm_asked, .ref a_ds, .ref a_sm_fars, .ref a_sm_common, .ref a_sm_others, .ref a_sm_scale, .long v_sm_traced])), (a_td, .inr (3, [.int v_td_laws, .long v_td_there, .int v_td_sayers, .ref a_td_says, .ref a_td_weights])), (a_td_weights, .inl (cI, 7, .inl f_td_weights)), (a_ds, .inr (0, [.ref a_ds_costs, .int v_ds_alike, .ref a_ds_lengths])), (a_ds_lengths, .inl (cI, 64, .inl f_ds_lengths)), (a_sm_fars, .inl (cQ, 7, .inr (.inr (.inr (.inr (fun i => if i < 7 then some (r_sm_fars i) else none)))))), ((r_sm_fars 0), .inl (cJ, 64, .inr (.inl (f_sm_fars 0)))), ((r_sm_fars 1), .inl (cJ, 64, .inr (.inl (f_sm_fars 1)))), ((r_sm_fars 2), .inl (cJ, 64, .inr (.inl (f_sm_fars 2)))), ((r_sm_fars 3), .inl (cJ, 64, .inr (.inl (f_sm_fars 3)))), ((r_sm_fars 4), .inl (cJ, 64, .inr (.inl (f_sm_fars 4)))), ((r_sm_fars 5), .inl (cJ, 64, .inr (.inl (f_sm_fars 5)))), ((r_sm_fars 6), .inl (cJ, 64, .inr (.inl (f_sm_fars 6)))), (a_sm_others, .inl (cJ, 64, .inr (.inl v7.2))), (a_sm_scale, .inl (cJ, 64, .inr (.inl v17.2)))]) (zk_V (As := [.int (f_td_weights x0.toNatClampNeg), .int x1, .int y13, .int y14]) (rest := [.int x0, .ref a_sm]) hx hb hml hown hts hK hG hP hD hS hA gX4_bestLie_X4_mergedWithTerm rfl hd_X4_mergedWithTerm (Nat.le_trans (Nat.le_of_ble_eq_true rfl) hRf) (Nat.le_trans (Nat.le_of_ble_eq_true rfl) hRl) hcs (zc_X4_mergedWithTerm l D tL tO cI cJ cB cQ a_sm a_tx a_rd a_td a_sp a_ds a_sm_fars a_sm_common a_sm_others a_sm_scale a_td_says a_td_weights a_ds_costs a_ds_lengths (f_td_weights x0.toNatClampNeg) x1 y13 y14 v_sm_asked v_sm_traced v_td_laws v_td_there v_td_sayers v_ds_alike f_ds_lengths v7.2 w11 v17 hv17) rfl rfl 0 rfl hl.1 rfl rfl (Nat.le_of_ble_eq_true rfl) dX4_bestLie_99 [0, 1, 3, 4, 13, 14] rfl rfl) hP hD hS hA [0, 1, 3, 4, 13, 14] [2, 5, 6, 7, 8, 9, 10, 11, 12] [9, 10, 0, 11, 12, 1, 2, 3, 4, 5, 6, 7, 8, 13, 14] rfl rfl rfl (by decide) rfl rfl (fun H locs hP hD hS => ?_)
            obtain ⟨v18, hv18, hf⟩ := zk_ob hf
            refine zk_goR (zk_V (As := [.int x0, .long v17.1]) (rest := []) hx hb hml hown hts hK hG hP hD hS hA gX4_bestLie_X4_lossOf rfl hd_X4_lossOf (Nat.le_trans (Nat.le_of_ble_eq_true rfl) hRf) (Nat.le_trans (Nat.le_of_ble_eq_true rfl) hRl) hcs (zc_X4_lossOf l D tL tO cI cJ cB cQ a_sm a_tx a_rd a_td a_sp a_ds a_sm_fars a_sm_common a_sm_others a_sm_scale r_sm_fars x0 v17.1 v_sm_asked v_sm_traced f_sm_fars v18 hv18) rfl rfl 0 rfl hl.1 rfl rfl (Nat.le_of_ble_eq_true rfl) dX4_bestLie_102 [0, 5, 6, 7, 8, 9, 10, 11, 12] rfl rfl) hP hD hS hA [0, 5, 6, 7, 8, 9, 10, 11, 12] rfl (fun H locs hP hS => ?_)
            refine lv_lstore (lv' := [(13, .long v18), (12, .int y14), (11, .int y13), (0, .ref a_sm), (1, .int x0), (2, .int x1), (3, .long x2), (5, .int x3), (6, .long w8), (8, .int w9), (9, .int (4096 : Int32)), (10, .int w10)]) hx hb dX4_bestLie_105 hl (by decide) rfl (fun ls hl => ?_)
            refine lv_lload hx hb dX4_bestLie_107 (lv_at hl 0 rfl) ?_
            refine lv_lload hx hb dX4_bestLie_109 (lv_at hl 8 rfl) ?_
            refine W.lcmp hx hb dX4_bestLie_111 ?_
            refine lv_if_ge (tgt := 123) hx hb dX4_bestLie_112 (by decide) (fun c21 => ?_) (fun c21 => ?_)
            · have hf := zk_t c21 hf
              obtain ⟨y19, ey19, hf⟩ := zk_lt_s hf
              refine lv_iinc (v := y19) (lv' := [(10, .int y19), (13, .long v18), (12, .int y14), (11, .int y13), (0, .ref a_sm), (1, .int x0), (2, .int x1), (3, .long x2), (5, .int x3), (6, .long w8), (8, .int w9), (9, .int (4096 : Int32))]) hx hb dX4_bestLie_123 hl (k := 11) rfl (by rw [ey19]; rfl) (by decide) rfl (fun ls hl => ?_)
              refine lv_goto (tgt := 46) hx hb dX4_bestLie_126 (by decide) ?_
              exact ih w8 w9 y19 v17.2 _ _ _ _ hf hP hD hS (lv_sub hl [4, 5, 6, 7, 8, 9, 10, 11, 0] rfl) hk
            · have hf := zk_f c21 hf
              refine lv_lload hx hb dX4_bestLie_115 (lv_at hl 0 rfl) ?_
              refine lv_lstore (lv' := [(6, .long v18), (13, .long v18), (12, .int y14), (11, .int y13), (0, .ref a_sm), (1, .int x0), (2, .int x1), (3, .long x2), (5, .int x3), (8, .int w9), (9, .int (4096 : Int32)), (10, .int w10)]) hx hb dX4_bestLie_117 hl (by decide) rfl (fun ls hl => ?_)
              refine lv_iload hx hb dX4_bestLie_119 (lv_at hl 11 rfl) ?_
              refine lv_istore (lv' := [(8, .int w10), (6, .long v18), (13, .long v18), (12, .int y14), (11, .int y13), (0, .ref a_sm), (1, .int x0), (2, .int x1), (3, .long x2), (5, .int x3), (9, .int (4096 : Int32)), (10, .int w10)]) hx hb dX4_bestLie_121 hl (by decide) rfl (fun ls hl => ?_)
              obtain ⟨y20, ey20, hf⟩ := zk_lt_s hf
              refine lv_iinc (v := y20) (lv' := [(10, .int y20), (8, .int w10), (6, .long v18), (13, .long v18), (12, .int y14), (11, .int y13), (0, .ref a_sm), (1, .int x0), (2, .int x1), (3, .long x2), (5, .int x3), (9, .int (4096 : Int32))]) hx hb dX4_bestLie_123 hl (k := 11) rfl (by rw [ey20]; rfl) (by decide) rfl (fun ls hl => ?_)
              refine lv_goto (tgt := 46) hx hb dX4_bestLie_126 (by decide) ?_
              exact ih v18 w10 y20 v17.2 _ _ _ _ hf hP hD hS (lv_sub hl [6, 7, 8, 9, 10, 2, 1, 11, 0] rfl) hk
  obtain ⟨v25, hv25, hf⟩ := zk_ob hf
  refine lp46 zk_F x2 (-9 : Int32) (0 : Int32) f_sm_scale v25 _ _ _ hv25 hP hD hS (lv_sub hl [4, 5, 6, 7, 8, 3, 2, 1, 0] rfl) ?_
  intro H locs ls hP hD hS hl
  refine lv_iload hx hb dX4_bestLie_129 (lv_at hl 4 rfl) ?_
  refine lv_if_eq (tgt := 147) hx hb dX4_bestLie_131 (by decide) (fun c27 => ?_) (fun c27 => ?_)
  · have hf := zk_t c27 hf
    refine lv_iload hx hb dX4_bestLie_147 (lv_at hl 6 rfl) ?_
    obtain rfl := Option.some.inj hf
    exact hret trivial _ _ _ _ hP hD hS dX4_bestLie_149
  · have hf := zk_f c27 hf
    refine lv_iload hx hb dX4_bestLie_134 (lv_at hl 6 rfl) ?_
    refine lv_bipush (v := (-9 : Int32)) hx hb dX4_bestLie_136 (by decide) ?_
    refine lv_icmp_eq (tgt := 147) hx hb dX4_bestLie_138 (by decide) (fun c26 => ?_) (fun c26 => ?_)
    · have hf := zk_t c26 hf
      refine lv_iload hx hb dX4_bestLie_147 (lv_at hl 6 rfl) ?_
      obtain rfl := Option.some.inj hf
      exact hret trivial _ _ _ _ hP hD hS dX4_bestLie_149
    · have hf := zk_f c26 hf
      refine lv_lload hx hb dX4_bestLie_141 (lv_at hl 5 rfl) ?_
      refine lv_l2i hx hb dX4_bestLie_143 rfl ?_
      refine lv_goto (tgt := 149) hx hb dX4_bestLie_144 (by decide) ?_
      obtain rfl := Option.some.inj hf
      exact hret trivial _ _ _ _ hP hD hS dX4_bestLie_149
def zf_X4_lie (x0 : Int32) (x1 : Int32) (x2 : Int32) (v_td_there : Int64) (v_td_sayers : Int32) (f_td_weights : Nat → Int32) (f_ds_lengths : Nat → Int32) (f_sm_fars : Nat → Nat → Int64) (f_sm_others : Nat → Int64) (f_sm_scale : Nat → Int64) : Option (Int32 × (Nat → Int64) × (Nat → Int64)) :=
  (zf_X4_isSayer x0 v_td_sayers).bind (fun v1 =>
  if v1 = 0 then
  some ((-1 : Int32), f_sm_others, f_sm_scale)
  else
  (zf_X4_isWay x1).bind (fun v2 =>
  if v2 = 0 then
  some ((-1 : Int32), f_sm_others, f_sm_scale)
  else
  if x2 < 0 then
  some ((-1 : Int32), f_sm_others, f_sm_scale)
  else
  if x2 ≤ (2 : Int32) then
  (zf_X4_mergedBy x1 v_td_there v_td_sayers f_td_weights f_sm_fars f_sm_scale).bind (fun v3 =>
  (zf_X4_lossOf x0 v3.1 f_sm_fars).bind (fun v4 =>
  if x2 = (2 : Int32) then
  some (v4.toInt32, f_sm_others, v3.2)
  else
  if x2 = (1 : Int32) then
  (zf_X4_bestLie x0 x1 v4 (1 : Int32) v_td_there v_td_sayers f_td_weights f_ds_lengths f_sm_fars f_sm_others v3.2).bind (fun v6 =>
  some (v6.1, v6.2.1, v6.2.2))
  else
  (zf_X4_bestLie x0 x1 v4 (0 : Int32) v_td_there v_td_sayers f_td_weights f_ds_lengths f_sm_fars f_sm_others v3.2).bind (fun v5 =>
  some (v5.1, v5.2.1, v5.2.2))))
  else
  some ((-1 : Int32), f_sm_others, f_sm_scale)))
theorem hd_X4_lie : yX4_lie.cls = RX4 ∧ yX4_lie.cls ≠ "java/lang/invoke/MethodHandle" ∧ yX4_lie.cls ≠ "java/lang/invoke/VarHandle" ∧ (parseMethodDescriptor yX4_lie.desc).map (fun d => d.parameters.length) = some 3 := by decide +kernel
set_option maxHeartbeats 4000000 in
set_option maxRecDepth 100000 in
theorem zc_X4_lie (l : Launch) (D : va_G) (tL tO : Nat) (cI cJ cB cQ : ClassId) (a_sm a_tx a_rd a_td a_sp a_ds a_sm_fars a_sm_common a_sm_others a_sm_scale a_td_says a_td_weights a_ds_costs a_ds_lengths : Nat) (r_sm_fars : Nat → Nat) (x0 : Int32) (x1 : Int32) (x2 : Int32) (v_sm_asked : Int64) (v_sm_traced : Int64) (v_td_laws : Int32) (v_td_there : Int64) (v_td_sayers : Int32) (f_td_weights : Nat → Int32) (v_ds_alike : Int32) (f_ds_lengths : Nat → Int32) (f_sm_fars : Nat → Nat → Int64) (f_sm_others : Nat → Int64) (f_sm_scale : Nat → Int64) (z : Int32 × (Nat → Int64) × (Nat → Int64)) (hf : zf_X4_lie x0 x1 x2 v_td_there v_td_sayers f_td_weights f_ds_lengths f_sm_fars f_sm_others f_sm_scale = some z) : zk_CT l D tL tO (zk_ty cI cJ cB cQ) yX4_lie wsX4_lie 4 112 [.ref a_sm, .int x0, .int x1, .int x2] (some (.int z.1)) [(a_sm, .inr (4, [.ref a_tx, .ref a_rd, .ref a_td, .ref a_sp, .long v_sm_asked, .ref a_ds, .ref a_sm_fars, .ref a_sm_common, .ref a_sm_others, .ref a_sm_scale, .long v_sm_traced])), (a_td, .inr (3, [.int v_td_laws, .long v_td_there, .int v_td_sayers, .ref a_td_says, .ref a_td_weights])), (a_td_weights, .inl (cI, 7, .inl f_td_weights)), (a_ds, .inr (0, [.ref a_ds_costs, .int v_ds_alike, .ref a_ds_lengths])), (a_ds_lengths, .inl (cI, 64, .inl f_ds_lengths)), (a_sm_fars, .inl (cQ, 7, .inr (.inr (.inr (.inr (fun i => if i < 7 then some (r_sm_fars i) else none)))))), ((r_sm_fars 0), .inl (cJ, 64, .inr (.inl (f_sm_fars 0)))), ((r_sm_fars 1), .inl (cJ, 64, .inr (.inl (f_sm_fars 1)))), ((r_sm_fars 2), .inl (cJ, 64, .inr (.inl (f_sm_fars 2)))), ((r_sm_fars 3), .inl (cJ, 64, .inr (.inl (f_sm_fars 3)))), ((r_sm_fars 4), .inl (cJ, 64, .inr (.inl (f_sm_fars 4)))), ((r_sm_fars 5), .inl (cJ, 64, .inr (.inl (f_sm_fars 5)))), ((r_sm_fars 6), .inl (cJ, 64, .inr (.inl (f_sm_fars 6)))), (a_sm_others, .inl (cJ, 64, .inr (.inl f_sm_others))), (a_sm_scale, .inl (cJ, 64, .inr (.inl f_sm_scale)))] [(a_sm, .inr (4, [.ref a_tx, .ref a_rd, .ref a_td, .ref a_sp, .long v_sm_asked, .ref a_ds, .ref a_sm_fars, .ref a_sm_common, .ref a_sm_others, .ref a_sm_scale, .long v_sm_traced])), (a_td, .inr (3, [.int v_td_laws, .long v_td_there, .int v_td_sayers, .ref a_td_says, .ref a_td_weights])), (a_td_weights, .inl (cI, 7, .inl f_td_weights)), (a_ds, .inr (0, [.ref a_ds_costs, .int v_ds_alike, .ref a_ds_lengths])), (a_ds_lengths, .inl (cI, 64, .inl f_ds_lengths)), (a_sm_fars, .inl (cQ, 7, .inr (.inr (.inr (.inr (fun i => if i < 7 then some (r_sm_fars i) else none)))))), ((r_sm_fars 0), .inl (cJ, 64, .inr (.inl (f_sm_fars 0)))), ((r_sm_fars 1), .inl (cJ, 64, .inr (.inl (f_sm_fars 1)))), ((r_sm_fars 2), .inl (cJ, 64, .inr (.inl (f_sm_fars 2)))), ((r_sm_fars 3), .inl (cJ, 64, .inr (.inl (f_sm_fars 3)))), ((r_sm_fars 4), .inl (cJ, 64, .inr (.inl (f_sm_fars 4)))), ((r_sm_fars 5), .inl (cJ, 64, .inr (.inl (f_sm_fars 5)))), ((r_sm_fars 6), .inl (cJ, 64, .inr (.inl (f_sm_fars 6)))), (a_sm_others, .inl (cJ, 64, .inr (.inl z.2.1))), (a_sm_scale, .inl (cJ, 64, .inr (.inl z.2.2)))] := by
  refine zk_of_i (cc := cX4_lie) (maxL := 6) (by decide) rfl (Nat.le_of_ble_eq_true rfl) ?_
  intro p e R s m args below meth c A Q ls hx hb hml hRf hRl hts hown hP hK hD hA hS hG hl hret
  have hl : lv_has ls 6 [(0, .ref a_sm), (1, .int x0), (2, .int x1), (3, .int x2)] := hl
  have hown : s.vm.findClass RX4 = some m.cls := hown
  have hcs : 0 ≤ R.cells ∧ 0 ≤ R.slots := ⟨Nat.zero_le _, Nat.zero_le _⟩
  unfold zf_X4_lie at hf
  refine lv_aload_n hx hb dX4_lie_0 rfl (lv_at hl 0 rfl) ?_
  refine lv_iload_n hx hb dX4_lie_1 rfl (lv_at hl 1 rfl) ?_
  obtain ⟨v1, hv1, hf⟩ := zk_ob hf
  refine zk_goR (zk_V (As := [.int x0]) (rest := []) hx hb hml hown hts hK hG hP hD hS hA gX4_lie_X4_isSayer rfl hd_X4_isSayer (Nat.le_trans (Nat.le_of_ble_eq_true rfl) hRf) (Nat.le_trans (Nat.le_of_ble_eq_true rfl) hRl) hcs (zc_X4_isSayer l D tL tO cI cJ cB cQ a_sm a_tx a_rd a_td a_sp a_ds a_sm_fars a_sm_common a_sm_others a_sm_scale a_td_says a_td_weights x0 v_sm_asked v_sm_traced v_td_laws v_td_there v_td_sayers v1 hv1) rfl rfl 0 rfl hl.1 rfl rfl (Nat.le_of_ble_eq_true rfl) dX4_lie_2 [0, 1] rfl rfl) hP hD hS hA [0, 1] rfl (fun H locs hP hS => ?_)
  refine lv_if_eq (tgt := 24) hx hb dX4_lie_5 (by decide) (fun c12 => ?_) (fun c12 => ?_)
  · have hf := zk_t c12 hf
    refine lv_iconst (v := (-1 : Int32)) hx hb dX4_lie_24 (by decide) ?_
    obtain rfl := Option.some.inj hf
    exact hret trivial _ _ _ _ hP hD hS dX4_lie_25
  · have hf := zk_f c12 hf
    refine lv_iload_n hx hb dX4_lie_8 rfl (lv_at hl 2 rfl) ?_
    obtain ⟨v2, hv2, hf⟩ := zk_ob hf
    refine zk_goR (zk_S (As := [.int x1]) (rest := []) hx hb hml hown hts hK hG hP hD hS hA gX4_lie_X4_isWay rfl hd_X4_isWay (Nat.le_trans (Nat.le_of_ble_eq_true rfl) hRf) (Nat.le_trans (Nat.le_of_ble_eq_true rfl) hRl) hcs (zc_X4_isWay l D tL tO cI cJ cB cQ x1 v2 hv2) hl.1 rfl rfl (Nat.le_of_ble_eq_true rfl) dX4_lie_9 [] rfl rfl) hP hD hS hA [] rfl (fun H locs hP hS => ?_)
    refine lv_if_eq (tgt := 24) hx hb dX4_lie_12 (by decide) (fun c11 => ?_) (fun c11 => ?_)
    · have hf := zk_t c11 hf
      refine lv_iconst (v := (-1 : Int32)) hx hb dX4_lie_24 (by decide) ?_
      obtain rfl := Option.some.inj hf
      exact hret trivial _ _ _ _ hP hD hS dX4_lie_25
    · have hf := zk_f c11 hf
      refine lv_iload_n hx hb dX4_lie_15 rfl (lv_at hl 3 rfl) ?_
      refine lv_if_lt (tgt := 24) hx hb dX4_lie_16 (by decide) (fun c10 => ?_) (fun c10 => ?_)
      · have hf := zk_t c10 hf
        refine lv_iconst (v := (-1 : Int32)) hx hb dX4_lie_24 (by decide) ?_
        obtain rfl := Option.some.inj hf
        exact hret trivial _ _ _ _ hP hD hS dX4_lie_25
      · have hf := zk_f c10 hf
        refine lv_iload_n hx hb dX4_lie_19 rfl (lv_at hl 3 rfl) ?_
        refine lv_iconst (v := (2 : Int32)) hx hb dX4_lie_20 (by decide) ?_
        refine lv_icmp_le (tgt := 26) hx hb dX4_lie_21 (by decide) (fun c9 => ?_) (fun c9 => ?_)
        · have hf := zk_t c9 hf
          refine lv_aload_n hx hb dX4_lie_26 rfl (lv_at hl 0 rfl) ?_
          refine lv_iload_n hx hb dX4_lie_27 rfl (lv_at hl 1 rfl) ?_
          refine lv_aload_n hx hb dX4_lie_28 rfl (lv_at hl 0 rfl) ?_
          refine lv_iload_n hx hb dX4_lie_29 rfl (lv_at hl 2 rfl) ?_
          obtain ⟨v3, hv3, hf⟩ := zk_ob hf
          refine zk_go (wr := [(a_ds, .inr (0, [.ref a_ds_costs, .int v_ds_alike, .ref a_ds_lengths])), (a_ds_lengths, .inl (cI, 64, .inl f_ds_lengths)), (a_sm_others, .inl (cJ, 64, .inr (.inl f_sm_others)))]) (w2 := [(a_sm, .inr (4, [.ref a_tx, .ref a_rd, .ref a_td, .ref a_sp, .long v_sm_asked, .ref a_ds, .ref a_sm_fars, .ref a_sm_common, .ref a_sm_others, .ref a_sm_scale, .long v_sm_traced])), (a_td, .inr (3, [.int v_td_laws, .long v_td_there, .int v_td_sayers, .ref a_td_says, .ref a_td_weights])), (a_td_weights, .inl (cI, 7, .inl f_td_weights)), (a_ds, .inr (0, [.ref a_ds_costs, .int v_ds_alike, .ref a_ds_lengths])), (a_ds_lengths, .inl (cI, 64, .inl f_ds_lengths)), (a_sm_fars, .inl (cQ, 7, .inr (.inr (.inr (.inr (fun i => if i < 7 then some (r_sm_fars i) else none)))))), ((r_sm_fars 0), .inl (cJ, 64, .inr (.inl (f_sm_fars 0)))), ((r_sm_fars 1), .inl (cJ, 64, .inr (.inl (f_sm_fars 1)))), ((r_sm_fars 2), .inl (cJ, 64, .inr (.inl (f_sm_fars 2)))), ((r_sm_fars 3), .inl (cJ, 64, .inr (.inl (f_sm_fars 3)))), ((r_sm_fars 4), .inl (cJ, 64, .inr (.inl (f_sm_fars 4)))), ((r_sm_fars 5), .inl (cJ, 64, .inr (.inl (f_sm_fars 5)))), ((r_sm_fars 6), .inl (cJ, 64, .inr (.inl (f_sm_fars 6)))), (a_sm_others, .inl (cJ, 64, .inr (.inl f_sm_others))), (a_sm_scale, .inl (cJ, 64, .inr (.inl v3.2)))]) (zk_V (As := [.int x1]) (rest := [.int x0, .ref a_sm]) hx hb hml hown hts hK hG hP hD hS hA gX4_lie_X4_mergedBy rfl hd_X4_mergedBy (Nat.le_trans (Nat.le_of_ble_eq_true rfl) hRf) (Nat.le_trans (Nat.le_of_ble_eq_true rfl) hRl) hcs (zc_X4_mergedBy l D tL tO cI cJ cB cQ a_sm a_tx a_rd a_td a_sp a_ds a_sm_fars a_sm_common a_sm_others a_sm_scale a_td_says a_td_weights r_sm_fars x1 v_sm_asked v_sm_traced v_td_laws v_td_there v_td_sayers f_td_weights f_sm_fars f_sm_scale v3 hv3) rfl rfl 0 rfl hl.1 rfl rfl (Nat.le_of_ble_eq_true rfl) dX4_lie_30 [0, 1, 2, 5, 6, 7, 8, 9, 10, 11, 12, 14] rfl rfl) hP hD hS hA [0, 1, 2, 5, 6, 7, 8, 9, 10, 11, 12, 14] [3, 4, 13] [3, 4, 5, 0, 1, 6, 7, 8, 9, 10, 11, 12, 13, 2, 14] rfl rfl rfl (by decide) rfl rfl (fun H locs hP hD hS => ?_)
          obtain ⟨v4, hv4, hf⟩ := zk_ob hf
          refine zk_goR (zk_V (As := [.int x0, .long v3.1]) (rest := []) hx hb hml hown hts hK hG hP hD hS hA gX4_lie_X4_lossOf rfl hd_X4_lossOf (Nat.le_trans (Nat.le_of_ble_eq_true rfl) hRf) (Nat.le_trans (Nat.le_of_ble_eq_true rfl) hRl) hcs (zc_X4_lossOf l D tL tO cI cJ cB cQ a_sm a_tx a_rd a_td a_sp a_ds a_sm_fars a_sm_common a_sm_others a_sm_scale r_sm_fars x0 v3.1 v_sm_asked v_sm_traced f_sm_fars v4 hv4) rfl rfl 0 rfl hl.1 rfl rfl (Nat.le_of_ble_eq_true rfl) dX4_lie_33 [0, 5, 6, 7, 8, 9, 10, 11, 12] rfl rfl) hP hD hS hA [0, 5, 6, 7, 8, 9, 10, 11, 12] rfl (fun H locs hP hS => ?_)
          refine lv_lstore (lv' := [(4, .long v4), (0, .ref a_sm), (1, .int x0), (2, .int x1), (3, .int x2)]) hx hb dX4_lie_36 hl (by decide) rfl (fun ls hl => ?_)
          refine lv_iload_n hx hb dX4_lie_38 rfl (lv_at hl 4 rfl) ?_
          refine lv_iconst (v := (2 : Int32)) hx hb dX4_lie_39 (by decide) ?_
          refine lv_icmp_ne (tgt := 47) hx hb dX4_lie_40 (by decide) (fun c8 => ?_) (fun c8 => ?_)
          · have hf := zk_f c8 hf
            refine lv_aload_n hx hb dX4_lie_47 rfl (lv_at hl 1 rfl) ?_
            refine lv_iload_n hx hb dX4_lie_48 rfl (lv_at hl 2 rfl) ?_
            refine lv_iload_n hx hb dX4_lie_49 rfl (lv_at hl 3 rfl) ?_
            refine lv_lload hx hb dX4_lie_50 (lv_at hl 0 rfl) ?_
            refine lv_iload_n hx hb dX4_lie_52 rfl (lv_at hl 4 rfl) ?_
            refine lv_iconst (v := (1 : Int32)) hx hb dX4_lie_53 (by decide) ?_
            refine lv_icmp_ne (tgt := 61) hx hb dX4_lie_54 (by decide) (fun c7 => ?_) (fun c7 => ?_)
            · have hf := zk_f c7 hf
              refine lv_iconst (v := (0 : Int32)) hx hb dX4_lie_61 (by decide) ?_
              obtain ⟨v5, hv5, hf⟩ := zk_ob hf
              refine zk_go (wr := []) (w2 := [(a_sm, .inr (4, [.ref a_tx, .ref a_rd, .ref a_td, .ref a_sp, .long v_sm_asked, .ref a_ds, .ref a_sm_fars, .ref a_sm_common, .ref a_sm_others, .ref a_sm_scale, .long v_sm_traced])), (a_td, .inr (3, [.int v_td_laws, .long v_td_there, .int v_td_sayers, .ref a_td_says, .ref a_td_weights])), (a_td_weights, .inl (cI, 7, .inl f_td_weights)), (a_ds, .inr (0, [.ref a_ds_costs, .int v_ds_alike, .ref a_ds_lengths])), (a_ds_lengths, .inl (cI, 64, .inl f_ds_lengths)), (a_sm_fars, .inl (cQ, 7, .inr (.inr (.inr (.inr (fun i => if i < 7 then some (r_sm_fars i) else none)))))), ((r_sm_fars 0), .inl (cJ, 64, .inr (.inl (f_sm_fars 0)))), ((r_sm_fars 1), .inl (cJ, 64, .inr (.inl (f_sm_fars 1)))), ((r_sm_fars 2), .inl (cJ, 64, .inr (.inl (f_sm_fars 2)))), ((r_sm_fars 3), .inl (cJ, 64, .inr (.inl (f_sm_fars 3)))), ((r_sm_fars 4), .inl (cJ, 64, .inr (.inl (f_sm_fars 4)))), ((r_sm_fars 5), .inl (cJ, 64, .inr (.inl (f_sm_fars 5)))), ((r_sm_fars 6), .inl (cJ, 64, .inr (.inl (f_sm_fars 6)))), (a_sm_others, .inl (cJ, 64, .inr (.inl v5.2.1))), (a_sm_scale, .inl (cJ, 64, .inr (.inl v5.2.2)))]) (zk_V (As := [.int x0, .int x1, .long v4, .int (0 : Int32)]) (rest := []) hx hb hml hown hts hK hG hP hD hS hA gX4_lie_X4_bestLie rfl hd_X4_bestLie (Nat.le_trans (Nat.le_of_ble_eq_true rfl) hRf) (Nat.le_trans (Nat.le_of_ble_eq_true rfl) hRl) hcs (zc_X4_bestLie l D tL tO cI cJ cB cQ a_sm a_tx a_rd a_td a_sp a_ds a_sm_fars a_sm_common a_sm_others a_sm_scale a_td_says a_td_weights a_ds_costs a_ds_lengths r_sm_fars x0 x1 v4 (0 : Int32) v_sm_asked v_sm_traced v_td_laws v_td_there v_td_sayers f_td_weights v_ds_alike f_ds_lengths f_sm_fars f_sm_others v3.2 v5 hv5) rfl rfl 0 rfl hl.1 rfl rfl (Nat.le_of_ble_eq_true rfl) dX4_lie_62 [0, 1, 2, 3, 4, 5, 6, 7, 8, 9, 10, 11, 12, 13, 14] rfl rfl) hP hD hS hA [0, 1, 2, 3, 4, 5, 6, 7, 8, 9, 10, 11, 12, 13, 14] [] [0, 1, 2, 3, 4, 5, 6, 7, 8, 9, 10, 11, 12, 13, 14] rfl rfl rfl (by decide) rfl rfl (fun H locs hP hD hS => ?_)
              obtain rfl := Option.some.inj hf
              exact hret trivial _ _ _ _ hP hD hS dX4_lie_65
            · have hf := zk_t c7 hf
              refine lv_iconst (v := (1 : Int32)) hx hb dX4_lie_57 (by decide) ?_
              refine lv_goto (tgt := 62) hx hb dX4_lie_58 (by decide) ?_
              obtain ⟨v6, hv6, hf⟩ := zk_ob hf
              refine zk_go (wr := []) (w2 := [(a_sm, .inr (4, [.ref a_tx, .ref a_rd, .ref a_td, .ref a_sp, .long v_sm_asked, .ref a_ds, .ref a_sm_fars, .ref a_sm_common, .ref a_sm_others, .ref a_sm_scale, .long v_sm_traced])), (a_td, .inr (3, [.int v_td_laws, .long v_td_there, .int v_td_sayers, .ref a_td_says, .ref a_td_weights])), (a_td_weights, .inl (cI, 7, .inl f_td_weights)), (a_ds, .inr (0, [.ref a_ds_costs, .int v_ds_alike, .ref a_ds_lengths])), (a_ds_lengths, .inl (cI, 64, .inl f_ds_lengths)), (a_sm_fars, .inl (cQ, 7, .inr (.inr (.inr (.inr (fun i => if i < 7 then some (r_sm_fars i) else none)))))), ((r_sm_fars 0), .inl (cJ, 64, .inr (.inl (f_sm_fars 0)))), ((r_sm_fars 1), .inl (cJ, 64, .inr (.inl (f_sm_fars 1)))), ((r_sm_fars 2), .inl (cJ, 64, .inr (.inl (f_sm_fars 2)))), ((r_sm_fars 3), .inl (cJ, 64, .inr (.inl (f_sm_fars 3)))), ((r_sm_fars 4), .inl (cJ, 64, .inr (.inl (f_sm_fars 4)))), ((r_sm_fars 5), .inl (cJ, 64, .inr (.inl (f_sm_fars 5)))), ((r_sm_fars 6), .inl (cJ, 64, .inr (.inl (f_sm_fars 6)))), (a_sm_others, .inl (cJ, 64, .inr (.inl v6.2.1))), (a_sm_scale, .inl (cJ, 64, .inr (.inl v6.2.2)))]) (zk_V (As := [.int x0, .int x1, .long v4, .int (1 : Int32)]) (rest := []) hx hb hml hown hts hK hG hP hD hS hA gX4_lie_X4_bestLie rfl hd_X4_bestLie (Nat.le_trans (Nat.le_of_ble_eq_true rfl) hRf) (Nat.le_trans (Nat.le_of_ble_eq_true rfl) hRl) hcs (zc_X4_bestLie l D tL tO cI cJ cB cQ a_sm a_tx a_rd a_td a_sp a_ds a_sm_fars a_sm_common a_sm_others a_sm_scale a_td_says a_td_weights a_ds_costs a_ds_lengths r_sm_fars x0 x1 v4 (1 : Int32) v_sm_asked v_sm_traced v_td_laws v_td_there v_td_sayers f_td_weights v_ds_alike f_ds_lengths f_sm_fars f_sm_others v3.2 v6 hv6) rfl rfl 0 rfl hl.1 rfl rfl (Nat.le_of_ble_eq_true rfl) dX4_lie_62 [0, 1, 2, 3, 4, 5, 6, 7, 8, 9, 10, 11, 12, 13, 14] rfl rfl) hP hD hS hA [0, 1, 2, 3, 4, 5, 6, 7, 8, 9, 10, 11, 12, 13, 14] [] [0, 1, 2, 3, 4, 5, 6, 7, 8, 9, 10, 11, 12, 13, 14] rfl rfl rfl (by decide) rfl rfl (fun H locs hP hD hS => ?_)
              obtain rfl := Option.some.inj hf
              exact hret trivial _ _ _ _ hP hD hS dX4_lie_65
          · have hf := zk_t c8 hf
            refine lv_lload hx hb dX4_lie_43 (lv_at hl 0 rfl) ?_
            refine lv_l2i hx hb dX4_lie_45 rfl ?_
            obtain rfl := Option.some.inj hf
            exact hret trivial _ _ _ _ hP hD hS dX4_lie_46
        · have hf := zk_f c9 hf
          refine lv_iconst (v := (-1 : Int32)) hx hb dX4_lie_24 (by decide) ?_
          obtain rfl := Option.some.inj hf
          exact hret trivial _ _ _ _ hP hD hS dX4_lie_25
def zf_X4_sayerWorth (x0 : Int32) (v_sm_traced : Int64) (v_td_there : Int64) (f_td_says : Nat → Int64) : Option (Int32 × Int64) :=
  zk_lt (v_sm_traced + (1 : Int64)) (fun y1 =>
  zk_gd (zk_in x0 7)
  ((zf_J13_bitCount_95d88 (v_td_there &&& (f_td_says x0.toNatClampNeg))).bind (fun v3 =>
  some (v3, y1))))
theorem hd_X4_sayerWorth : yX4_sayerWorth.cls = RX4 ∧ yX4_sayerWorth.cls ≠ "java/lang/invoke/MethodHandle" ∧ yX4_sayerWorth.cls ≠ "java/lang/invoke/VarHandle" ∧ (parseMethodDescriptor yX4_sayerWorth.desc).map (fun d => d.parameters.length) = some 1 := by decide +kernel
set_option maxHeartbeats 4000000 in
set_option maxRecDepth 100000 in
theorem zc_X4_sayerWorth (l : Launch) (D : va_G) (tL tO : Nat) (cI cJ cB cQ : ClassId) (a_sm a_tx a_rd a_td a_sp a_ds a_sm_fars a_sm_common a_sm_others a_sm_scale a_td_says a_td_weights : Nat) (x0 : Int32) (v_sm_asked : Int64) (v_sm_traced : Int64) (v_td_laws : Int32) (v_td_there : Int64) (v_td_sayers : Int32) (f_td_says : Nat → Int64) (z : Int32 × Int64) (hf : zf_X4_sayerWorth x0 v_sm_traced v_td_there f_td_says = some z) : zk_CT l D tL tO (zk_ty cI cJ cB cQ) yX4_sayerWorth wsX4_sayerWorth 1 21 [.ref a_sm, .int x0] (some (.int z.1)) [(a_sm, .inr (4, [.ref a_tx, .ref a_rd, .ref a_td, .ref a_sp, .long v_sm_asked, .ref a_ds, .ref a_sm_fars, .ref a_sm_common, .ref a_sm_others, .ref a_sm_scale, .long v_sm_traced])), (a_td, .inr (3, [.int v_td_laws, .long v_td_there, .int v_td_sayers, .ref a_td_says, .ref a_td_weights])), (a_td_says, .inl (cJ, 7, .inr (.inl f_td_says)))] [(a_sm, .inr (4, [.ref a_tx, .ref a_rd, .ref a_td, .ref a_sp, .long v_sm_asked, .ref a_ds, .ref a_sm_fars, .ref a_sm_common, .ref a_sm_others, .ref a_sm_scale, .long z.2])), (a_td, .inr (3, [.int v_td_laws, .long v_td_there, .int v_td_sayers, .ref a_td_says, .ref a_td_weights])), (a_td_says, .inl (cJ, 7, .inr (.inl f_td_says)))] := by
  refine zk_of_i (cc := cX4_sayerWorth) (maxL := 2) (by decide) rfl (Nat.le_of_ble_eq_true rfl) ?_
  intro p e R s m args below meth c A Q ls hx hb hml hRf hRl hts hown hP hK hD hA hS hG hl hret
  have hl : lv_has ls 2 [(0, .ref a_sm), (1, .int x0)] := hl
  have hown : s.vm.findClass RX4 = some m.cls := hown
  have hcs : 0 ≤ R.cells ∧ 0 ≤ R.slots := ⟨Nat.zero_le _, Nat.zero_le _⟩
  have lk0 := hts (.fieldLink RX4 63 "SayingsMerged" "traced" "J") (by decide +kernel)
  have inX4 : ∀ w ∈ wsX40, w ∈ wsX4_sayerWorth := by decide +kernel
  have lk2 := hts (.fieldLink RX4 28 "SayingsMerged" "told" "LSayingsMerged$Told;") (by decide +kernel)
  have lk3 : (Cond.fieldLinkNest RX4 101 "SayingsMerged$Told" "there" "J" "SayingsMerged").before args s = true := va_Nw.use rfl (hG.1 _ (by decide +kernel))
  have inX3 : ∀ w ∈ wsX30, w ∈ wsX4_sayerWorth := by decide +kernel
  have lk5 : (Cond.fieldLinkNest RX4 108 "SayingsMerged$Told" "says" "[J" "SayingsMerged").before args s = true := va_Nw.use rfl (hG.1 _ (by decide +kernel))
  unfold zf_X4_sayerWorth at hf
  refine lv_aload_n hx hb dX4_sayerWorth_0 rfl (lv_at hl 0 rfl) ?_
  refine lv_dup hx hb dX4_sayerWorth_1 rfl ?_
  refine va_get (ci := 4) (v := .long v_sm_traced) (C := RX4) (T := TX4) (N := 11) hx hb hts inX4 hown hK hP 0 rfl rfl 10 (by decide) lk0 (fun _ h9 => h9) rfl dX4_sayerWorth_2 ?_
  refine lv_lconst (v := (1 : Int64)) hx hb dX4_sayerWorth_5 (by decide) ?_
  refine lv_ladd hx hb dX4_sayerWorth_6 ?_
  obtain ⟨y1, ey1, hf⟩ := zk_lt_s hf
  refine zk_topl ey1 ?_
  refine va_put (ci := 4) (v := .long y1) (ty := .long) (C := RX4) (T := TX4) (N := 11) hx hb hts inX4 tyX4 tyX4_ok nmX4 hown hK hP hD hS 0 rfl rfl 10 (by decide) lk0 (fun _ h9 => h9) rfl (by decide +kernel) rfl rfl (Nat.le_of_ble_eq_true rfl) dX4_sayerWorth_7 (fun H locs hP hD hS => ?_)
  have hP : va_P D vwCl [(a_sm, .inr (4, [.ref a_tx, .ref a_rd, .ref a_td, .ref a_sp, .long v_sm_asked, .ref a_ds, .ref a_sm_fars, .ref a_sm_common, .ref a_sm_others, .ref a_sm_scale, .long y1])), (a_td, .inr (3, [.int v_td_laws, .long v_td_there, .int v_td_sayers, .ref a_td_says, .ref a_td_weights])), (a_td_says, .inl (cJ, 7, .inr (.inl f_td_says)))] H := hP
  have hD : va_D A [(a_sm, .inr (4, [.ref a_tx, .ref a_rd, .ref a_td, .ref a_sp, .long v_sm_asked, .ref a_ds, .ref a_sm_fars, .ref a_sm_common, .ref a_sm_others, .ref a_sm_scale, .long y1])), (a_td, .inr (3, [.int v_td_laws, .long v_td_there, .int v_td_sayers, .ref a_td_says, .ref a_td_weights])), (a_td_says, .inl (cJ, 7, .inr (.inl f_td_says)))] := hD
  refine lv_aload_n hx hb dX4_sayerWorth_10 rfl (lv_at hl 0 rfl) ?_
  refine va_get (ci := 4) (v := .ref a_td) (C := RX4) (T := TX4) (N := 11) hx hb hts inX4 hown hK hP 0 rfl rfl 2 (by decide) lk2 (fun _ h9 => h9) rfl dX4_sayerWorth_11 ?_
  refine va_getN (ci := 3) (v := .long v_td_there) (C := RX3) (T := TX3) (N := 5) hx hb hts inX3 hown hK hP 1 rfl rfl 1 (by decide) lk3 (fun _ h9 => h9) rfl dX4_sayerWorth_14 ?_
  refine lv_aload_n hx hb dX4_sayerWorth_17 rfl (lv_at hl 0 rfl) ?_
  refine va_get (ci := 4) (v := .ref a_td) (C := RX4) (T := TX4) (N := 11) hx hb hts inX4 hown hK hP 0 rfl rfl 2 (by decide) lk2 (fun _ h9 => h9) rfl dX4_sayerWorth_18 ?_
  refine va_getN (ci := 3) (v := .ref a_td_says) (C := RX3) (T := TX3) (N := 5) hx hb hts inX3 hown hK hP 1 rfl rfl 3 (by decide) lk5 (fun _ h9 => h9) rfl dX4_sayerWorth_21 ?_
  refine lv_iload_n hx hb dX4_sayerWorth_24 rfl (lv_at hl 1 rfl) ?_
  obtain ⟨g2, hf⟩ := zk_gd_s hf
  refine va_lald hx hb hK hP 2 1 rfl rfl (zk_in_s g2) dX4_sayerWorth_25 ?_
  refine lv_land hx hb dX4_sayerWorth_26 ?_
  obtain ⟨v3, hv3, hf⟩ := zk_ob hf
  refine zk_goR (zk_S (As := [.long (v_td_there &&& (f_td_says x0.toNatClampNeg))]) (rest := []) hx hb hml hown hts hK hG hP hD hS hA gX4_sayerWorth_J13_bitCount_95d88 rfl hd_J13_bitCount_95d88 (Nat.le_trans (Nat.le_of_ble_eq_true rfl) hRf) (Nat.le_trans (Nat.le_of_ble_eq_true rfl) hRl) hcs (zc_J13_bitCount_95d88 l D tL tO cI cJ cB cQ (v_td_there &&& (f_td_says x0.toNatClampNeg)) v3 hv3) hl.1 rfl rfl (Nat.le_of_ble_eq_true rfl) dX4_sayerWorth_27 [] rfl rfl) hP hD hS hA [] rfl (fun H locs hP hS => ?_)
  obtain rfl := Option.some.inj hf
  exact hret trivial _ _ _ _ hP hD hS dX4_sayerWorth_30
def zf_X4_weightyWorth (x0 : Int32) (v_sm_traced : Int64) (v_td_there : Int64) (f_td_says : Nat → Int64) (f_td_weights : Nat → Int32) : Option (Int32 × Int64) :=
  zk_lt (v_sm_traced + (10 : Int64)) (fun y1 =>
  (zf_X4_sayerWorth x0 y1 v_td_there f_td_says).bind (fun v2 =>
  zk_gd (zk_in x0 7)
  (some (v2.1 * (f_td_weights x0.toNatClampNeg), v2.2))))
theorem hd_X4_weightyWorth : yX4_weightyWorth.cls = RX4 ∧ yX4_weightyWorth.cls ≠ "java/lang/invoke/MethodHandle" ∧ yX4_weightyWorth.cls ≠ "java/lang/invoke/VarHandle" ∧ (parseMethodDescriptor yX4_weightyWorth.desc).map (fun d => d.parameters.length) = some 1 := by decide +kernel
set_option maxHeartbeats 4000000 in
set_option maxRecDepth 100000 in
theorem zc_X4_weightyWorth (l : Launch) (D : va_G) (tL tO : Nat) (cI cJ cB cQ : ClassId) (a_sm a_tx a_rd a_td a_sp a_ds a_sm_fars a_sm_common a_sm_others a_sm_scale a_td_says a_td_weights : Nat) (x0 : Int32) (v_sm_asked : Int64) (v_sm_traced : Int64) (v_td_laws : Int32) (v_td_there : Int64) (v_td_sayers : Int32) (f_td_says : Nat → Int64) (f_td_weights : Nat → Int32) (z : Int32 × Int64) (hf : zf_X4_weightyWorth x0 v_sm_traced v_td_there f_td_says f_td_weights = some z) : zk_CT l D tL tO (zk_ty cI cJ cB cQ) yX4_weightyWorth wsX4_weightyWorth 2 42 [.ref a_sm, .int x0] (some (.int z.1)) [(a_sm, .inr (4, [.ref a_tx, .ref a_rd, .ref a_td, .ref a_sp, .long v_sm_asked, .ref a_ds, .ref a_sm_fars, .ref a_sm_common, .ref a_sm_others, .ref a_sm_scale, .long v_sm_traced])), (a_td, .inr (3, [.int v_td_laws, .long v_td_there, .int v_td_sayers, .ref a_td_says, .ref a_td_weights])), (a_td_says, .inl (cJ, 7, .inr (.inl f_td_says))), (a_td_weights, .inl (cI, 7, .inl f_td_weights))] [(a_sm, .inr (4, [.ref a_tx, .ref a_rd, .ref a_td, .ref a_sp, .long v_sm_asked, .ref a_ds, .ref a_sm_fars, .ref a_sm_common, .ref a_sm_others, .ref a_sm_scale, .long z.2])), (a_td, .inr (3, [.int v_td_laws, .long v_td_there, .int v_td_sayers, .ref a_td_says, .ref a_td_weights])), (a_td_says, .inl (cJ, 7, .inr (.inl f_td_says))), (a_td_weights, .inl (cI, 7, .inl f_td_weights))] := by
  refine zk_of_i (cc := cX4_weightyWorth) (maxL := 2) (by decide) rfl (Nat.le_of_ble_eq_true rfl) ?_
  intro p e R s m args below meth c A Q ls hx hb hml hRf hRl hts hown hP hK hD hA hS hG hl hret
  have hl : lv_has ls 2 [(0, .ref a_sm), (1, .int x0)] := hl
  have hown : s.vm.findClass RX4 = some m.cls := hown
  have hcs : 0 ≤ R.cells ∧ 0 ≤ R.slots := ⟨Nat.zero_le _, Nat.zero_le _⟩
  have lk0 := hts (.fieldLink RX4 63 "SayingsMerged" "traced" "J") (by decide +kernel)
  have inX4 : ∀ w ∈ wsX40, w ∈ wsX4_weightyWorth := by decide +kernel
  have lk2 := hts (.constantLong RX4 245 (10)) (by decide +kernel)
  have lk3 := hts (.fieldLink RX4 28 "SayingsMerged" "told" "LSayingsMerged$Told;") (by decide +kernel)
  have lk4 : (Cond.fieldLinkNest RX4 212 "SayingsMerged$Told" "weights" "[I" "SayingsMerged").before args s = true := va_Nw.use rfl (hG.1 _ (by decide +kernel))
  have inX3 : ∀ w ∈ wsX30, w ∈ wsX4_weightyWorth := by decide +kernel
  unfold zf_X4_weightyWorth at hf
  refine lv_aload_n hx hb dX4_weightyWorth_0 rfl (lv_at hl 0 rfl) ?_
  refine lv_dup hx hb dX4_weightyWorth_1 rfl ?_
  refine va_get (ci := 4) (v := .long v_sm_traced) (C := RX4) (T := TX4) (N := 11) hx hb hts inX4 hown hK hP 0 rfl rfl 10 (by decide) lk0 (fun _ h9 => h9) rfl dX4_weightyWorth_2 ?_
  refine lv_ldc2 hx hb hown lk2 dX4_weightyWorth_5 ?_
  refine lv_ladd hx hb dX4_weightyWorth_8 ?_
  obtain ⟨y1, ey1, hf⟩ := zk_lt_s hf
  refine zk_topl ey1 ?_
  refine va_put (ci := 4) (v := .long y1) (ty := .long) (C := RX4) (T := TX4) (N := 11) hx hb hts inX4 tyX4 tyX4_ok nmX4 hown hK hP hD hS 0 rfl rfl 10 (by decide) lk0 (fun _ h9 => h9) rfl (by decide +kernel) rfl rfl (Nat.le_of_ble_eq_true rfl) dX4_weightyWorth_9 (fun H locs hP hD hS => ?_)
  have hP : va_P D vwCl [(a_sm, .inr (4, [.ref a_tx, .ref a_rd, .ref a_td, .ref a_sp, .long v_sm_asked, .ref a_ds, .ref a_sm_fars, .ref a_sm_common, .ref a_sm_others, .ref a_sm_scale, .long y1])), (a_td, .inr (3, [.int v_td_laws, .long v_td_there, .int v_td_sayers, .ref a_td_says, .ref a_td_weights])), (a_td_says, .inl (cJ, 7, .inr (.inl f_td_says))), (a_td_weights, .inl (cI, 7, .inl f_td_weights))] H := hP
  have hD : va_D A [(a_sm, .inr (4, [.ref a_tx, .ref a_rd, .ref a_td, .ref a_sp, .long v_sm_asked, .ref a_ds, .ref a_sm_fars, .ref a_sm_common, .ref a_sm_others, .ref a_sm_scale, .long y1])), (a_td, .inr (3, [.int v_td_laws, .long v_td_there, .int v_td_sayers, .ref a_td_says, .ref a_td_weights])), (a_td_says, .inl (cJ, 7, .inr (.inl f_td_says))), (a_td_weights, .inl (cI, 7, .inl f_td_weights))] := hD
  refine lv_aload_n hx hb dX4_weightyWorth_12 rfl (lv_at hl 0 rfl) ?_
  refine lv_iload_n hx hb dX4_weightyWorth_13 rfl (lv_at hl 1 rfl) ?_
  obtain ⟨v2, hv2, hf⟩ := zk_ob hf
  refine zk_go (wr := [(a_td_weights, .inl (cI, 7, .inl f_td_weights))]) (w2 := [(a_sm, .inr (4, [.ref a_tx, .ref a_rd, .ref a_td, .ref a_sp, .long v_sm_asked, .ref a_ds, .ref a_sm_fars, .ref a_sm_common, .ref a_sm_others, .ref a_sm_scale, .long v2.2])), (a_td, .inr (3, [.int v_td_laws, .long v_td_there, .int v_td_sayers, .ref a_td_says, .ref a_td_weights])), (a_td_says, .inl (cJ, 7, .inr (.inl f_td_says))), (a_td_weights, .inl (cI, 7, .inl f_td_weights))]) (zk_V (As := [.int x0]) (rest := []) hx hb hml hown hts hK hG hP hD hS hA gX4_weightyWorth_X4_sayerWorth rfl hd_X4_sayerWorth (Nat.le_trans (Nat.le_of_ble_eq_true rfl) hRf) (Nat.le_trans (Nat.le_of_ble_eq_true rfl) hRl) hcs (zc_X4_sayerWorth l D tL tO cI cJ cB cQ a_sm a_tx a_rd a_td a_sp a_ds a_sm_fars a_sm_common a_sm_others a_sm_scale a_td_says a_td_weights x0 v_sm_asked y1 v_td_laws v_td_there v_td_sayers f_td_says v2 hv2) rfl rfl 0 rfl hl.1 rfl rfl (Nat.le_of_ble_eq_true rfl) dX4_weightyWorth_14 [0, 1, 2] rfl rfl) hP hD hS hA [0, 1, 2] [3] [1, 2, 3, 0] rfl rfl rfl (by decide) rfl rfl (fun H locs hP hD hS => ?_)
  refine lv_aload_n hx hb dX4_weightyWorth_17 rfl (lv_at hl 0 rfl) ?_
  refine va_get (ci := 4) (v := .ref a_td) (C := RX4) (T := TX4) (N := 11) hx hb hts inX4 hown hK hP 0 rfl rfl 2 (by decide) lk3 (fun _ h9 => h9) rfl dX4_weightyWorth_18 ?_
  refine va_getN (ci := 3) (v := .ref a_td_weights) (C := RX3) (T := TX3) (N := 5) hx hb hts inX3 hown hK hP 1 rfl rfl 4 (by decide) lk4 (fun _ h9 => h9) rfl dX4_weightyWorth_21 ?_
  refine lv_iload_n hx hb dX4_weightyWorth_24 rfl (lv_at hl 1 rfl) ?_
  obtain ⟨g3, hf⟩ := zk_gd_s hf
  refine va_iald hx hb hK hP 3 0 rfl rfl (zk_in_s g3) dX4_weightyWorth_25 ?_
  refine lv_imul hx hb dX4_weightyWorth_26 ?_
  obtain rfl := Option.some.inj hf
  exact hret trivial _ _ _ _ hP hD hS dX4_weightyWorth_27
def zf_X4_loneWorth (x0 : Int32) (v_sm_traced : Int64) (v_td_there : Int64) (v_td_sayers : Int32) (f_td_says : Nat → Int64) : Option (Int32 × Int64) :=
  zk_lt (v_sm_traced + (100 : Int64)) (fun y1 =>
  (zf_X4_sayerWorth x0 y1 v_td_there f_td_says).bind (fun v2 =>
  zk_gd (zk_in x0 7)
  ((zf_X3_saidByOthers x0 v_td_sayers f_td_says).bind (fun v4 =>
  (zf_J13_bitCount_95d88 ((v_td_there &&& (f_td_says x0.toNatClampNeg)) &&& v4)).bind (fun v5 =>
  some (v2.1 - v5, v2.2))))))
theorem hd_X4_loneWorth : yX4_loneWorth.cls = RX4 ∧ yX4_loneWorth.cls ≠ "java/lang/invoke/MethodHandle" ∧ yX4_loneWorth.cls ≠ "java/lang/invoke/VarHandle" ∧ (parseMethodDescriptor yX4_loneWorth.desc).map (fun d => d.parameters.length) = some 1 := by decide +kernel
set_option maxHeartbeats 4000000 in
set_option maxRecDepth 100000 in
theorem zc_X4_loneWorth (l : Launch) (D : va_G) (tL tO : Nat) (cI cJ cB cQ : ClassId) (a_sm a_tx a_rd a_td a_sp a_ds a_sm_fars a_sm_common a_sm_others a_sm_scale a_td_says a_td_weights : Nat) (x0 : Int32) (v_sm_asked : Int64) (v_sm_traced : Int64) (v_td_laws : Int32) (v_td_there : Int64) (v_td_sayers : Int32) (f_td_says : Nat → Int64) (z : Int32 × Int64) (hf : zf_X4_loneWorth x0 v_sm_traced v_td_there v_td_sayers f_td_says = some z) : zk_CT l D tL tO (zk_ty cI cJ cB cQ) yX4_loneWorth wsX4_loneWorth 2 42 [.ref a_sm, .int x0] (some (.int z.1)) [(a_sm, .inr (4, [.ref a_tx, .ref a_rd, .ref a_td, .ref a_sp, .long v_sm_asked, .ref a_ds, .ref a_sm_fars, .ref a_sm_common, .ref a_sm_others, .ref a_sm_scale, .long v_sm_traced])), (a_td, .inr (3, [.int v_td_laws, .long v_td_there, .int v_td_sayers, .ref a_td_says, .ref a_td_weights])), (a_td_says, .inl (cJ, 7, .inr (.inl f_td_says)))] [(a_sm, .inr (4, [.ref a_tx, .ref a_rd, .ref a_td, .ref a_sp, .long v_sm_asked, .ref a_ds, .ref a_sm_fars, .ref a_sm_common, .ref a_sm_others, .ref a_sm_scale, .long z.2])), (a_td, .inr (3, [.int v_td_laws, .long v_td_there, .int v_td_sayers, .ref a_td_says, .ref a_td_weights])), (a_td_says, .inl (cJ, 7, .inr (.inl f_td_says)))] := by
  refine zk_of_i (cc := cX4_loneWorth) (maxL := 2) (by decide) rfl (Nat.le_of_ble_eq_true rfl) ?_
  intro p e R s m args below meth c A Q ls hx hb hml hRf hRl hts hown hP hK hD hA hS hG hl hret
  have hl : lv_has ls 2 [(0, .ref a_sm), (1, .int x0)] := hl
  have hown : s.vm.findClass RX4 = some m.cls := hown
  have hcs : 0 ≤ R.cells ∧ 0 ≤ R.slots := ⟨Nat.zero_le _, Nat.zero_le _⟩
  have lk0 := hts (.fieldLink RX4 63 "SayingsMerged" "traced" "J") (by decide +kernel)
  have inX4 : ∀ w ∈ wsX40, w ∈ wsX4_loneWorth := by decide +kernel
  have lk2 := hts (.constantLong RX4 247 (100)) (by decide +kernel)
  have lk3 := hts (.fieldLink RX4 28 "SayingsMerged" "told" "LSayingsMerged$Told;") (by decide +kernel)
  have lk4 : (Cond.fieldLinkNest RX4 101 "SayingsMerged$Told" "there" "J" "SayingsMerged").before args s = true := va_Nw.use rfl (hG.1 _ (by decide +kernel))
  have inX3 : ∀ w ∈ wsX30, w ∈ wsX4_loneWorth := by decide +kernel
  have lk6 : (Cond.fieldLinkNest RX4 108 "SayingsMerged$Told" "says" "[J" "SayingsMerged").before args s = true := va_Nw.use rfl (hG.1 _ (by decide +kernel))
  unfold zf_X4_loneWorth at hf
  refine lv_aload_n hx hb dX4_loneWorth_0 rfl (lv_at hl 0 rfl) ?_
  refine lv_dup hx hb dX4_loneWorth_1 rfl ?_
  refine va_get (ci := 4) (v := .long v_sm_traced) (C := RX4) (T := TX4) (N := 11) hx hb hts inX4 hown hK hP 0 rfl rfl 10 (by decide) lk0 (fun _ h9 => h9) rfl dX4_loneWorth_2 ?_
  refine lv_ldc2 hx hb hown lk2 dX4_loneWorth_5 ?_
  refine lv_ladd hx hb dX4_loneWorth_8 ?_
  obtain ⟨y1, ey1, hf⟩ := zk_lt_s hf
  refine zk_topl ey1 ?_
  refine va_put (ci := 4) (v := .long y1) (ty := .long) (C := RX4) (T := TX4) (N := 11) hx hb hts inX4 tyX4 tyX4_ok nmX4 hown hK hP hD hS 0 rfl rfl 10 (by decide) lk0 (fun _ h9 => h9) rfl (by decide +kernel) rfl rfl (Nat.le_of_ble_eq_true rfl) dX4_loneWorth_9 (fun H locs hP hD hS => ?_)
  have hP : va_P D vwCl [(a_sm, .inr (4, [.ref a_tx, .ref a_rd, .ref a_td, .ref a_sp, .long v_sm_asked, .ref a_ds, .ref a_sm_fars, .ref a_sm_common, .ref a_sm_others, .ref a_sm_scale, .long y1])), (a_td, .inr (3, [.int v_td_laws, .long v_td_there, .int v_td_sayers, .ref a_td_says, .ref a_td_weights])), (a_td_says, .inl (cJ, 7, .inr (.inl f_td_says)))] H := hP
  have hD : va_D A [(a_sm, .inr (4, [.ref a_tx, .ref a_rd, .ref a_td, .ref a_sp, .long v_sm_asked, .ref a_ds, .ref a_sm_fars, .ref a_sm_common, .ref a_sm_others, .ref a_sm_scale, .long y1])), (a_td, .inr (3, [.int v_td_laws, .long v_td_there, .int v_td_sayers, .ref a_td_says, .ref a_td_weights])), (a_td_says, .inl (cJ, 7, .inr (.inl f_td_says)))] := hD
  refine lv_aload_n hx hb dX4_loneWorth_12 rfl (lv_at hl 0 rfl) ?_
  refine lv_iload_n hx hb dX4_loneWorth_13 rfl (lv_at hl 1 rfl) ?_
  obtain ⟨v2, hv2, hf⟩ := zk_ob hf
  refine zk_go (wr := []) (w2 := [(a_sm, .inr (4, [.ref a_tx, .ref a_rd, .ref a_td, .ref a_sp, .long v_sm_asked, .ref a_ds, .ref a_sm_fars, .ref a_sm_common, .ref a_sm_others, .ref a_sm_scale, .long v2.2])), (a_td, .inr (3, [.int v_td_laws, .long v_td_there, .int v_td_sayers, .ref a_td_says, .ref a_td_weights])), (a_td_says, .inl (cJ, 7, .inr (.inl f_td_says)))]) (zk_V (As := [.int x0]) (rest := []) hx hb hml hown hts hK hG hP hD hS hA gX4_loneWorth_X4_sayerWorth rfl hd_X4_sayerWorth (Nat.le_trans (Nat.le_of_ble_eq_true rfl) hRf) (Nat.le_trans (Nat.le_of_ble_eq_true rfl) hRl) hcs (zc_X4_sayerWorth l D tL tO cI cJ cB cQ a_sm a_tx a_rd a_td a_sp a_ds a_sm_fars a_sm_common a_sm_others a_sm_scale a_td_says a_td_weights x0 v_sm_asked y1 v_td_laws v_td_there v_td_sayers f_td_says v2 hv2) rfl rfl 0 rfl hl.1 rfl rfl (Nat.le_of_ble_eq_true rfl) dX4_loneWorth_14 [0, 1, 2] rfl rfl) hP hD hS hA [0, 1, 2] [] [0, 1, 2] rfl rfl rfl (by decide) rfl rfl (fun H locs hP hD hS => ?_)
  refine lv_aload_n hx hb dX4_loneWorth_17 rfl (lv_at hl 0 rfl) ?_
  refine va_get (ci := 4) (v := .ref a_td) (C := RX4) (T := TX4) (N := 11) hx hb hts inX4 hown hK hP 0 rfl rfl 2 (by decide) lk3 (fun _ h9 => h9) rfl dX4_loneWorth_18 ?_
  refine va_getN (ci := 3) (v := .long v_td_there) (C := RX3) (T := TX3) (N := 5) hx hb hts inX3 hown hK hP 1 rfl rfl 1 (by decide) lk4 (fun _ h9 => h9) rfl dX4_loneWorth_21 ?_
  refine lv_aload_n hx hb dX4_loneWorth_24 rfl (lv_at hl 0 rfl) ?_
  refine va_get (ci := 4) (v := .ref a_td) (C := RX4) (T := TX4) (N := 11) hx hb hts inX4 hown hK hP 0 rfl rfl 2 (by decide) lk3 (fun _ h9 => h9) rfl dX4_loneWorth_25 ?_
  refine va_getN (ci := 3) (v := .ref a_td_says) (C := RX3) (T := TX3) (N := 5) hx hb hts inX3 hown hK hP 1 rfl rfl 3 (by decide) lk6 (fun _ h9 => h9) rfl dX4_loneWorth_28 ?_
  refine lv_iload_n hx hb dX4_loneWorth_31 rfl (lv_at hl 1 rfl) ?_
  obtain ⟨g3, hf⟩ := zk_gd_s hf
  refine va_lald hx hb hK hP 2 1 rfl rfl (zk_in_s g3) dX4_loneWorth_32 ?_
  refine lv_land hx hb dX4_loneWorth_33 ?_
  refine lv_aload_n hx hb dX4_loneWorth_34 rfl (lv_at hl 0 rfl) ?_
  refine va_get (ci := 4) (v := .ref a_td) (C := RX4) (T := TX4) (N := 11) hx hb hts inX4 hown hK hP 0 rfl rfl 2 (by decide) lk3 (fun _ h9 => h9) rfl dX4_loneWorth_35 ?_
  refine lv_iload_n hx hb dX4_loneWorth_38 rfl (lv_at hl 1 rfl) ?_
  obtain ⟨v4, hv4, hf⟩ := zk_ob hf
  refine zk_goR (zk_V (As := [.int x0]) (rest := [.long (v_td_there &&& (f_td_says x0.toNatClampNeg)), .int v2.1]) hx hb hml hown hts hK hG hP hD hS hA gX4_loneWorth_X3_saidByOthers rfl hd_X3_saidByOthers (Nat.le_trans (Nat.le_of_ble_eq_true rfl) hRf) (Nat.le_trans (Nat.le_of_ble_eq_true rfl) hRl) hcs (zc_X3_saidByOthers l D tL tO cI cJ cB cQ a_td a_td_says a_td_weights x0 v_td_laws v_td_there v_td_sayers f_td_says v4 hv4) rfl rfl 1 rfl hl.1 rfl rfl (Nat.le_of_ble_eq_true rfl) dX4_loneWorth_39 [1, 2] rfl rfl) hP hD hS hA [1, 2] rfl (fun H locs hP hS => ?_)
  refine lv_land hx hb dX4_loneWorth_42 ?_
  obtain ⟨v5, hv5, hf⟩ := zk_ob hf
  refine zk_goR (zk_S (As := [.long ((v_td_there &&& (f_td_says x0.toNatClampNeg)) &&& v4)]) (rest := [.int v2.1]) hx hb hml hown hts hK hG hP hD hS hA gX4_loneWorth_J13_bitCount_95d88 rfl hd_J13_bitCount_95d88 (Nat.le_trans (Nat.le_of_ble_eq_true rfl) hRf) (Nat.le_trans (Nat.le_of_ble_eq_true rfl) hRl) hcs (zc_J13_bitCount_95d88 l D tL tO cI cJ cB cQ ((v_td_there &&& (f_td_says x0.toNatClampNeg)) &&& v4) v5 hv5) hl.1 rfl rfl (Nat.le_of_ble_eq_true rfl) dX4_loneWorth_43 [] rfl rfl) hP hD hS hA [] rfl (fun H locs hP hS => ?_)
  refine lv_isub hx hb dX4_loneWorth_46 ?_
  obtain rfl := Option.some.inj hf
  exact hret trivial _ _ _ _ hP hD hS dX4_loneWorth_47
def zf_X4_firmWorth (x0 : Int32) (v_sm_traced : Int64) (v_td_there : Int64) (v_td_sayers : Int32) (f_td_says : Nat → Int64) (f_td_weights : Nat → Int32) (f_sm_fars : Nat → Nat → Int64) (f_sm_scale : Nat → Int64) : Option (Int32 × Int64 × (Nat → Int64)) :=
  zk_lt (v_sm_traced + (1000 : Int64)) (fun y1 =>
  (zf_X4_weightyWorth x0 y1 v_td_there f_td_says f_td_weights).bind (fun v2 =>
  (zf_X4_mergedBy (0 : Int32) v_td_there v_td_sayers f_td_weights f_sm_fars f_sm_scale).bind (fun v3 =>
  (zf_J13_bitCount_95d88 v3.1).bind (fun v4 =>
  some (v2.1 + v4, v2.2, v3.2)))))
theorem hd_X4_firmWorth : yX4_firmWorth.cls = RX4 ∧ yX4_firmWorth.cls ≠ "java/lang/invoke/MethodHandle" ∧ yX4_firmWorth.cls ≠ "java/lang/invoke/VarHandle" ∧ (parseMethodDescriptor yX4_firmWorth.desc).map (fun d => d.parameters.length) = some 1 := by decide +kernel
set_option maxHeartbeats 4000000 in
set_option maxRecDepth 100000 in
theorem zc_X4_firmWorth (l : Launch) (D : va_G) (tL tO : Nat) (cI cJ cB cQ : ClassId) (a_sm a_tx a_rd a_td a_sp a_ds a_sm_fars a_sm_common a_sm_others a_sm_scale a_td_says a_td_weights : Nat) (r_sm_fars : Nat → Nat) (x0 : Int32) (v_sm_asked : Int64) (v_sm_traced : Int64) (v_td_laws : Int32) (v_td_there : Int64) (v_td_sayers : Int32) (f_td_says : Nat → Int64) (f_td_weights : Nat → Int32) (f_sm_fars : Nat → Nat → Int64) (f_sm_scale : Nat → Int64) (z : Int32 × Int64 × (Nat → Int64)) (hf : zf_X4_firmWorth x0 v_sm_traced v_td_there v_td_sayers f_td_says f_td_weights f_sm_fars f_sm_scale = some z) : zk_CT l D tL tO (zk_ty cI cJ cB cQ) yX4_firmWorth wsX4_firmWorth 4 100 [.ref a_sm, .int x0] (some (.int z.1)) [(a_sm, .inr (4, [.ref a_tx, .ref a_rd, .ref a_td, .ref a_sp, .long v_sm_asked, .ref a_ds, .ref a_sm_fars, .ref a_sm_common, .ref a_sm_others, .ref a_sm_scale, .long v_sm_traced])), (a_td, .inr (3, [.int v_td_laws, .long v_td_there, .int v_td_sayers, .ref a_td_says, .ref a_td_weights])), (a_td_says, .inl (cJ, 7, .inr (.inl f_td_says))), (a_td_weights, .inl (cI, 7, .inl f_td_weights)), (a_sm_fars, .inl (cQ, 7, .inr (.inr (.inr (.inr (fun i => if i < 7 then some (r_sm_fars i) else none)))))), ((r_sm_fars 0), .inl (cJ, 64, .inr (.inl (f_sm_fars 0)))), ((r_sm_fars 1), .inl (cJ, 64, .inr (.inl (f_sm_fars 1)))), ((r_sm_fars 2), .inl (cJ, 64, .inr (.inl (f_sm_fars 2)))), ((r_sm_fars 3), .inl (cJ, 64, .inr (.inl (f_sm_fars 3)))), ((r_sm_fars 4), .inl (cJ, 64, .inr (.inl (f_sm_fars 4)))), ((r_sm_fars 5), .inl (cJ, 64, .inr (.inl (f_sm_fars 5)))), ((r_sm_fars 6), .inl (cJ, 64, .inr (.inl (f_sm_fars 6)))), (a_sm_scale, .inl (cJ, 64, .inr (.inl f_sm_scale)))] [(a_sm, .inr (4, [.ref a_tx, .ref a_rd, .ref a_td, .ref a_sp, .long v_sm_asked, .ref a_ds, .ref a_sm_fars, .ref a_sm_common, .ref a_sm_others, .ref a_sm_scale, .long z.2.1])), (a_td, .inr (3, [.int v_td_laws, .long v_td_there, .int v_td_sayers, .ref a_td_says, .ref a_td_weights])), (a_td_says, .inl (cJ, 7, .inr (.inl f_td_says))), (a_td_weights, .inl (cI, 7, .inl f_td_weights)), (a_sm_fars, .inl (cQ, 7, .inr (.inr (.inr (.inr (fun i => if i < 7 then some (r_sm_fars i) else none)))))), ((r_sm_fars 0), .inl (cJ, 64, .inr (.inl (f_sm_fars 0)))), ((r_sm_fars 1), .inl (cJ, 64, .inr (.inl (f_sm_fars 1)))), ((r_sm_fars 2), .inl (cJ, 64, .inr (.inl (f_sm_fars 2)))), ((r_sm_fars 3), .inl (cJ, 64, .inr (.inl (f_sm_fars 3)))), ((r_sm_fars 4), .inl (cJ, 64, .inr (.inl (f_sm_fars 4)))), ((r_sm_fars 5), .inl (cJ, 64, .inr (.inl (f_sm_fars 5)))), ((r_sm_fars 6), .inl (cJ, 64, .inr (.inl (f_sm_fars 6)))), (a_sm_scale, .inl (cJ, 64, .inr (.inl z.2.2)))] := by
  refine zk_of_i (cc := cX4_firmWorth) (maxL := 2) (by decide) rfl (Nat.le_of_ble_eq_true rfl) ?_
  intro p e R s m args below meth c A Q ls hx hb hml hRf hRl hts hown hP hK hD hA hS hG hl hret
  have hl : lv_has ls 2 [(0, .ref a_sm), (1, .int x0)] := hl
  have hown : s.vm.findClass RX4 = some m.cls := hown
  have hcs : 0 ≤ R.cells ∧ 0 ≤ R.slots := ⟨Nat.zero_le _, Nat.zero_le _⟩
  have lk0 := hts (.fieldLink RX4 63 "SayingsMerged" "traced" "J") (by decide +kernel)
  have inX4 : ∀ w ∈ wsX40, w ∈ wsX4_firmWorth := by decide +kernel
  have lk2 := hts (.constantLong RX4 252 (1000)) (by decide +kernel)
  unfold zf_X4_firmWorth at hf
  refine lv_aload_n hx hb dX4_firmWorth_0 rfl (lv_at hl 0 rfl) ?_
  refine lv_dup hx hb dX4_firmWorth_1 rfl ?_
  refine va_get (ci := 4) (v := .long v_sm_traced) (C := RX4) (T := TX4) (N := 11) hx hb hts inX4 hown hK hP 0 rfl rfl 10 (by decide) lk0 (fun _ h9 => h9) rfl dX4_firmWorth_2 ?_
  refine lv_ldc2 hx hb hown lk2 dX4_firmWorth_5 ?_
  refine lv_ladd hx hb dX4_firmWorth_8 ?_
  obtain ⟨y1, ey1, hf⟩ := zk_lt_s hf
  refine zk_topl ey1 ?_
  refine va_put (ci := 4) (v := .long y1) (ty := .long) (C := RX4) (T := TX4) (N := 11) hx hb hts inX4 tyX4 tyX4_ok nmX4 hown hK hP hD hS 0 rfl rfl 10 (by decide) lk0 (fun _ h9 => h9) rfl (by decide +kernel) rfl rfl (Nat.le_of_ble_eq_true rfl) dX4_firmWorth_9 (fun H locs hP hD hS => ?_)
  have hP : va_P D vwCl [(a_sm, .inr (4, [.ref a_tx, .ref a_rd, .ref a_td, .ref a_sp, .long v_sm_asked, .ref a_ds, .ref a_sm_fars, .ref a_sm_common, .ref a_sm_others, .ref a_sm_scale, .long y1])), (a_td, .inr (3, [.int v_td_laws, .long v_td_there, .int v_td_sayers, .ref a_td_says, .ref a_td_weights])), (a_td_says, .inl (cJ, 7, .inr (.inl f_td_says))), (a_td_weights, .inl (cI, 7, .inl f_td_weights)), (a_sm_fars, .inl (cQ, 7, .inr (.inr (.inr (.inr (fun i => if i < 7 then some (r_sm_fars i) else none)))))), ((r_sm_fars 0), .inl (cJ, 64, .inr (.inl (f_sm_fars 0)))), ((r_sm_fars 1), .inl (cJ, 64, .inr (.inl (f_sm_fars 1)))), ((r_sm_fars 2), .inl (cJ, 64, .inr (.inl (f_sm_fars 2)))), ((r_sm_fars 3), .inl (cJ, 64, .inr (.inl (f_sm_fars 3)))), ((r_sm_fars 4), .inl (cJ, 64, .inr (.inl (f_sm_fars 4)))), ((r_sm_fars 5), .inl (cJ, 64, .inr (.inl (f_sm_fars 5)))), ((r_sm_fars 6), .inl (cJ, 64, .inr (.inl (f_sm_fars 6)))), (a_sm_scale, .inl (cJ, 64, .inr (.inl f_sm_scale)))] H := hP
  have hD : va_D A [(a_sm, .inr (4, [.ref a_tx, .ref a_rd, .ref a_td, .ref a_sp, .long v_sm_asked, .ref a_ds, .ref a_sm_fars, .ref a_sm_common, .ref a_sm_others, .ref a_sm_scale, .long y1])), (a_td, .inr (3, [.int v_td_laws, .long v_td_there, .int v_td_sayers, .ref a_td_says, .ref a_td_weights])), (a_td_says, .inl (cJ, 7, .inr (.inl f_td_says))), (a_td_weights, .inl (cI, 7, .inl f_td_weights)), (a_sm_fars, .inl (cQ, 7, .inr (.inr (.inr (.inr (fun i => if i < 7 then some (r_sm_fars i) else none)))))), ((r_sm_fars 0), .inl (cJ, 64, .inr (.inl (f_sm_fars 0)))), ((r_sm_fars 1), .inl (cJ, 64, .inr (.inl (f_sm_fars 1)))), ((r_sm_fars 2), .inl (cJ, 64, .inr (.inl (f_sm_fars 2)))), ((r_sm_fars 3), .inl (cJ, 64, .inr (.inl (f_sm_fars 3)))), ((r_sm_fars 4), .inl (cJ, 64, .inr (.inl (f_sm_fars 4)))), ((r_sm_fars 5), .inl (cJ, 64, .inr (.inl (f_sm_fars 5)))), ((r_sm_fars 6), .inl (cJ, 64, .inr (.inl (f_sm_fars 6)))), (a_sm_scale, .inl (cJ, 64, .inr (.inl f_sm_scale)))] := hD
  refine lv_aload_n hx hb dX4_firmWorth_12 rfl (lv_at hl 0 rfl) ?_
  refine lv_iload_n hx hb dX4_firmWorth_13 rfl (lv_at hl 1 rfl) ?_
  obtain ⟨v2, hv2, hf⟩ := zk_ob hf
  refine zk_go (wr := [(a_sm_fars, .inl (cQ, 7, .inr (.inr (.inr (.inr (fun i => if i < 7 then some (r_sm_fars i) else none)))))), ((r_sm_fars 0), .inl (cJ, 64, .inr (.inl (f_sm_fars 0)))), ((r_sm_fars 1), .inl (cJ, 64, .inr (.inl (f_sm_fars 1)))), ((r_sm_fars 2), .inl (cJ, 64, .inr (.inl (f_sm_fars 2)))), ((r_sm_fars 3), .inl (cJ, 64, .inr (.inl (f_sm_fars 3)))), ((r_sm_fars 4), .inl (cJ, 64, .inr (.inl (f_sm_fars 4)))), ((r_sm_fars 5), .inl (cJ, 64, .inr (.inl (f_sm_fars 5)))), ((r_sm_fars 6), .inl (cJ, 64, .inr (.inl (f_sm_fars 6)))), (a_sm_scale, .inl (cJ, 64, .inr (.inl f_sm_scale)))]) (w2 := [(a_sm, .inr (4, [.ref a_tx, .ref a_rd, .ref a_td, .ref a_sp, .long v_sm_asked, .ref a_ds, .ref a_sm_fars, .ref a_sm_common, .ref a_sm_others, .ref a_sm_scale, .long v2.2])), (a_td, .inr (3, [.int v_td_laws, .long v_td_there, .int v_td_sayers, .ref a_td_says, .ref a_td_weights])), (a_td_says, .inl (cJ, 7, .inr (.inl f_td_says))), (a_td_weights, .inl (cI, 7, .inl f_td_weights)), (a_sm_fars, .inl (cQ, 7, .inr (.inr (.inr (.inr (fun i => if i < 7 then some (r_sm_fars i) else none)))))), ((r_sm_fars 0), .inl (cJ, 64, .inr (.inl (f_sm_fars 0)))), ((r_sm_fars 1), .inl (cJ, 64, .inr (.inl (f_sm_fars 1)))), ((r_sm_fars 2), .inl (cJ, 64, .inr (.inl (f_sm_fars 2)))), ((r_sm_fars 3), .inl (cJ, 64, .inr (.inl (f_sm_fars 3)))), ((r_sm_fars 4), .inl (cJ, 64, .inr (.inl (f_sm_fars 4)))), ((r_sm_fars 5), .inl (cJ, 64, .inr (.inl (f_sm_fars 5)))), ((r_sm_fars 6), .inl (cJ, 64, .inr (.inl (f_sm_fars 6)))), (a_sm_scale, .inl (cJ, 64, .inr (.inl f_sm_scale)))]) (zk_V (As := [.int x0]) (rest := []) hx hb hml hown hts hK hG hP hD hS hA gX4_firmWorth_X4_weightyWorth rfl hd_X4_weightyWorth (Nat.le_trans (Nat.le_of_ble_eq_true rfl) hRf) (Nat.le_trans (Nat.le_of_ble_eq_true rfl) hRl) hcs (zc_X4_weightyWorth l D tL tO cI cJ cB cQ a_sm a_tx a_rd a_td a_sp a_ds a_sm_fars a_sm_common a_sm_others a_sm_scale a_td_says a_td_weights x0 v_sm_asked y1 v_td_laws v_td_there v_td_sayers f_td_says f_td_weights v2 hv2) rfl rfl 0 rfl hl.1 rfl rfl (Nat.le_of_ble_eq_true rfl) dX4_firmWorth_14 [0, 1, 2, 3] rfl rfl) hP hD hS hA [0, 1, 2, 3] [4, 5, 6, 7, 8, 9, 10, 11, 12] [9, 10, 11, 12, 0, 1, 2, 3, 4, 5, 6, 7, 8] rfl rfl rfl (by decide) rfl rfl (fun H locs hP hD hS => ?_)
  refine lv_aload_n hx hb dX4_firmWorth_17 rfl (lv_at hl 0 rfl) ?_
  refine lv_iconst (v := (0 : Int32)) hx hb dX4_firmWorth_18 (by decide) ?_
  obtain ⟨v3, hv3, hf⟩ := zk_ob hf
  refine zk_go (wr := [(a_td_says, .inl (cJ, 7, .inr (.inl f_td_says)))]) (w2 := [(a_sm, .inr (4, [.ref a_tx, .ref a_rd, .ref a_td, .ref a_sp, .long v_sm_asked, .ref a_ds, .ref a_sm_fars, .ref a_sm_common, .ref a_sm_others, .ref a_sm_scale, .long v2.2])), (a_td, .inr (3, [.int v_td_laws, .long v_td_there, .int v_td_sayers, .ref a_td_says, .ref a_td_weights])), (a_td_says, .inl (cJ, 7, .inr (.inl f_td_says))), (a_td_weights, .inl (cI, 7, .inl f_td_weights)), (a_sm_fars, .inl (cQ, 7, .inr (.inr (.inr (.inr (fun i => if i < 7 then some (r_sm_fars i) else none)))))), ((r_sm_fars 0), .inl (cJ, 64, .inr (.inl (f_sm_fars 0)))), ((r_sm_fars 1), .inl (cJ, 64, .inr (.inl (f_sm_fars 1)))), ((r_sm_fars 2), .inl (cJ, 64, .inr (.inl (f_sm_fars 2)))), ((r_sm_fars 3), .inl (cJ, 64, .inr (.inl (f_sm_fars 3)))), ((r_sm_fars 4), .inl (cJ, 64, .inr (.inl (f_sm_fars 4)))), ((r_sm_fars 5), .inl (cJ, 64, .inr (.inl (f_sm_fars 5)))), ((r_sm_fars 6), .inl (cJ, 64, .inr (.inl (f_sm_fars 6)))), (a_sm_scale, .inl (cJ, 64, .inr (.inl v3.2)))]) (zk_V (As := [.int (0 : Int32)]) (rest := [.int v2.1]) hx hb hml hown hts hK hG hP hD hS hA gX4_firmWorth_X4_mergedBy rfl hd_X4_mergedBy (Nat.le_trans (Nat.le_of_ble_eq_true rfl) hRf) (Nat.le_trans (Nat.le_of_ble_eq_true rfl) hRl) hcs (zc_X4_mergedBy l D tL tO cI cJ cB cQ a_sm a_tx a_rd a_td a_sp a_ds a_sm_fars a_sm_common a_sm_others a_sm_scale a_td_says a_td_weights r_sm_fars (0 : Int32) v_sm_asked v2.2 v_td_laws v_td_there v_td_sayers f_td_weights f_sm_fars f_sm_scale v3 hv3) rfl rfl 0 rfl hl.1 rfl rfl (Nat.le_of_ble_eq_true rfl) dX4_firmWorth_19 [0, 1, 3, 4, 5, 6, 7, 8, 9, 10, 11, 12] rfl rfl) hP hD hS hA [0, 1, 3, 4, 5, 6, 7, 8, 9, 10, 11, 12] [2] [1, 2, 0, 3, 4, 5, 6, 7, 8, 9, 10, 11, 12] rfl rfl rfl (by decide) rfl rfl (fun H locs hP hD hS => ?_)
  obtain ⟨v4, hv4, hf⟩ := zk_ob hf
  refine zk_goR (zk_S (As := [.long v3.1]) (rest := [.int v2.1]) hx hb hml hown hts hK hG hP hD hS hA gX4_firmWorth_J13_bitCount_95d88 rfl hd_J13_bitCount_95d88 (Nat.le_trans (Nat.le_of_ble_eq_true rfl) hRf) (Nat.le_trans (Nat.le_of_ble_eq_true rfl) hRl) hcs (zc_J13_bitCount_95d88 l D tL tO cI cJ cB cQ v3.1 v4 hv4) hl.1 rfl rfl (Nat.le_of_ble_eq_true rfl) dX4_firmWorth_22 [] rfl rfl) hP hD hS hA [] rfl (fun H locs hP hS => ?_)
  refine lv_iadd hx hb dX4_firmWorth_25 ?_
  obtain rfl := Option.some.inj hf
  exact hret trivial _ _ _ _ hP hD hS dX4_firmWorth_26
def zf_X4_worth (x0 : Int32) (x1 : Int32) (v_sm_traced : Int64) (v_td_there : Int64) (v_td_sayers : Int32) (f_td_says : Nat → Int64) (f_td_weights : Nat → Int32) (f_sm_fars : Nat → Nat → Int64) (f_sm_scale : Nat → Int64) : Option (Int32 × Int64 × (Nat → Int64)) :=
  (zf_X4_isSayer x1 v_td_sayers).bind (fun v1 =>
  if v1 = 0 then
  some ((-1 : Int32), v_sm_traced, f_sm_scale)
  else
  if x0 = 0 then
  (zf_X4_sayerWorth x1 v_sm_traced v_td_there f_td_says).bind (fun v3 =>
  some (v3.1, v3.2, f_sm_scale))
  else
  if x0 = 1 then
  (zf_X4_weightyWorth x1 v_sm_traced v_td_there f_td_says f_td_weights).bind (fun v5 =>
  some (v5.1, v5.2, f_sm_scale))
  else
  if x0 = 2 then
  (zf_X4_loneWorth x1 v_sm_traced v_td_there v_td_sayers f_td_says).bind (fun v7 =>
  some (v7.1, v7.2, f_sm_scale))
  else
  if x0 = 3 then
  (zf_X4_firmWorth x1 v_sm_traced v_td_there v_td_sayers f_td_says f_td_weights f_sm_fars f_sm_scale).bind (fun v9 =>
  some (v9.1, v9.2.1, v9.2.2))
  else
  some ((-1 : Int32), v_sm_traced, f_sm_scale))
theorem hd_X4_worth : yX4_worth.cls = RX4 ∧ yX4_worth.cls ≠ "java/lang/invoke/MethodHandle" ∧ yX4_worth.cls ≠ "java/lang/invoke/VarHandle" ∧ (parseMethodDescriptor yX4_worth.desc).map (fun d => d.parameters.length) = some 2 := by decide +kernel
set_option maxHeartbeats 4000000 in
set_option maxRecDepth 100000 in
theorem zc_X4_worth (l : Launch) (D : va_G) (tL tO : Nat) (cI cJ cB cQ : ClassId) (a_sm a_tx a_rd a_td a_sp a_ds a_sm_fars a_sm_common a_sm_others a_sm_scale a_td_says a_td_weights : Nat) (r_sm_fars : Nat → Nat) (x0 : Int32) (x1 : Int32) (v_sm_asked : Int64) (v_sm_traced : Int64) (v_td_laws : Int32) (v_td_there : Int64) (v_td_sayers : Int32) (f_td_says : Nat → Int64) (f_td_weights : Nat → Int32) (f_sm_fars : Nat → Nat → Int64) (f_sm_scale : Nat → Int64) (z : Int32 × Int64 × (Nat → Int64)) (hf : zf_X4_worth x0 x1 v_sm_traced v_td_there v_td_sayers f_td_says f_td_weights f_sm_fars f_sm_scale = some z) : zk_CT l D tL tO (zk_ty cI cJ cB cQ) yX4_worth wsX4_worth 5 121 [.ref a_sm, .int x0, .int x1] (some (.int z.1)) [(a_sm, .inr (4, [.ref a_tx, .ref a_rd, .ref a_td, .ref a_sp, .long v_sm_asked, .ref a_ds, .ref a_sm_fars, .ref a_sm_common, .ref a_sm_others, .ref a_sm_scale, .long v_sm_traced])), (a_td, .inr (3, [.int v_td_laws, .long v_td_there, .int v_td_sayers, .ref a_td_says, .ref a_td_weights])), (a_td_says, .inl (cJ, 7, .inr (.inl f_td_says))), (a_td_weights, .inl (cI, 7, .inl f_td_weights)), (a_sm_fars, .inl (cQ, 7, .inr (.inr (.inr (.inr (fun i => if i < 7 then some (r_sm_fars i) else none)))))), ((r_sm_fars 0), .inl (cJ, 64, .inr (.inl (f_sm_fars 0)))), ((r_sm_fars 1), .inl (cJ, 64, .inr (.inl (f_sm_fars 1)))), ((r_sm_fars 2), .inl (cJ, 64, .inr (.inl (f_sm_fars 2)))), ((r_sm_fars 3), .inl (cJ, 64, .inr (.inl (f_sm_fars 3)))), ((r_sm_fars 4), .inl (cJ, 64, .inr (.inl (f_sm_fars 4)))), ((r_sm_fars 5), .inl (cJ, 64, .inr (.inl (f_sm_fars 5)))), ((r_sm_fars 6), .inl (cJ, 64, .inr (.inl (f_sm_fars 6)))), (a_sm_scale, .inl (cJ, 64, .inr (.inl f_sm_scale)))] [(a_sm, .inr (4, [.ref a_tx, .ref a_rd, .ref a_td, .ref a_sp, .long v_sm_asked, .ref a_ds, .ref a_sm_fars, .ref a_sm_common, .ref a_sm_others, .ref a_sm_scale, .long z.2.1])), (a_td, .inr (3, [.int v_td_laws, .long v_td_there, .int v_td_sayers, .ref a_td_says, .ref a_td_weights])), (a_td_says, .inl (cJ, 7, .inr (.inl f_td_says))), (a_td_weights, .inl (cI, 7, .inl f_td_weights)), (a_sm_fars, .inl (cQ, 7, .inr (.inr (.inr (.inr (fun i => if i < 7 then some (r_sm_fars i) else none)))))), ((r_sm_fars 0), .inl (cJ, 64, .inr (.inl (f_sm_fars 0)))), ((r_sm_fars 1), .inl (cJ, 64, .inr (.inl (f_sm_fars 1)))), ((r_sm_fars 2), .inl (cJ, 64, .inr (.inl (f_sm_fars 2)))), ((r_sm_fars 3), .inl (cJ, 64, .inr (.inl (f_sm_fars 3)))), ((r_sm_fars 4), .inl (cJ, 64, .inr (.inl (f_sm_fars 4)))), ((r_sm_fars 5), .inl (cJ, 64, .inr (.inl (f_sm_fars 5)))), ((r_sm_fars 6), .inl (cJ, 64, .inr (.inl (f_sm_fars 6)))), (a_sm_scale, .inl (cJ, 64, .inr (.inl z.2.2)))] := by
  refine zk_of_i (cc := cX4_worth) (maxL := 3) (by decide) rfl (Nat.le_of_ble_eq_true rfl) ?_
  intro p e R s m args below meth c A Q ls hx hb hml hRf hRl hts hown hP hK hD hA hS hG hl hret
  have hl : lv_has ls 3 [(0, .ref a_sm), (1, .int x0), (2, .int x1)] := hl
  have hown : s.vm.findClass RX4 = some m.cls := hown
  have hcs : 0 ≤ R.cells ∧ 0 ≤ R.slots := ⟨Nat.zero_le _, Nat.zero_le _⟩
  unfold zf_X4_worth at hf
  refine lv_aload_n hx hb dX4_worth_0 rfl (lv_at hl 0 rfl) ?_
  refine lv_iload_n hx hb dX4_worth_1 rfl (lv_at hl 2 rfl) ?_
  obtain ⟨v1, hv1, hf⟩ := zk_ob hf
  refine zk_goR (zk_V (As := [.int x1]) (rest := []) hx hb hml hown hts hK hG hP hD hS hA gX4_worth_X4_isSayer rfl hd_X4_isSayer (Nat.le_trans (Nat.le_of_ble_eq_true rfl) hRf) (Nat.le_trans (Nat.le_of_ble_eq_true rfl) hRl) hcs (zc_X4_isSayer l D tL tO cI cJ cB cQ a_sm a_tx a_rd a_td a_sp a_ds a_sm_fars a_sm_common a_sm_others a_sm_scale a_td_says a_td_weights x1 v_sm_asked v_sm_traced v_td_laws v_td_there v_td_sayers v1 hv1) rfl rfl 0 rfl hl.1 rfl rfl (Nat.le_of_ble_eq_true rfl) dX4_worth_2 [0, 1] rfl rfl) hP hD hS hA [0, 1] rfl (fun H locs hP hS => ?_)
  refine lv_if_ne (tgt := 10) hx hb dX4_worth_5 (by decide) (fun c10 => ?_) (fun c10 => ?_)
  · have hf := zk_f c10 hf
    refine lv_iload_n hx hb dX4_worth_10 rfl (lv_at hl 1 rfl) ?_
    by_cases c2 : x0 = 0
    · have hf := zk_t c2 hf
      refine lv_tableIn (off := 29) (tgt := 40) hx hb dX4_worth_11 (by rw [c2]; decide) (by rw [c2]; decide) (by rw [c2]; rfl) (by decide) ?_
      refine lv_aload_n hx hb dX4_worth_40 rfl (lv_at hl 0 rfl) ?_
      refine lv_iload_n hx hb dX4_worth_41 rfl (lv_at hl 2 rfl) ?_
      obtain ⟨v3, hv3, hf⟩ := zk_ob hf
      refine zk_go (wr := [(a_td_weights, .inl (cI, 7, .inl f_td_weights)), (a_sm_fars, .inl (cQ, 7, .inr (.inr (.inr (.inr (fun i => if i < 7 then some (r_sm_fars i) else none)))))), ((r_sm_fars 0), .inl (cJ, 64, .inr (.inl (f_sm_fars 0)))), ((r_sm_fars 1), .inl (cJ, 64, .inr (.inl (f_sm_fars 1)))), ((r_sm_fars 2), .inl (cJ, 64, .inr (.inl (f_sm_fars 2)))), ((r_sm_fars 3), .inl (cJ, 64, .inr (.inl (f_sm_fars 3)))), ((r_sm_fars 4), .inl (cJ, 64, .inr (.inl (f_sm_fars 4)))), ((r_sm_fars 5), .inl (cJ, 64, .inr (.inl (f_sm_fars 5)))), ((r_sm_fars 6), .inl (cJ, 64, .inr (.inl (f_sm_fars 6)))), (a_sm_scale, .inl (cJ, 64, .inr (.inl f_sm_scale)))]) (w2 := [(a_sm, .inr (4, [.ref a_tx, .ref a_rd, .ref a_td, .ref a_sp, .long v_sm_asked, .ref a_ds, .ref a_sm_fars, .ref a_sm_common, .ref a_sm_others, .ref a_sm_scale, .long v3.2])), (a_td, .inr (3, [.int v_td_laws, .long v_td_there, .int v_td_sayers, .ref a_td_says, .ref a_td_weights])), (a_td_says, .inl (cJ, 7, .inr (.inl f_td_says))), (a_td_weights, .inl (cI, 7, .inl f_td_weights)), (a_sm_fars, .inl (cQ, 7, .inr (.inr (.inr (.inr (fun i => if i < 7 then some (r_sm_fars i) else none)))))), ((r_sm_fars 0), .inl (cJ, 64, .inr (.inl (f_sm_fars 0)))), ((r_sm_fars 1), .inl (cJ, 64, .inr (.inl (f_sm_fars 1)))), ((r_sm_fars 2), .inl (cJ, 64, .inr (.inl (f_sm_fars 2)))), ((r_sm_fars 3), .inl (cJ, 64, .inr (.inl (f_sm_fars 3)))), ((r_sm_fars 4), .inl (cJ, 64, .inr (.inl (f_sm_fars 4)))), ((r_sm_fars 5), .inl (cJ, 64, .inr (.inl (f_sm_fars 5)))), ((r_sm_fars 6), .inl (cJ, 64, .inr (.inl (f_sm_fars 6)))), (a_sm_scale, .inl (cJ, 64, .inr (.inl f_sm_scale)))]) (zk_V (As := [.int x1]) (rest := []) hx hb hml hown hts hK hG hP hD hS hA gX4_worth_X4_sayerWorth rfl hd_X4_sayerWorth (Nat.le_trans (Nat.le_of_ble_eq_true rfl) hRf) (Nat.le_trans (Nat.le_of_ble_eq_true rfl) hRl) hcs (zc_X4_sayerWorth l D tL tO cI cJ cB cQ a_sm a_tx a_rd a_td a_sp a_ds a_sm_fars a_sm_common a_sm_others a_sm_scale a_td_says a_td_weights x1 v_sm_asked v_sm_traced v_td_laws v_td_there v_td_sayers f_td_says v3 hv3) rfl rfl 0 rfl hl.1 rfl rfl (Nat.le_of_ble_eq_true rfl) dX4_worth_42 [0, 1, 2] rfl rfl) hP hD hS hA [0, 1, 2] [3, 4, 5, 6, 7, 8, 9, 10, 11, 12] [10, 11, 12, 0, 1, 2, 3, 4, 5, 6, 7, 8, 9] rfl rfl rfl (by decide) rfl rfl (fun H locs hP hD hS => ?_)
      obtain rfl := Option.some.inj hf
      exact hret trivial _ _ _ _ hP hD hS dX4_worth_45
    · have hf := zk_f c2 hf
      by_cases c4 : x0 = 1
      · have hf := zk_t c4 hf
        refine lv_tableIn (off := 35) (tgt := 46) hx hb dX4_worth_11 (by rw [c4]; decide) (by rw [c4]; decide) (by rw [c4]; rfl) (by decide) ?_
        refine lv_aload_n hx hb dX4_worth_46 rfl (lv_at hl 0 rfl) ?_
        refine lv_iload_n hx hb dX4_worth_47 rfl (lv_at hl 2 rfl) ?_
        obtain ⟨v5, hv5, hf⟩ := zk_ob hf
        refine zk_go (wr := [(a_sm_fars, .inl (cQ, 7, .inr (.inr (.inr (.inr (fun i => if i < 7 then some (r_sm_fars i) else none)))))), ((r_sm_fars 0), .inl (cJ, 64, .inr (.inl (f_sm_fars 0)))), ((r_sm_fars 1), .inl (cJ, 64, .inr (.inl (f_sm_fars 1)))), ((r_sm_fars 2), .inl (cJ, 64, .inr (.inl (f_sm_fars 2)))), ((r_sm_fars 3), .inl (cJ, 64, .inr (.inl (f_sm_fars 3)))), ((r_sm_fars 4), .inl (cJ, 64, .inr (.inl (f_sm_fars 4)))), ((r_sm_fars 5), .inl (cJ, 64, .inr (.inl (f_sm_fars 5)))), ((r_sm_fars 6), .inl (cJ, 64, .inr (.inl (f_sm_fars 6)))), (a_sm_scale, .inl (cJ, 64, .inr (.inl f_sm_scale)))]) (w2 := [(a_sm, .inr (4, [.ref a_tx, .ref a_rd, .ref a_td, .ref a_sp, .long v_sm_asked, .ref a_ds, .ref a_sm_fars, .ref a_sm_common, .ref a_sm_others, .ref a_sm_scale, .long v5.2])), (a_td, .inr (3, [.int v_td_laws, .long v_td_there, .int v_td_sayers, .ref a_td_says, .ref a_td_weights])), (a_td_says, .inl (cJ, 7, .inr (.inl f_td_says))), (a_td_weights, .inl (cI, 7, .inl f_td_weights)), (a_sm_fars, .inl (cQ, 7, .inr (.inr (.inr (.inr (fun i => if i < 7 then some (r_sm_fars i) else none)))))), ((r_sm_fars 0), .inl (cJ, 64, .inr (.inl (f_sm_fars 0)))), ((r_sm_fars 1), .inl (cJ, 64, .inr (.inl (f_sm_fars 1)))), ((r_sm_fars 2), .inl (cJ, 64, .inr (.inl (f_sm_fars 2)))), ((r_sm_fars 3), .inl (cJ, 64, .inr (.inl (f_sm_fars 3)))), ((r_sm_fars 4), .inl (cJ, 64, .inr (.inl (f_sm_fars 4)))), ((r_sm_fars 5), .inl (cJ, 64, .inr (.inl (f_sm_fars 5)))), ((r_sm_fars 6), .inl (cJ, 64, .inr (.inl (f_sm_fars 6)))), (a_sm_scale, .inl (cJ, 64, .inr (.inl f_sm_scale)))]) (zk_V (As := [.int x1]) (rest := []) hx hb hml hown hts hK hG hP hD hS hA gX4_worth_X4_weightyWorth rfl hd_X4_weightyWorth (Nat.le_trans (Nat.le_of_ble_eq_true rfl) hRf) (Nat.le_trans (Nat.le_of_ble_eq_true rfl) hRl) hcs (zc_X4_weightyWorth l D tL tO cI cJ cB cQ a_sm a_tx a_rd a_td a_sp a_ds a_sm_fars a_sm_common a_sm_others a_sm_scale a_td_says a_td_weights x1 v_sm_asked v_sm_traced v_td_laws v_td_there v_td_sayers f_td_says f_td_weights v5 hv5) rfl rfl 0 rfl hl.1 rfl rfl (Nat.le_of_ble_eq_true rfl) dX4_worth_48 [0, 1, 2, 3] rfl rfl) hP hD hS hA [0, 1, 2, 3] [4, 5, 6, 7, 8, 9, 10, 11, 12] [9, 10, 11, 12, 0, 1, 2, 3, 4, 5, 6, 7, 8] rfl rfl rfl (by decide) rfl rfl (fun H locs hP hD hS => ?_)
        obtain rfl := Option.some.inj hf
        exact hret trivial _ _ _ _ hP hD hS dX4_worth_51
      · have hf := zk_f c4 hf
        by_cases c6 : x0 = 2
        · have hf := zk_t c6 hf
          refine lv_tableIn (off := 41) (tgt := 52) hx hb dX4_worth_11 (by rw [c6]; decide) (by rw [c6]; decide) (by rw [c6]; rfl) (by decide) ?_
          refine lv_aload_n hx hb dX4_worth_52 rfl (lv_at hl 0 rfl) ?_
          refine lv_iload_n hx hb dX4_worth_53 rfl (lv_at hl 2 rfl) ?_
          obtain ⟨v7, hv7, hf⟩ := zk_ob hf
          refine zk_go (wr := [(a_td_weights, .inl (cI, 7, .inl f_td_weights)), (a_sm_fars, .inl (cQ, 7, .inr (.inr (.inr (.inr (fun i => if i < 7 then some (r_sm_fars i) else none)))))), ((r_sm_fars 0), .inl (cJ, 64, .inr (.inl (f_sm_fars 0)))), ((r_sm_fars 1), .inl (cJ, 64, .inr (.inl (f_sm_fars 1)))), ((r_sm_fars 2), .inl (cJ, 64, .inr (.inl (f_sm_fars 2)))), ((r_sm_fars 3), .inl (cJ, 64, .inr (.inl (f_sm_fars 3)))), ((r_sm_fars 4), .inl (cJ, 64, .inr (.inl (f_sm_fars 4)))), ((r_sm_fars 5), .inl (cJ, 64, .inr (.inl (f_sm_fars 5)))), ((r_sm_fars 6), .inl (cJ, 64, .inr (.inl (f_sm_fars 6)))), (a_sm_scale, .inl (cJ, 64, .inr (.inl f_sm_scale)))]) (w2 := [(a_sm, .inr (4, [.ref a_tx, .ref a_rd, .ref a_td, .ref a_sp, .long v_sm_asked, .ref a_ds, .ref a_sm_fars, .ref a_sm_common, .ref a_sm_others, .ref a_sm_scale, .long v7.2])), (a_td, .inr (3, [.int v_td_laws, .long v_td_there, .int v_td_sayers, .ref a_td_says, .ref a_td_weights])), (a_td_says, .inl (cJ, 7, .inr (.inl f_td_says))), (a_td_weights, .inl (cI, 7, .inl f_td_weights)), (a_sm_fars, .inl (cQ, 7, .inr (.inr (.inr (.inr (fun i => if i < 7 then some (r_sm_fars i) else none)))))), ((r_sm_fars 0), .inl (cJ, 64, .inr (.inl (f_sm_fars 0)))), ((r_sm_fars 1), .inl (cJ, 64, .inr (.inl (f_sm_fars 1)))), ((r_sm_fars 2), .inl (cJ, 64, .inr (.inl (f_sm_fars 2)))), ((r_sm_fars 3), .inl (cJ, 64, .inr (.inl (f_sm_fars 3)))), ((r_sm_fars 4), .inl (cJ, 64, .inr (.inl (f_sm_fars 4)))), ((r_sm_fars 5), .inl (cJ, 64, .inr (.inl (f_sm_fars 5)))), ((r_sm_fars 6), .inl (cJ, 64, .inr (.inl (f_sm_fars 6)))), (a_sm_scale, .inl (cJ, 64, .inr (.inl f_sm_scale)))]) (zk_V (As := [.int x1]) (rest := []) hx hb hml hown hts hK hG hP hD hS hA gX4_worth_X4_loneWorth rfl hd_X4_loneWorth (Nat.le_trans (Nat.le_of_ble_eq_true rfl) hRf) (Nat.le_trans (Nat.le_of_ble_eq_true rfl) hRl) hcs (zc_X4_loneWorth l D tL tO cI cJ cB cQ a_sm a_tx a_rd a_td a_sp a_ds a_sm_fars a_sm_common a_sm_others a_sm_scale a_td_says a_td_weights x1 v_sm_asked v_sm_traced v_td_laws v_td_there v_td_sayers f_td_says v7 hv7) rfl rfl 0 rfl hl.1 rfl rfl (Nat.le_of_ble_eq_true rfl) dX4_worth_54 [0, 1, 2] rfl rfl) hP hD hS hA [0, 1, 2] [3, 4, 5, 6, 7, 8, 9, 10, 11, 12] [10, 11, 12, 0, 1, 2, 3, 4, 5, 6, 7, 8, 9] rfl rfl rfl (by decide) rfl rfl (fun H locs hP hD hS => ?_)
          obtain rfl := Option.some.inj hf
          exact hret trivial _ _ _ _ hP hD hS dX4_worth_57
        · have hf := zk_f c6 hf
          by_cases c8 : x0 = 3
          · have hf := zk_t c8 hf
            refine lv_tableIn (off := 47) (tgt := 58) hx hb dX4_worth_11 (by rw [c8]; decide) (by rw [c8]; decide) (by rw [c8]; rfl) (by decide) ?_
            refine lv_aload_n hx hb dX4_worth_58 rfl (lv_at hl 0 rfl) ?_
            refine lv_iload_n hx hb dX4_worth_59 rfl (lv_at hl 2 rfl) ?_
            obtain ⟨v9, hv9, hf⟩ := zk_ob hf
            refine zk_go (wr := []) (w2 := [(a_sm, .inr (4, [.ref a_tx, .ref a_rd, .ref a_td, .ref a_sp, .long v_sm_asked, .ref a_ds, .ref a_sm_fars, .ref a_sm_common, .ref a_sm_others, .ref a_sm_scale, .long v9.2.1])), (a_td, .inr (3, [.int v_td_laws, .long v_td_there, .int v_td_sayers, .ref a_td_says, .ref a_td_weights])), (a_td_says, .inl (cJ, 7, .inr (.inl f_td_says))), (a_td_weights, .inl (cI, 7, .inl f_td_weights)), (a_sm_fars, .inl (cQ, 7, .inr (.inr (.inr (.inr (fun i => if i < 7 then some (r_sm_fars i) else none)))))), ((r_sm_fars 0), .inl (cJ, 64, .inr (.inl (f_sm_fars 0)))), ((r_sm_fars 1), .inl (cJ, 64, .inr (.inl (f_sm_fars 1)))), ((r_sm_fars 2), .inl (cJ, 64, .inr (.inl (f_sm_fars 2)))), ((r_sm_fars 3), .inl (cJ, 64, .inr (.inl (f_sm_fars 3)))), ((r_sm_fars 4), .inl (cJ, 64, .inr (.inl (f_sm_fars 4)))), ((r_sm_fars 5), .inl (cJ, 64, .inr (.inl (f_sm_fars 5)))), ((r_sm_fars 6), .inl (cJ, 64, .inr (.inl (f_sm_fars 6)))), (a_sm_scale, .inl (cJ, 64, .inr (.inl v9.2.2)))]) (zk_V (As := [.int x1]) (rest := []) hx hb hml hown hts hK hG hP hD hS hA gX4_worth_X4_firmWorth rfl hd_X4_firmWorth (Nat.le_trans (Nat.le_of_ble_eq_true rfl) hRf) (Nat.le_trans (Nat.le_of_ble_eq_true rfl) hRl) hcs (zc_X4_firmWorth l D tL tO cI cJ cB cQ a_sm a_tx a_rd a_td a_sp a_ds a_sm_fars a_sm_common a_sm_others a_sm_scale a_td_says a_td_weights r_sm_fars x1 v_sm_asked v_sm_traced v_td_laws v_td_there v_td_sayers f_td_says f_td_weights f_sm_fars f_sm_scale v9 hv9) rfl rfl 0 rfl hl.1 rfl rfl (Nat.le_of_ble_eq_true rfl) dX4_worth_60 [0, 1, 2, 3, 4, 5, 6, 7, 8, 9, 10, 11, 12] rfl rfl) hP hD hS hA [0, 1, 2, 3, 4, 5, 6, 7, 8, 9, 10, 11, 12] [] [0, 1, 2, 3, 4, 5, 6, 7, 8, 9, 10, 11, 12] rfl rfl rfl (by decide) rfl rfl (fun H locs hP hD hS => ?_)
            obtain rfl := Option.some.inj hf
            exact hret trivial _ _ _ _ hP hD hS dX4_worth_63
          · have hf := zk_f c8 hf
            refine lv_tableOut (tgt := 64) hx hb dX4_worth_11 (by have h0 := lv_neT c2 (a := 0) (by decide); have h1 := lv_neT c4 (a := 1) (by decide); have h2 := lv_neT c6 (a := 2) (by decide); have h3 := lv_neT c8 (a := 3) (by decide); omega) (by decide) ?_
            refine lv_iconst (v := (-1 : Int32)) hx hb dX4_worth_64 (by decide) ?_
            obtain rfl := Option.some.inj hf
            exact hret trivial _ _ _ _ hP hD hS dX4_worth_65
  · have hf := zk_t c10 hf
    refine lv_iconst (v := (-1 : Int32)) hx hb dX4_worth_8 (by decide) ?_
    obtain rfl := Option.some.inj hf
    exact hret trivial _ _ _ _ hP hD hS dX4_worth_9
