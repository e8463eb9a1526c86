def zl_X5_loss_5 (x0 : Int64) (f_md_truth : Nat → Int32) : Nat → (Int32) → (Int32) → Option (Int32 × Int32)
  | 0, _, _ => none
  | n + 1, w1, w2 =>
    if (64 : Int32) ≤ w2 then
    some (w1, w2)
    else
    (zf_X5_has x0 w2).bind (fun v3 =>
    if v3 = 0 then
    zk_lt (w2 + 1) (fun y4 =>
    zl_X5_loss_5 x0 f_md_truth n w1 y4)
    else
    zk_gd (zk_in w2 64)
    (if (f_md_truth w2.toNatClampNeg) ≤ w1 then
    zk_lt (w2 + 1) (fun y6 =>
    zl_X5_loss_5 x0 f_md_truth n w1 y6)
    else
    zk_lt (f_md_truth w2.toNatClampNeg) (fun y7 =>
    zk_lt (w2 + 1) (fun y8 =>
    zl_X5_loss_5 x0 f_md_truth n y7 y8))))
def zf_X5_loss (x0 : Int64) (f_md_truth : Nat → Int32) : Option (Int32) :=
  (zl_X5_loss_5 x0 f_md_truth zk_F (0 : Int32) (0 : Int32)).bind (fun v12 =>
  some v12.1)
theorem hd_X5_loss : yX5_loss.cls = RX5 ∧ yX5_loss.cls ≠ "java/lang/invoke/MethodHandle" ∧ yX5_loss.cls ≠ "java/lang/invoke/VarHandle" ∧ (parseMethodDescriptor yX5_loss.desc).map (fun d => d.parameters.length) = some 1 := by decide +kernel
set_option maxHeartbeats 4000000 in
set_option maxRecDepth 100000 in
theorem zc_X5_loss (l : Launch) (D : va_G) (tL tO : Nat) (cI cJ cB cQ : ClassId) (a_md a_md_text a_md_weight a_md_says a_md_cost a_md_readWeight a_md_readSays a_md_opened a_md_any a_md_all a_md_burdens a_md_best a_md_own a_md_truth : Nat) (x0 : Int64) (v_md_length : Int32) (v_md_laws : Int32) (v_md_sayers : Int32) (v_md_there : Int64) (v_md_question : Int64) (v_md_measure : Int32) (v_md_trace : Int64) (v_md_readLaws : Int32) (v_md_readSayers : Int32) (v_md_readThere : Int64) (v_md_begin : Int32) (v_md_end : Int32) (v_md_sort : Int32) (v_md_open : Int32) (v_md_level : Int32) (v_md_said : Int64) (f_md_truth : Nat → Int32) (z : Int32) (hf : zf_X5_loss x0 f_md_truth = some z) : zk_CT l D tL tO (zk_ty cI cJ cB cQ) yX5_loss wsX5_loss 1 22 [.ref a_md, .long x0] (some (.int z)) [(a_md, .inr (5, [.int v_md_length, .ref a_md_text, .int v_md_laws, .int v_md_sayers, .long v_md_there, .long v_md_question, .ref a_md_weight, .ref a_md_says, .ref a_md_cost, .int v_md_measure, .long v_md_trace, .int v_md_readLaws, .int v_md_readSayers, .long v_md_readThere, .ref a_md_readWeight, .ref a_md_readSays, .int v_md_begin, .int v_md_end, .int v_md_sort, .int v_md_open, .ref a_md_opened, .int v_md_level, .ref a_md_any, .ref a_md_all, .long v_md_said, .ref a_md_burdens, .ref a_md_best, .ref a_md_own, .ref a_md_truth])), (a_md_truth, .inl (cI, 64, .inl f_md_truth))] [(a_md, .inr (5, [.int v_md_length, .ref a_md_text, .int v_md_laws, .int v_md_sayers, .long v_md_there, .long v_md_question, .ref a_md_weight, .ref a_md_says, .ref a_md_cost, .int v_md_measure, .long v_md_trace, .int v_md_readLaws, .int v_md_readSayers, .long v_md_readThere, .ref a_md_readWeight, .ref a_md_readSays, .int v_md_begin, .int v_md_end, .int v_md_sort, .int v_md_open, .ref a_md_opened, .int v_md_level, .ref a_md_any, .ref a_md_all, .long v_md_said, .ref a_md_burdens, .ref a_md_best, .ref a_md_own, .ref a_md_truth])), (a_md_truth, .inl (cI, 64, .inl f_md_truth))] := by
  refine zk_of_i (cc := cX5_loss) (maxL := 5) (by decide) rfl (Nat.le_of_ble_eq_true rfl) ?_
  intro p e R s m args below meth c A Q ls hx hb hml hRf hRl hts hown hP hK hD hA hS hG hl hret
  have hl : lv_has ls 5 [(0, .ref a_md), (1, .long x0)] := hl
  have hown : s.vm.findClass RX5 = some m.cls := hown
  have hcs : 0 ≤ R.cells ∧ 0 ≤ R.slots := ⟨Nat.zero_le _, Nat.zero_le _⟩
  have lk0 := hts (.fieldLink RX5 57 "SayingsMergedModel" "truth" "[I") (by decide +kernel)
  have inX5 : ∀ w ∈ wsX50, w ∈ wsX5_loss := by decide +kernel
  unfold zf_X5_loss at hf
  refine lv_iconst (v := (0 : Int32)) hx hb dX5_loss_0 (by decide) ?_
  refine lv_istore_n (lv' := [(3, .int (0 : Int32)), (0, .ref a_md), (1, .long x0)]) hx hb dX5_loss_1 rfl hl (by decide) rfl (fun ls hl => ?_)
  refine lv_iconst (v := (0 : Int32)) hx hb dX5_loss_2 (by decide) ?_
  refine lv_istore (lv' := [(4, .int (0 : Int32)), (3, .int (0 : Int32)), (0, .ref a_md), (1, .long x0)]) hx hb dX5_loss_3 hl (by decide) rfl (fun ls hl => ?_)
  have lp5 : ∀ (n : Nat) (w1 : Int32) (w2 : Int32) (z5 : Int32 × Int32) (H : Heap) (locs : List Loc) (ls : Array Slot), zl_X5_loss_5 x0 f_md_truth n w1 w2 = some z5 → va_P D vwCl [(a_md, .inr (5, [.int v_md_length, .ref a_md_text, .int v_md_laws, .int v_md_sayers, .long v_md_there, .long v_md_question, .ref a_md_weight, .ref a_md_says, .ref a_md_cost, .int v_md_measure, .long v_md_trace, .int v_md_readLaws, .int v_md_readSayers, .long v_md_readThere, .ref a_md_readWeight, .ref a_md_readSays, .int v_md_begin, .int v_md_end, .int v_md_sort, .int v_md_open, .ref a_md_opened, .int v_md_level, .ref a_md_any, .ref a_md_all, .long v_md_said, .ref a_md_burdens, .ref a_md_best, .ref a_md_own, .ref a_md_truth])), (a_md_truth, .inl (cI, 64, .inl f_md_truth))] H → va_D A [(a_md, .inr (5, [.int v_md_length, .ref a_md_text, .int v_md_laws, .int v_md_sayers, .long v_md_there, .long v_md_question, .ref a_md_weight, .ref a_md_says, .ref a_md_cost, .int v_md_measure, .long v_md_trace, .int v_md_readLaws, .int v_md_readSayers, .long v_md_readThere, .ref a_md_readWeight, .ref a_md_readSays, .int v_md_begin, .int v_md_end, .int v_md_sort, .int v_md_open, .ref a_md_opened, .int v_md_level, .ref a_md_any, .ref a_md_all, .long v_md_said, .ref a_md_burdens, .ref a_md_best, .ref a_md_own, .ref a_md_truth])), (a_md_truth, .inl (cI, 64, .inl f_md_truth))] → va_S A s.heap H locs → lv_has ls 5 [(0, .ref a_md), (1, .long x0), (3, .int w1), (4, .int w2)] → (∀ (H : Heap) (locs : List Loc) (ls : Array Slot), va_P D vwCl [(a_md, .inr (5, [.int v_md_length, .ref a_md_text, .int v_md_laws, .int v_md_sayers, .long v_md_there, .long v_md_question, .ref a_md_weight, .ref a_md_says, .ref a_md_cost, .int v_md_measure, .long v_md_trace, .int v_md_readLaws, .int v_md_readSayers, .long v_md_readThere, .ref a_md_readWeight, .ref a_md_readSays, .int v_md_begin, .int v_md_end, .int v_md_sort, .int v_md_open, .ref a_md_opened, .int v_md_level, .ref a_md_any, .ref a_md_all, .long v_md_said, .ref a_md_burdens, .ref a_md_best, .ref a_md_own, .ref a_md_truth])), (a_md_truth, .inl (cI, 64, .inl f_md_truth))] H → va_D A [(a_md, .inr (5, [.int v_md_length, .ref a_md_text, .int v_md_laws, .int v_md_sayers, .long v_md_there, .long v_md_question, .ref a_md_weight, .ref a_md_says, .ref a_md_cost, .int v_md_measure, .long v_md_trace, .int v_md_readLaws, .int v_md_readSayers, .long v_md_readThere, .ref a_md_readWeight, .ref a_md_readSays, .int v_md_begin, .int v_md_end, .int v_md_sort, .int v_md_open, .ref a_md_opened, .int v_md_level, .ref a_md_any, .ref a_md_all, .long v_md_said, .ref a_md_burdens, .ref a_md_best, .ref a_md_own, .ref a_md_truth])), (a_md_truth, .inl (cI, 64, .inl f_md_truth))] → va_S A s.heap H locs → lv_has ls 5 [(0, .ref a_md), (1, .long x0), (3, .int z5.1), (4, .int z5.2)] → W p l e R s m args below meth c H locs 0 0 Q (F0 m 50 ls [])) → W p l e R s m args below meth c H locs 0 0 Q (F0 m 5 ls []) := by
    intro n
    induction n with
    | zero => intro w1 w2 z5 H locs ls hf; exact absurd (show none = some z5 from hf) (by simp)
    | succ n ih =>
      intro w1 w2 z5 H locs ls hf hP hD hS hl hk
      rw [zl_X5_loss_5] at hf
      refine lv_iload hx hb dX5_loss_5 (lv_at hl 3 rfl) ?_
      refine lv_bipush (v := (64 : Int32)) hx hb dX5_loss_7 (by decide) ?_
      refine lv_icmp_ge (tgt := 50) hx hb dX5_loss_9 (by decide) (fun c11 => ?_) (fun c11 => ?_)
      · have hf := zk_t c11 hf
        obtain rfl := Option.some.inj hf
        exact hk _ _ _ hP hD hS (lv_sub hl [0, 1, 2, 3] rfl)
      · have hf := zk_f c11 hf
        refine lv_lload_n hx hb dX5_loss_12 rfl (lv_at hl 1 rfl) ?_
        refine lv_iload hx hb dX5_loss_13 (lv_at hl 3 rfl) ?_
        obtain ⟨v3, hv3, hf⟩ := zk_ob hf
        refine zk_goR (zk_S (As := [.long x0, .int w2]) (rest := []) hx hb hml hown hts hK hG hP hD hS hA gX5_loss_X5_has rfl hd_X5_has (Nat.le_trans (Nat.le_of_ble_eq_true rfl) hRf) (Nat.le_trans (Nat.le_of_ble_eq_true rfl) hRl) hcs (zc_X5_has l D tL tO cI cJ cB cQ x0 w2 v3 hv3) hl.1 rfl rfl (Nat.le_of_ble_eq_true rfl) dX5_loss_15 [] rfl rfl) hP hD hS hA [] rfl (fun H locs hP hS => ?_)
        refine lv_if_eq (tgt := 42) hx hb dX5_loss_18 (by decide) (fun c10 => ?_) (fun c10 => ?_)
        · have hf := zk_t c10 hf
          refine lv_iload_n hx hb dX5_loss_42 rfl (lv_at hl 2 rfl) ?_
          refine lv_istore_n (lv' := [(3, .int w1), (0, .ref a_md), (1, .long x0), (4, .int w2)]) hx hb dX5_loss_43 rfl hl (by decide) rfl (fun ls hl => ?_)
          obtain ⟨y4, ey4, hf⟩ := zk_lt_s hf
          refine lv_iinc (v := y4) (lv' := [(4, .int y4), (3, .int w1), (0, .ref a_md), (1, .long x0)]) hx hb dX5_loss_44 hl (k := 3) rfl (by rw [ey4]; rfl) (by decide) rfl (fun ls hl => ?_)
          refine lv_goto (tgt := 5) hx hb dX5_loss_47 (by decide) ?_
          exact ih w1 y4 _ _ _ _ hf hP hD hS (lv_sub hl [2, 3, 1, 0] rfl) hk
        · have hf := zk_f c10 hf
          refine lv_aload_n hx hb dX5_loss_21 rfl (lv_at hl 0 rfl) ?_
          refine va_get (ci := 5) (v := .ref a_md_truth) (C := RX5) (T := TX5) (N := 29) hx hb hts inX5 hown hK hP 0 rfl rfl 28 (by decide) lk0 (fun _ h9 => h9) rfl dX5_loss_22 ?_
          refine lv_iload hx hb dX5_loss_25 (lv_at hl 3 rfl) ?_
          obtain ⟨g5, hf⟩ := zk_gd_s hf
          refine va_iald hx hb hK hP 1 0 rfl rfl (zk_in_s g5) dX5_loss_27 ?_
          refine lv_iload_n hx hb dX5_loss_28 rfl (lv_at hl 2 rfl) ?_
          refine lv_icmp_le (tgt := 42) hx hb dX5_loss_29 (by decide) (fun c9 => ?_) (fun c9 => ?_)
          · have hf := zk_t c9 hf
            refine lv_iload_n hx hb dX5_loss_42 rfl (lv_at hl 2 rfl) ?_
            refine lv_istore_n (lv' := [(3, .int w1), (0, .ref a_md), (1, .long x0), (4, .int w2)]) hx hb dX5_loss_43 rfl hl (by decide) rfl (fun ls hl => ?_)
            obtain ⟨y6, ey6, hf⟩ := zk_lt_s hf
            refine lv_iinc (v := y6) (lv' := [(4, .int y6), (3, .int w1), (0, .ref a_md), (1, .long x0)]) hx hb dX5_loss_44 hl (k := 3) rfl (by rw [ey6]; rfl) (by decide) rfl (fun ls hl => ?_)
            refine lv_goto (tgt := 5) hx hb dX5_loss_47 (by decide) ?_
            exact ih w1 y6 _ _ _ _ hf hP hD hS (lv_sub hl [2, 3, 1, 0] rfl) hk
          · have hf := zk_f c9 hf
            refine lv_aload_n hx hb dX5_loss_32 rfl (lv_at hl 0 rfl) ?_
            refine va_get (ci := 5) (v := .ref a_md_truth) (C := RX5) (T := TX5) (N := 29) hx hb hts inX5 hown hK hP 0 rfl rfl 28 (by decide) lk0 (fun _ h9 => h9) rfl dX5_loss_33 ?_
            refine lv_iload hx hb dX5_loss_36 (lv_at hl 3 rfl) ?_
            refine va_iald hx hb hK hP 1 0 rfl rfl (zk_in_s g5) dX5_loss_38 ?_
            refine lv_goto (tgt := 43) hx hb dX5_loss_39 (by decide) ?_
            obtain ⟨y7, ey7, hf⟩ := zk_lt_s hf
            refine zk_topi ey7 ?_
            refine lv_istore_n (lv' := [(3, .int y7), (0, .ref a_md), (1, .long x0), (4, .int w2)]) hx hb dX5_loss_43 rfl hl (by decide) rfl (fun ls hl => ?_)
            obtain ⟨y8, ey8, hf⟩ := zk_lt_s hf
            refine lv_iinc (v := y8) (lv' := [(4, .int y8), (3, .int y7), (0, .ref a_md), (1, .long x0)]) hx hb dX5_loss_44 hl (k := 3) rfl (by rw [ey8]; rfl) (by decide) rfl (fun ls hl => ?_)
            refine lv_goto (tgt := 5) hx hb dX5_loss_47 (by decide) ?_
            exact ih y7 y8 _ _ _ _ hf hP hD hS (lv_sub hl [2, 3, 1, 0] rfl) hk
  obtain ⟨v12, hv12, hf⟩ := zk_ob hf
  refine lp5 zk_F (0 : Int32) (0 : Int32) v12 _ _ _ hv12 hP hD hS (lv_sub hl [2, 3, 1, 0] rfl) ?_
  intro H locs ls hP hD hS hl
  refine lv_iload_n hx hb dX5_loss_50 rfl (lv_at hl 2 rfl) ?_
  obtain rfl := Option.some.inj hf
  exact hret trivial _ _ _ _ hP hD hS dX5_loss_51
def zl_X5_laysTerm_29 (f_md_cost : Nat → Int32) (y3 : Int32) : Nat → (Int32) → (Int32) → Option (Int32 × Int32)
  | 0, _, _ => none
  | n + 1, w4, w5 =>
    if (6 : Int32) ≤ w5 then
    some (w4, w5)
    else
    (zf_X5_has y3.toInt64 w5).bind (fun v6 =>
    if v6 = 0 then
    zk_lt (w4 + (0 : Int32)) (fun y7 =>
    zk_lt (w5 + 1) (fun y8 =>
    zl_X5_laysTerm_29 f_md_cost y3 n y7 y8))
    else
    zk_gd (zk_in w5 6)
    (zk_lt (w4 + (f_md_cost w5.toNatClampNeg)) (fun y10 =>
    zk_lt (w5 + 1) (fun y11 =>
    zl_X5_laysTerm_29 f_md_cost y3 n y10 y11))))
def zl_X5_laysTerm_3 (x0 : Int32) (x1 : Int32) (x2 : Int32) (v_md_measure : Int32) (f_md_weight : Nat → Int32) (f_md_cost : Nat → Int32) : Nat → (Int32) → (Nat → Int32) → Option (Int32 × (Nat → Int32))
  | 0, _, _ => none
  | n + 1, w1, w2 =>
    if (64 : Int32) ≤ w1 then
    some (w1, w2)
    else
    zk_lt ((x1 &&& (w1 ^^^ (-1 : Int32))) ||| (x2 &&& w1)) (fun y3 =>
    (zl_X5_laysTerm_29 f_md_cost y3 zk_F (0 : Int32) (0 : Int32)).bind (fun v14 =>
    zk_gd (zk_in x0 7)
    (if v_md_measure = 0 then
    zk_gd (zk_in (((64 : Int32) * x0) + w1) 448)
    (zk_lt (w1 + 1) (fun y23 =>
    zl_X5_laysTerm_3 x0 x1 x2 v_md_measure f_md_weight f_md_cost n y23 (upd w2 (((64 : Int32) * x0) + w1).toNatClampNeg ((f_md_weight x0.toNatClampNeg) * v14.1))))
    else
    if y3 = 0 then
    zk_gd (zk_in (((64 : Int32) * x0) + w1) 448)
    (zk_lt (w1 + 1) (fun y20 =>
    zl_X5_laysTerm_3 x0 x1 x2 v_md_measure f_md_weight f_md_cost n y20 (upd w2 (((64 : Int32) * x0) + w1).toNatClampNeg ((f_md_weight x0.toNatClampNeg) * (0 : Int32)))))
    else
    zk_gd (zk_in (((64 : Int32) * x0) + w1) 448)
    (zk_lt (w1 + 1) (fun y18 =>
    zl_X5_laysTerm_3 x0 x1 x2 v_md_measure f_md_weight f_md_cost n y18 (upd w2 (((64 : Int32) * x0) + w1).toNatClampNeg ((f_md_weight x0.toNatClampNeg) * (1 : Int32))))))))
def zf_X5_laysTerm (x0 : Int32) (x1 : Int32) (x2 : Int32) (v_md_measure : Int32) (f_md_weight : Nat → Int32) (f_md_cost : Nat → Int32) (f_md_burdens : Nat → Int32) : Option (Nat → Int32) :=
  (zl_X5_laysTerm_3 x0 x1 x2 v_md_measure f_md_weight f_md_cost zk_F (0 : Int32) f_md_burdens).bind (fun v26 =>
  some v26.2)
theorem hd_X5_laysTerm : yX5_laysTerm.cls = RX5 ∧ yX5_laysTerm.cls ≠ "java/lang/invoke/MethodHandle" ∧ yX5_laysTerm.cls ≠ "java/lang/invoke/VarHandle" ∧ (parseMethodDescriptor yX5_laysTerm.desc).map (fun d => d.parameters.length) = some 3 := by decide +kernel
set_option maxHeartbeats 4000000 in
set_option maxRecDepth 100000 in
theorem zc_X5_laysTerm (l : Launch) (D : va_G) (tL tO : Nat) (cI cJ cB cQ : ClassId) (a_md a_md_text a_md_weight a_md_says a_md_cost a_md_readWeight a_md_readSays a_md_opened a_md_any a_md_all a_md_burdens a_md_best a_md_own a_md_truth : Nat) (x0 : Int32) (x1 : Int32) (x2 : Int32) (v_md_length : Int32) (v_md_laws : Int32) (v_md_sayers : Int32) (v_md_there : Int64) (v_md_question : Int64) (v_md_measure : Int32) (v_md_trace : Int64) (v_md_readLaws : Int32) (v_md_readSayers : Int32) (v_md_readThere : Int64) (v_md_begin : Int32) (v_md_end : Int32) (v_md_sort : Int32) (v_md_open : Int32) (v_md_level : Int32) (v_md_said : Int64) (f_md_weight : Nat → Int32) (f_md_cost : Nat → Int32) (f_md_burdens : Nat → Int32) (z : Nat → Int32) (hf : zf_X5_laysTerm x0 x1 x2 v_md_measure f_md_weight f_md_cost f_md_burdens = some z) : zk_CT l D tL tO (zk_ty cI cJ cB cQ) yX5_laysTerm wsX5_laysTerm 1 22 [.ref a_md, .int x0, .int x1, .int x2] none [(a_md, .inr (5, [.int v_md_length, .ref a_md_text, .int v_md_laws, .int v_md_sayers, .long v_md_there, .long v_md_question, .ref a_md_weight, .ref a_md_says, .ref a_md_cost, .int v_md_measure, .long v_md_trace, .int v_md_readLaws, .int v_md_readSayers, .long v_md_readThere, .ref a_md_readWeight, .ref a_md_readSays, .int v_md_begin, .int v_md_end, .int v_md_sort, .int v_md_open, .ref a_md_opened, .int v_md_level, .ref a_md_any, .ref a_md_all, .long v_md_said, .ref a_md_burdens, .ref a_md_best, .ref a_md_own, .ref a_md_truth])), (a_md_weight, .inl (cI, 7, .inl f_md_weight)), (a_md_cost, .inl (cI, 6, .inl f_md_cost)), (a_md_burdens, .inl (cI, 448, .inl f_md_burdens))] [(a_md, .inr (5, [.int v_md_length, .ref a_md_text, .int v_md_laws, .int v_md_sayers, .long v_md_there, .long v_md_question, .ref a_md_weight, .ref a_md_says, .ref a_md_cost, .int v_md_measure, .long v_md_trace, .int v_md_readLaws, .int v_md_readSayers, .long v_md_readThere, .ref a_md_readWeight, .ref a_md_readSays, .int v_md_begin, .int v_md_end, .int v_md_sort, .int v_md_open, .ref a_md_opened, .int v_md_level, .ref a_md_any, .ref a_md_all, .long v_md_said, .ref a_md_burdens, .ref a_md_best, .ref a_md_own, .ref a_md_truth])), (a_md_weight, .inl (cI, 7, .inl f_md_weight)), (a_md_cost, .inl (cI, 6, .inl f_md_cost)), (a_md_burdens, .inl (cI, 448, .inl z))] := by
  refine zk_of_v (cc := cX5_laysTerm) (maxL := 8) (by decide) rfl (Nat.le_of_ble_eq_true rfl) ?_
  intro p e R s m args below meth c A Q ls hx hb hml hRf hRl hts hown hP hK hD hA hS hG hl hret
  have hl : lv_has ls 8 [(0, .ref a_md), (1, .int x0), (2, .int x1), (3, .int x2)] := hl
  have hown : s.vm.findClass RX5 = some m.cls := hown
  have hcs : 0 ≤ R.cells ∧ 0 ≤ R.slots := ⟨Nat.zero_le _, Nat.zero_le _⟩
  have lk0 := hts (.fieldLink RX5 30 "SayingsMergedModel" "cost" "[I") (by decide +kernel)
  have inX5 : ∀ w ∈ wsX50, w ∈ wsX5_laysTerm := by decide +kernel
  have lk2 := hts (.fieldLink RX5 48 "SayingsMergedModel" "burdens" "[I") (by decide +kernel)
  have lk3 := hts (.fieldLink RX5 22 "SayingsMergedModel" "weight" "[I") (by decide +kernel)
  have lk4 := hts (.fieldLink RX5 154 "SayingsMergedModel" "measure" "I") (by decide +kernel)
  unfold zf_X5_laysTerm at hf
  refine lv_iconst (v := (0 : Int32)) hx hb dX5_laysTerm_0 (by decide) ?_
  refine lv_istore (lv' := [(4, .int (0 : Int32)), (0, .ref a_md), (1, .int x0), (2, .int x1), (3, .int x2)]) hx hb dX5_laysTerm_1 hl (by decide) rfl (fun ls hl => ?_)
  have lp3 : ∀ (n : Nat) (w1 : Int32) (w2 : Nat → Int32) (z3 : Int32 × (Nat → Int32)) (H : Heap) (locs : List Loc) (ls : Array Slot), zl_X5_laysTerm_3 x0 x1 x2 v_md_measure f_md_weight f_md_cost n w1 w2 = some z3 → va_P D vwCl [(a_md, .inr (5, [.int v_md_length, .ref a_md_text, .int v_md_laws, .int v_md_sayers, .long v_md_there, .long v_md_question, .ref a_md_weight, .ref a_md_says, .ref a_md_cost, .int v_md_measure, .long v_md_trace, .int v_md_readLaws, .int v_md_readSayers, .long v_md_readThere, .ref a_md_readWeight, .ref a_md_readSays, .int v_md_begin, .int v_md_end, .int v_md_sort, .int v_md_open, .ref a_md_opened, .int v_md_level, .ref a_md_any, .ref a_md_all, .long v_md_said, .ref a_md_burdens, .ref a_md_best, .ref a_md_own, .ref a_md_truth])), (a_md_weight, .inl (cI, 7, .inl f_md_weight)), (a_md_cost, .inl (cI, 6, .inl f_md_cost)), (a_md_burdens, .inl (cI, 448, .inl w2))] H → va_D A [(a_md, .inr (5, [.int v_md_length, .ref a_md_text, .int v_md_laws, .int v_md_sayers, .long v_md_there, .long v_md_question, .ref a_md_weight, .ref a_md_says, .ref a_md_cost, .int v_md_measure, .long v_md_trace, .int v_md_readLaws, .int v_md_readSayers, .long v_md_readThere, .ref a_md_readWeight, .ref a_md_readSays, .int v_md_begin, .int v_md_end, .int v_md_sort, .int v_md_open, .ref a_md_opened, .int v_md_level, .ref a_md_any, .ref a_md_all, .long v_md_said, .ref a_md_burdens, .ref a_md_best, .ref a_md_own, .ref a_md_truth])), (a_md_weight, .inl (cI, 7, .inl f_md_weight)), (a_md_cost, .inl (cI, 6, .inl f_md_cost)), (a_md_burdens, .inl (cI, 448, .inl w2))] → va_S A s.heap H locs → lv_has ls 8 [(0, .ref a_md), (1, .int x0), (2, .int x1), (3, .int x2), (4, .int w1)] → (∀ (H : Heap) (locs : List Loc) (ls : Array Slot), va_P D vwCl [(a_md, .inr (5, [.int v_md_length, .ref a_md_text, .int v_md_laws, .int v_md_sayers, .long v_md_there, .long v_md_question, .ref a_md_weight, .ref a_md_says, .ref a_md_cost, .int v_md_measure, .long v_md_trace, .int v_md_readLaws, .int v_md_readSayers, .long v_md_readThere, .ref a_md_readWeight, .ref a_md_readSays, .int v_md_begin, .int v_md_end, .int v_md_sort, .int v_md_open, .ref a_md_opened, .int v_md_level, .ref a_md_any, .ref a_md_all, .long v_md_said, .ref a_md_burdens, .ref a_md_best, .ref a_md_own, .ref a_md_truth])), (a_md_weight, .inl (cI, 7, .inl f_md_weight)), (a_md_cost, .inl (cI, 6, .inl f_md_cost)), (a_md_burdens, .inl (cI, 448, .inl z3.2))] H → va_D A [(a_md, .inr (5, [.int v_md_length, .ref a_md_text, .int v_md_laws, .int v_md_sayers, .long v_md_there, .long v_md_question, .ref a_md_weight, .ref a_md_says, .ref a_md_cost, .int v_md_measure, .long v_md_trace, .int v_md_readLaws, .int v_md_readSayers, .long v_md_readThere, .ref a_md_readWeight, .ref a_md_readSays, .int v_md_begin, .int v_md_end, .int v_md_sort, .int v_md_open, .ref a_md_opened, .int v_md_level, .ref a_md_any, .ref a_md_all, .long v_md_said, .ref a_md_burdens, .ref a_md_best, .ref a_md_own, .ref a_md_truth])), (a_md_weight, .inl (cI, 7, .inl f_md_weight)), (a_md_cost, .inl (cI, 6, .inl f_md_cost)), (a_md_burdens, .inl (cI, 448, .inl z3.2))] → va_S A s.heap H locs → lv_has ls 8 [(0, .ref a_md), (1, .int x0), (2, .int x1), (3, .int x2), (4, .int z3.1)] → W p l e R s m args below meth c H locs 0 0 Q (F0 m 116 ls [])) → W p l e R s m args below meth c H locs 0 0 Q (F0 m 3 ls []) := by
    intro n
    induction n with
    | zero => intro w1 w2 z3 H locs ls hf; exact absurd (show none = some z3 from hf) (by simp)
    | succ n ih =>
      intro w1 w2 z3 H locs ls hf hP hD hS hl hk
      rw [zl_X5_laysTerm_3] at hf
      refine lv_iload hx hb dX5_laysTerm_3 (lv_at hl 4 rfl) ?_
      refine lv_bipush (v := (64 : Int32)) hx hb dX5_laysTerm_5 (by decide) ?_
      refine lv_icmp_ge (tgt := 116) hx hb dX5_laysTerm_7 (by decide) (fun c25 => ?_) (fun c25 => ?_)
      · have hf := zk_t c25 hf
        obtain rfl := Option.some.inj hf
        exact hk _ _ _ hP hD hS (lv_sub hl [0, 1, 2, 3, 4] rfl)
      · have hf := zk_f c25 hf
        refine lv_iload_n hx hb dX5_laysTerm_10 rfl (lv_at hl 2 rfl) ?_
        refine lv_iload hx hb dX5_laysTerm_11 (lv_at hl 4 rfl) ?_
        refine lv_iconst (v := (-1 : Int32)) hx hb dX5_laysTerm_13 (by decide) ?_
        refine lv_ixor hx hb dX5_laysTerm_14 ?_
        refine lv_iand hx hb dX5_laysTerm_15 ?_
        refine lv_iload_n hx hb dX5_laysTerm_16 rfl (lv_at hl 3 rfl) ?_
        refine lv_iload hx hb dX5_laysTerm_17 (lv_at hl 4 rfl) ?_
        refine lv_iand hx hb dX5_laysTerm_19 ?_
        refine lv_ior hx hb dX5_laysTerm_20 ?_
        obtain ⟨y3, ey3, hf⟩ := zk_lt_s hf
        refine zk_topi ey3 ?_
        refine lv_istore (lv' := [(5, .int y3), (0, .ref a_md), (1, .int x0), (2, .int x1), (3, .int x2), (4, .int w1)]) hx hb dX5_laysTerm_21 hl (by decide) rfl (fun ls hl => ?_)
        refine lv_iconst (v := (0 : Int32)) hx hb dX5_laysTerm_23 (by decide) ?_
        refine lv_istore (lv' := [(6, .int (0 : Int32)), (5, .int y3), (0, .ref a_md), (1, .int x0), (2, .int x1), (3, .int x2), (4, .int w1)]) hx hb dX5_laysTerm_24 hl (by decide) rfl (fun ls hl => ?_)
        refine lv_iconst (v := (0 : Int32)) hx hb dX5_laysTerm_26 (by decide) ?_
        refine lv_istore (lv' := [(7, .int (0 : Int32)), (6, .int (0 : Int32)), (5, .int y3), (0, .ref a_md), (1, .int x0), (2, .int x1), (3, .int x2), (4, .int w1)]) hx hb dX5_laysTerm_27 hl (by decide) rfl (fun ls hl => ?_)
        have lp29_15 : ∀ (n : Nat) (w4 : Int32) (w5 : Int32) (z29 : Int32 × Int32) (H : Heap) (locs : List Loc) (ls : Array Slot), zl_X5_laysTerm_29 f_md_cost y3 n w4 w5 = some z29 → va_P D vwCl [(a_md, .inr (5, [.int v_md_length, .ref a_md_text, .int v_md_laws, .int v_md_sayers, .long v_md_there, .long v_md_question, .ref a_md_weight, .ref a_md_says, .ref a_md_cost, .int v_md_measure, .long v_md_trace, .int v_md_readLaws, .int v_md_readSayers, .long v_md_readThere, .ref a_md_readWeight, .ref a_md_readSays, .int v_md_begin, .int v_md_end, .int v_md_sort, .int v_md_open, .ref a_md_opened, .int v_md_level, .ref a_md_any, .ref a_md_all, .long v_md_said, .ref a_md_burdens, .ref a_md_best, .ref a_md_own, .ref a_md_truth])), (a_md_weight, .inl (cI, 7, .inl f_md_weight)), (a_md_cost, .inl (cI, 6, .inl f_md_cost)), (a_md_burdens, .inl (cI, 448, .inl w2))] H → va_D A [(a_md, .inr (5, [.int v_md_length, .ref a_md_text, .int v_md_laws, .int v_md_sayers, .long v_md_there, .long v_md_question, .ref a_md_weight, .ref a_md_says, .ref a_md_cost, .int v_md_measure, .long v_md_trace, .int v_md_readLaws, .int v_md_readSayers, .long v_md_readThere, .ref a_md_readWeight, .ref a_md_readSays, .int v_md_begin, .int v_md_end, .int v_md_sort, .int v_md_open, .ref a_md_opened, .int v_md_level, .ref a_md_any, .ref a_md_all, .long v_md_said, .ref a_md_burdens, .ref a_md_best, .ref a_md_own, .ref a_md_truth])), (a_md_weight, .inl (cI, 7, .inl f_md_weight)), (a_md_cost, .inl (cI, 6, .inl f_md_cost)), (a_md_burdens, .inl (cI, 448, .inl w2))] → va_S A s.heap H locs → lv_has ls 8 [(0, .ref a_md), (1, .int x0), (2, .int x1), (3, .int x2), (4, .int w1), (5, .int y3), (6, .int w4), (7, .int w5)] → (∀ (H : Heap) (locs : List Loc) (ls : Array Slot), va_P D vwCl [(a_md, .inr (5, [.int v_md_length, .ref a_md_text, .int v_md_laws, .int v_md_sayers, .long v_md_there, .long v_md_question, .ref a_md_weight, .ref a_md_says, .ref a_md_cost, .int v_md_measure, .long v_md_trace, .int v_md_readLaws, .int v_md_readSayers, .long v_md_readThere, .ref a_md_readWeight, .ref a_md_readSays, .int v_md_begin, .int v_md_end, .int v_md_sort, .int v_md_open, .ref a_md_opened, .int v_md_level, .ref a_md_any, .ref a_md_all, .long v_md_said, .ref a_md_burdens, .ref a_md_best, .ref a_md_own, .ref a_md_truth])), (a_md_weight, .inl (cI, 7, .inl f_md_weight)), (a_md_cost, .inl (cI, 6, .inl f_md_cost)), (a_md_burdens, .inl (cI, 448, .inl w2))] H → va_D A [(a_md, .inr (5, [.int v_md_length, .ref a_md_text, .int v_md_laws, .int v_md_sayers, .long v_md_there, .long v_md_question, .ref a_md_weight, .ref a_md_says, .ref a_md_cost, .int v_md_measure, .long v_md_trace, .int v_md_readLaws, .int v_md_readSayers, .long v_md_readThere, .ref a_md_readWeight, .ref a_md_readSays, .int v_md_begin, .int v_md_end, .int v_md_sort, .int v_md_open, .ref a_md_opened, .int v_md_level, .ref a_md_any, .ref a_md_all, .long v_md_said, .ref a_md_burdens, .ref a_md_best, .ref a_md_own, .ref a_md_truth])), (a_md_weight, .inl (cI, 7, .inl f_md_weight)), (a_md_cost, .inl (cI, 6, .inl f_md_cost)), (a_md_burdens, .inl (cI, 448, .inl w2))] → va_S A s.heap H locs → lv_has ls 8 [(0, .ref a_md), (1, .int x0), (2, .int x1), (3, .int x2), (4, .int w1), (5, .int y3), (6, .int z29.1), (7, .int z29.2)] → W p l e R s m args below meth c H locs 0 0 Q (F0 m 69 ls [])) → W p l e R s m args below meth c H locs 0 0 Q (F0 m 29 ls []) := by
          intro n
          induction n with
          | zero => intro w4 w5 z29 H locs ls hf; exact absurd (show none = some z29 from hf) (by simp)
          | succ n ih =>
            intro w4 w5 z29 H locs ls hf hP hD hS hl hk
            rw [zl_X5_laysTerm_29] at hf
            refine lv_iload hx hb dX5_laysTerm_29 (lv_at hl 7 rfl) ?_
            refine lv_bipush (v := (6 : Int32)) hx hb dX5_laysTerm_31 (by decide) ?_
            refine lv_icmp_ge (tgt := 69) hx hb dX5_laysTerm_33 (by decide) (fun c13 => ?_) (fun c13 => ?_)
            · have hf := zk_t c13 hf
              obtain rfl := Option.some.inj hf
              exact hk _ _ _ hP hD hS (lv_sub hl [0, 1, 2, 3, 4, 5, 6, 7] rfl)
            · have hf := zk_f c13 hf
              refine lv_iload hx hb dX5_laysTerm_36 (lv_at hl 6 rfl) ?_
              refine lv_iload hx hb dX5_laysTerm_38 (lv_at hl 5 rfl) ?_
              refine lv_i2l hx hb dX5_laysTerm_40 rfl ?_
              refine lv_iload hx hb dX5_laysTerm_41 (lv_at hl 7 rfl) ?_
              obtain ⟨v6, hv6, hf⟩ := zk_ob hf
              refine zk_goR (zk_S (As := [.long y3.toInt64, .int w5]) (rest := [.int w4]) hx hb hml hown hts hK hG hP hD hS hA gX5_laysTerm_X5_has rfl hd_X5_has (Nat.le_trans (Nat.le_of_ble_eq_true rfl) hRf) (Nat.le_trans (Nat.le_of_ble_eq_true rfl) hRl) hcs (zc_X5_has l D tL tO cI cJ cB cQ y3.toInt64 w5 v6 hv6) hl.1 rfl rfl (Nat.le_of_ble_eq_true rfl) dX5_laysTerm_43 [] rfl rfl) hP hD hS hA [] rfl (fun H locs hP hS => ?_)
              refine lv_if_eq (tgt := 59) hx hb dX5_laysTerm_46 (by decide) (fun c12 => ?_) (fun c12 => ?_)
              · have hf := zk_t c12 hf
                refine lv_iconst (v := (0 : Int32)) hx hb dX5_laysTerm_59 (by decide) ?_
                refine lv_iadd hx hb dX5_laysTerm_60 ?_
                obtain ⟨y7, ey7, hf⟩ := zk_lt_s hf
                refine zk_topi ey7 ?_
                refine lv_istore (lv' := [(6, .int y7), (0, .ref a_md), (1, .int x0), (2, .int x1), (3, .int x2), (4, .int w1), (5, .int y3), (7, .int w5)]) hx hb dX5_laysTerm_61 hl (by decide) rfl (fun ls hl => ?_)
                obtain ⟨y8, ey8, hf⟩ := zk_lt_s hf
                refine lv_iinc (v := y8) (lv' := [(7, .int y8), (6, .int y7), (0, .ref a_md), (1, .int x0), (2, .int x1), (3, .int x2), (4, .int w1), (5, .int y3)]) hx hb dX5_laysTerm_63 hl (k := 7) rfl (by rw [ey8]; rfl) (by decide) rfl (fun ls hl => ?_)
                refine lv_goto (tgt := 29) hx hb dX5_laysTerm_66 (by decide) ?_
                exact ih y7 y8 _ _ _ _ hf hP hD hS (lv_sub hl [2, 3, 4, 5, 6, 7, 1, 0] rfl) hk
              · have hf := zk_f c12 hf
                refine lv_aload_n hx hb dX5_laysTerm_49 rfl (lv_at hl 0 rfl) ?_
                refine va_get (ci := 5) (v := .ref a_md_cost) (C := RX5) (T := TX5) (N := 29) hx hb hts inX5 hown hK hP 0 rfl rfl 8 (by decide) lk0 (fun _ h9 => h9) rfl dX5_laysTerm_50 ?_
                refine lv_iload hx hb dX5_laysTerm_53 (lv_at hl 7 rfl) ?_
                obtain ⟨g9, hf⟩ := zk_gd_s hf
                refine va_iald hx hb hK hP 2 0 rfl rfl (zk_in_s g9) dX5_laysTerm_55 ?_
                refine lv_goto (tgt := 60) hx hb dX5_laysTerm_56 (by decide) ?_
                refine lv_iadd hx hb dX5_laysTerm_60 ?_
                obtain ⟨y10, ey10, hf⟩ := zk_lt_s hf
                refine zk_topi ey10 ?_
                refine lv_istore (lv' := [(6, .int y10), (0, .ref a_md), (1, .int x0), (2, .int x1), (3, .int x2), (4, .int w1), (5, .int y3), (7, .int w5)]) hx hb dX5_laysTerm_61 hl (by decide) rfl (fun ls hl => ?_)
                obtain ⟨y11, ey11, hf⟩ := zk_lt_s hf
                refine lv_iinc (v := y11) (lv' := [(7, .int y11), (6, .int y10), (0, .ref a_md), (1, .int x0), (2, .int x1), (3, .int x2), (4, .int w1), (5, .int y3)]) hx hb dX5_laysTerm_63 hl (k := 7) rfl (by rw [ey11]; rfl) (by decide) rfl (fun ls hl => ?_)
                refine lv_goto (tgt := 29) hx hb dX5_laysTerm_66 (by decide) ?_
                exact ih y10 y11 _ _ _ _ hf hP hD hS (lv_sub hl [2, 3, 4, 5, 6, 7, 1, 0] rfl) hk
        obtain ⟨v14, hv14, hf⟩ := zk_ob hf
        refine lp29_15 zk_F (0 : Int32) (0 : Int32) v14 _ _ _ hv14 hP hD hS (lv_sub hl [3, 4, 5, 6, 7, 2, 1, 0] rfl) ?_
        intro H locs ls hP hD hS hl
        refine lv_aload_n hx hb dX5_laysTerm_69 rfl (lv_at hl 0 rfl) ?_
        refine va_get (ci := 5) (v := .ref a_md_burdens) (C := RX5) (T := TX5) (N := 29) hx hb hts inX5 hown hK hP 0 rfl rfl 25 (by decide) lk2 (fun _ h9 => h9) rfl dX5_laysTerm_70 ?_
        refine lv_bipush (v := (64 : Int32)) hx hb dX5_laysTerm_73 (by decide) ?_
        refine lv_iload_n hx hb dX5_laysTerm_75 rfl (lv_at hl 1 rfl) ?_
        refine lv_imul hx hb dX5_laysTerm_76 ?_
        refine lv_iload hx hb dX5_laysTerm_77 (lv_at hl 4 rfl) ?_
        refine lv_iadd hx hb dX5_laysTerm_79 ?_
        refine lv_aload_n hx hb dX5_laysTerm_80 rfl (lv_at hl 0 rfl) ?_
        refine va_get (ci := 5) (v := .ref a_md_weight) (C := RX5) (T := TX5) (N := 29) hx hb hts inX5 hown hK hP 0 rfl rfl 6 (by decide) lk3 (fun _ h9 => h9) rfl dX5_laysTerm_81 ?_
        refine lv_iload_n hx hb dX5_laysTerm_84 rfl (lv_at hl 1 rfl) ?_
        obtain ⟨g16, hf⟩ := zk_gd_s hf
        refine va_iald hx hb hK hP 1 0 rfl rfl (zk_in_s g16) dX5_laysTerm_85 ?_
        refine lv_aload_n hx hb dX5_laysTerm_86 rfl (lv_at hl 0 rfl) ?_
        refine va_get (ci := 5) (v := .int v_md_measure) (C := RX5) (T := TX5) (N := 29) hx hb hts inX5 hown hK hP 0 rfl rfl 9 (by decide) lk4 (fun _ h9 => h9) rfl dX5_laysTerm_87 ?_
        refine lv_if_ne (tgt := 98) hx hb dX5_laysTerm_90 (by decide) (fun c24 => ?_) (fun c24 => ?_)
        · have hf := zk_f c24 hf
          refine lv_iload hx hb dX5_laysTerm_98 (lv_at hl 5 rfl) ?_
          refine lv_if_ne (tgt := 107) hx hb dX5_laysTerm_100 (by decide) (fun c21 => ?_) (fun c21 => ?_)
          · have hf := zk_f c21 hf
            refine lv_iconst (v := (1 : Int32)) hx hb dX5_laysTerm_107 (by decide) ?_
            refine lv_imul hx hb dX5_laysTerm_108 ?_
            obtain ⟨g17, hf⟩ := zk_gd_s hf
            refine va_iast hx hb hK hP hD hS 3 0 rfl rfl (zk_in_s g17) dX5_laysTerm_109 (fun H locs hP hD hS => ?_)
            have hP : va_P D vwCl [(a_md, .inr (5, [.int v_md_length, .ref a_md_text, .int v_md_laws, .int v_md_sayers, .long v_md_there, .long v_md_question, .ref a_md_weight, .ref a_md_says, .ref a_md_cost, .int v_md_measure, .long v_md_trace, .int v_md_readLaws, .int v_md_readSayers, .long v_md_readThere, .ref a_md_readWeight, .ref a_md_readSays, .int v_md_begin, .int v_md_end, .int v_md_sort, .int v_md_open, .ref a_md_opened, .int v_md_level, .ref a_md_any, .ref a_md_all, .long v_md_said, .ref a_md_burdens, .ref a_md_best, .ref a_md_own, .ref a_md_truth])), (a_md_weight, .inl (cI, 7, .inl f_md_weight)), (a_md_cost, .inl (cI, 6, .inl f_md_cost)), (a_md_burdens, .inl (cI, 448, .inl (upd w2 (((64 : Int32) * x0) + w1).toNatClampNeg ((f_md_weight x0.toNatClampNeg) * (1 : Int32)))))] H := hP
            have hD : va_D A [(a_md, .inr (5, [.int v_md_length, .ref a_md_text, .int v_md_laws, .int v_md_sayers, .long v_md_there, .long v_md_question, .ref a_md_weight, .ref a_md_says, .ref a_md_cost, .int v_md_measure, .long v_md_trace, .int v_md_readLaws, .int v_md_readSayers, .long v_md_readThere, .ref a_md_readWeight, .ref a_md_readSays, .int v_md_begin, .int v_md_end, .int v_md_sort, .int v_md_open, .ref a_md_opened, .int v_md_level, .ref a_md_any, .ref a_md_all, .long v_md_said, .ref a_md_burdens, .ref a_md_best, .ref a_md_own, .ref a_md_truth])), (a_md_weight, .inl (cI, 7, .inl f_md_weight)), (a_md_cost, .inl (cI, 6, .inl f_md_cost)), (a_md_burdens, .inl (cI, 448, .inl (upd w2 (((64 : Int32) * x0) + w1).toNatClampNeg ((f_md_weight x0.toNatClampNeg) * (1 : Int32)))))] := hD
            obtain ⟨y18, ey18, hf⟩ := zk_lt_s hf
            refine lv_iinc (v := y18) (lv' := [(4, .int y18), (0, .ref a_md), (1, .int x0), (2, .int x1), (3, .int x2), (5, .int y3), (6, .int v14.1), (7, .int v14.2)]) hx hb dX5_laysTerm_110 hl (k := 4) rfl (by rw [ey18]; rfl) (by decide) rfl (fun ls hl => ?_)
            refine lv_goto (tgt := 3) hx hb dX5_laysTerm_113 (by decide) ?_
            exact ih y18 (upd w2 (((64 : Int32) * x0) + w1).toNatClampNeg ((f_md_weight x0.toNatClampNeg) * (1 : Int32))) _ _ _ _ hf hP hD hS (lv_sub hl [1, 2, 3, 4, 0] rfl) hk
          · have hf := zk_t c21 hf
            refine lv_iconst (v := (0 : Int32)) hx hb dX5_laysTerm_103 (by decide) ?_
            refine lv_goto (tgt := 108) hx hb dX5_laysTerm_104 (by decide) ?_
            refine lv_imul hx hb dX5_laysTerm_108 ?_
            obtain ⟨g19, hf⟩ := zk_gd_s hf
            refine va_iast hx hb hK hP hD hS 3 0 rfl rfl (zk_in_s g19) dX5_laysTerm_109 (fun H locs hP hD hS => ?_)
            have hP : va_P D vwCl [(a_md, .inr (5, [.int v_md_length, .ref a_md_text, .int v_md_laws, .int v_md_sayers, .long v_md_there, .long v_md_question, .ref a_md_weight, .ref a_md_says, .ref a_md_cost, .int v_md_measure, .long v_md_trace, .int v_md_readLaws, .int v_md_readSayers, .long v_md_readThere, .ref a_md_readWeight, .ref a_md_readSays, .int v_md_begin, .int v_md_end, .int v_md_sort, .int v_md_open, .ref a_md_opened, .int v_md_level, .ref a_md_any, .ref a_md_all, .long v_md_said, .ref a_md_burdens, .ref a_md_best, .ref a_md_own, .ref a_md_truth])), (a_md_weight, .inl (cI, 7, .inl f_md_weight)), (a_md_cost, .inl (cI, 6, .inl f_md_cost)), (a_md_burdens, .inl (cI, 448, .inl (upd w2 (((64 : Int32) * x0) + w1).toNatClampNeg ((f_md_weight x0.toNatClampNeg) * (0 : Int32)))))] H := hP
            have hD : va_D A [(a_md, .inr (5, [.int v_md_length, .ref a_md_text, .int v_md_laws, .int v_md_sayers, .long v_md_there, .long v_md_question, .ref a_md_weight, .ref a_md_says, .ref a_md_cost, .int v_md_measure, .long v_md_trace, .int v_md_readLaws, .int v_md_readSayers, .long v_md_readThere, .ref a_md_readWeight, .ref a_md_readSays, .int v_md_begin, .int v_md_end, .int v_md_sort, .int v_md_open, .ref a_md_opened, .int v_md_level, .ref a_md_any, .ref a_md_all, .long v_md_said, .ref a_md_burdens, .ref a_md_best, .ref a_md_own, .ref a_md_truth])), (a_md_weight, .inl (cI, 7, .inl f_md_weight)), (a_md_cost, .inl (cI, 6, .inl f_md_cost)), (a_md_burdens, .inl (cI, 448, .inl (upd w2 (((64 : Int32) * x0) + w1).toNatClampNeg ((f_md_weight x0.toNatClampNeg) * (0 : Int32)))))] := hD
            obtain ⟨y20, ey20, hf⟩ := zk_lt_s hf
            refine lv_iinc (v := y20) (lv' := [(4, .int y20), (0, .ref a_md), (1, .int x0), (2, .int x1), (3, .int x2), (5, .int y3), (6, .int v14.1), (7, .int v14.2)]) hx hb dX5_laysTerm_110 hl (k := 4) rfl (by rw [ey20]; rfl) (by decide) rfl (fun ls hl => ?_)
            refine lv_goto (tgt := 3) hx hb dX5_laysTerm_113 (by decide) ?_
            exact ih y20 (upd w2 (((64 : Int32) * x0) + w1).toNatClampNeg ((f_md_weight x0.toNatClampNeg) * (0 : Int32))) _ _ _ _ hf hP hD hS (lv_sub hl [1, 2, 3, 4, 0] rfl) hk
        · have hf := zk_t c24 hf
          refine lv_iload hx hb dX5_laysTerm_93 (lv_at hl 6 rfl) ?_
          refine lv_goto (tgt := 108) hx hb dX5_laysTerm_95 (by decide) ?_
          refine lv_imul hx hb dX5_laysTerm_108 ?_
          obtain ⟨g22, hf⟩ := zk_gd_s hf
          refine va_iast hx hb hK hP hD hS 3 0 rfl rfl (zk_in_s g22) dX5_laysTerm_109 (fun H locs hP hD hS => ?_)
          have hP : va_P D vwCl [(a_md, .inr (5, [.int v_md_length, .ref a_md_text, .int v_md_laws, .int v_md_sayers, .long v_md_there, .long v_md_question, .ref a_md_weight, .ref a_md_says, .ref a_md_cost, .int v_md_measure, .long v_md_trace, .int v_md_readLaws, .int v_md_readSayers, .long v_md_readThere, .ref a_md_readWeight, .ref a_md_readSays, .int v_md_begin, .int v_md_end, .int v_md_sort, .int v_md_open, .ref a_md_opened, .int v_md_level, .ref a_md_any, .ref a_md_all, .long v_md_said, .ref a_md_burdens, .ref a_md_best, .ref a_md_own, .ref a_md_truth])), (a_md_weight, .inl (cI, 7, .inl f_md_weight)), (a_md_cost, .inl (cI, 6, .inl f_md_cost)), (a_md_burdens, .inl (cI, 448, .inl (upd w2 (((64 : Int32) * x0) + w1).toNatClampNeg ((f_md_weight x0.toNatClampNeg) * v14.1))))] H := hP
          have hD : va_D A [(a_md, .inr (5, [.int v_md_length, .ref a_md_text, .int v_md_laws, .int v_md_sayers, .long v_md_there, .long v_md_question, .ref a_md_weight, .ref a_md_says, .ref a_md_cost, .int v_md_measure, .long v_md_trace, .int v_md_readLaws, .int v_md_readSayers, .long v_md_readThere, .ref a_md_readWeight, .ref a_md_readSays, .int v_md_begin, .int v_md_end, .int v_md_sort, .int v_md_open, .ref a_md_opened, .int v_md_level, .ref a_md_any, .ref a_md_all, .long v_md_said, .ref a_md_burdens, .ref a_md_best, .ref a_md_own, .ref a_md_truth])), (a_md_weight, .inl (cI, 7, .inl f_md_weight)), (a_md_cost, .inl (cI, 6, .inl f_md_cost)), (a_md_burdens, .inl (cI, 448, .inl (upd w2 (((64 : Int32) * x0) + w1).toNatClampNeg ((f_md_weight x0.toNatClampNeg) * v14.1))))] := hD
          obtain ⟨y23, ey23, hf⟩ := zk_lt_s hf
          refine lv_iinc (v := y23) (lv' := [(4, .int y23), (0, .ref a_md), (1, .int x0), (2, .int x1), (3, .int x2), (5, .int y3), (6, .int v14.1), (7, .int v14.2)]) hx hb dX5_laysTerm_110 hl (k := 4) rfl (by rw [ey23]; rfl) (by decide) rfl (fun ls hl => ?_)
          refine lv_goto (tgt := 3) hx hb dX5_laysTerm_113 (by decide) ?_
          exact ih y23 (upd w2 (((64 : Int32) * x0) + w1).toNatClampNeg ((f_md_weight x0.toNatClampNeg) * v14.1)) _ _ _ _ hf hP hD hS (lv_sub hl [1, 2, 3, 4, 0] rfl) hk
  obtain ⟨v26, hv26, hf⟩ := zk_ob hf
  refine lp3 zk_F (0 : Int32) f_md_burdens v26 _ _ _ hv26 hP hD hS (lv_sub hl [1, 2, 3, 4, 0] rfl) ?_
  intro H locs ls hP hD hS hl
  obtain rfl := Option.some.inj hf
  exact hret trivial _ _ _ _ hP hD hS dX5_laysTerm_116
def zl_X5_lie_41 (x0 : Int32) (v_md_measure : Int32) (f_md_says : Nat → Int64) (f_md_cost : Nat → Int32) : Nat → (Int32) → (Nat → Int32) → Option (Int32 × (Nat → Int32))
  | 0, _, _ => none
  | n + 1, w5, w6 =>
    if (64 : Int32) ≤ w5 then
    some (w5, w6)
    else
    zk_gd (zk_in x0 7)
    ((zf_X5_farOf w5 (f_md_says x0.toNatClampNeg) v_md_measure f_md_cost).bind (fun v8 =>
    zk_gd (zk_in w5 64)
    (zk_lt (w5 + 1) (fun y10 =>
    zl_X5_lie_41 x0 v_md_measure f_md_says f_md_cost n y10 (upd w6 w5.toNatClampNeg v8)))))
def zl_X5_lie_95 (x0 : Int32) (x1 : Int32) (x2 : Int32) (v_md_sayers : Int32) (v_md_there : Int64) (v_md_measure : Int32) (f_md_weight : Nat → Int32) (f_md_cost : Nat → Int32) (v12 : Int32 × (Nat → Int32)) : Nat → (Int32) → (Int32) → (Int32) → (Nat → Int32) → (Nat → Int32) → (Nat → Int32) → Option (Int32 × Int32 × Int32 × (Nat → Int32) × (Nat → Int32) × (Nat → Int32))
  | 0, _, _, _, _, _, _ => none
  | n + 1, w15, w16, w17, w18, w19, w20 =>
    if (4096 : Int32) ≤ w17 then
    some (w15, w16, w17, w18, w19, w20)
    else
    if (2 : Int32) ≤ x2 then
    some (w15, w16, w17, w18, w19, w20)
    else
    zk_gd (zk_nz (64 : Int32))
    (if ((w17 / (64 : Int32)) &&& (w17 - w17 / (64 : Int32) * (64 : Int32))) = 0 then
    (zf_X5_laysTerm x0 (w17 / (64 : Int32)) (w17 - w17 / (64 : Int32) * (64 : Int32)) v_md_measure f_md_weight f_md_cost w18).bind (fun v22 =>
    (zf_X5_mergedBy x1 v_md_sayers v_md_there v22 w19 w20).bind (fun v23 =>
    (zf_X5_loss v23.1 v12.2).bind (fun v24 =>
    if w15 ≤ v24 then
    zk_lt (w17 + 1) (fun y25 =>
    zl_X5_lie_95 x0 x1 x2 v_md_sayers v_md_there v_md_measure f_md_weight f_md_cost v12 n w15 w16 y25 v22 v23.2.1 v23.2.2)
    else
    zk_lt (w17 + 1) (fun y26 =>
    zl_X5_lie_95 x0 x1 x2 v_md_sayers v_md_there v_md_measure f_md_weight f_md_cost v12 n v24 w17 y26 v22 v23.2.1 v23.2.2))))
    else
    zk_lt (w17 + 1) (fun y28 =>
    zl_X5_lie_95 x0 x1 x2 v_md_sayers v_md_there v_md_measure f_md_weight f_md_cost v12 n w15 w16 y28 w18 w19 w20))
def zf_X5_lie (x0 : Int32) (x1 : Int32) (x2 : Int32) (v_md_sayers : Int32) (v_md_there : Int64) (v_md_measure : Int32) (f_md_weight : Nat → Int32) (f_md_says : Nat → Int64) (f_md_cost : Nat → Int32) (f_md_burdens : Nat → Int32) (f_md_best : Nat → Int32) (f_md_own : Nat → Int32) (f_md_truth : Nat → Int32) : Option (Int32 × (Nat → Int32) × (Nat → Int32) × (Nat → Int32) × (Nat → Int32)) :=
  (zf_X5_isSayer x0 v_md_sayers).bind (fun v1 =>
  if v1 = 0 then
  some ((-1 : Int32), f_md_burdens, f_md_best, f_md_own, f_md_truth)
  else
  (zf_X5_in x1.toInt64 (0 : Int64) (2 : Int64)).bind (fun v2 =>
  if v2 = 0 then
  some ((-1 : Int32), f_md_burdens, f_md_best, f_md_own, f_md_truth)
  else
  (zf_X5_in x2.toInt64 (0 : Int64) (2 : Int64)).bind (fun v3 =>
  if v3 = 0 then
  some ((-1 : Int32), f_md_burdens, f_md_best, f_md_own, f_md_truth)
  else
  (zf_X5_laysAll v_md_sayers v_md_measure f_md_weight f_md_says f_md_cost f_md_burdens).bind (fun v4 =>
  (zl_X5_lie_41 x0 v_md_measure f_md_says f_md_cost zk_F (0 : Int32) f_md_truth).bind (fun v12 =>
  (zf_X5_mergedBy x1 v_md_sayers v_md_there v4 f_md_best f_md_own).bind (fun v13 =>
  (zf_X5_loss v13.1 v12.2).bind (fun v14 =>
  (zl_X5_lie_95 x0 x1 x2 v_md_sayers v_md_there v_md_measure f_md_weight f_md_cost v12 zk_F v14 (-9 : Int32) (0 : Int32) v4 v13.2.1 v13.2.2).bind (fun v32 =>
  if x2 = (2 : Int32) then
  some (v14, v32.2.2.2.1, v32.2.2.2.2.1, v32.2.2.2.2.2, v12.2)
  else
  if v32.2.1 = (-9 : Int32) then
  some ((-9 : Int32), v32.2.2.2.1, v32.2.2.2.2.1, v32.2.2.2.2.2, v12.2)
  else
  if x2 = 0 then
  some (v32.2.1, v32.2.2.2.1, v32.2.2.2.2.1, v32.2.2.2.2.2, v12.2)
  else
  some (v32.1, v32.2.2.2.1, v32.2.2.2.2.1, v32.2.2.2.2.2, v12.2)))))))))
theorem hd_X5_lie : yX5_lie.cls = RX5 ∧ yX5_lie.cls ≠ "java/lang/invoke/MethodHandle" ∧ yX5_lie.cls ≠ "java/lang/invoke/VarHandle" ∧ (parseMethodDescriptor yX5_lie.desc).map (fun d => d.parameters.length) = some 3 := by decide +kernel
set_option maxHeartbeats 4000000 in
set_option maxRecDepth 100000 in
theorem zc_X5_lie (l : Launch) (D : va_G) (tL tO : Nat) (cI cJ cB cQ : ClassId) (a_md a_md_text a_md_weight a_md_says a_md_cost a_md_readWeight a_md_readSays a_md_opened a_md_any a_md_all a_md_burdens a_md_best a_md_own a_md_truth : Nat) (x0 : Int32) (x1 : Int32) (x2 : Int32) (v_md_length : Int32) (v_md_laws : Int32) (v_md_sayers : Int32) (v_md_there : Int64) (v_md_question : Int64) (v_md_measure : Int32) (v_md_trace : Int64) (v_md_readLaws : Int32) (v_md_readSayers : Int32) (v_md_readThere : Int64) (v_md_begin : Int32) (v_md_end : Int32) (v_md_sort : Int32) (v_md_open : Int32) (v_md_level : Int32) (v_md_said : Int64) (f_md_weight : Nat → Int32) (f_md_says : Nat → Int64) (f_md_cost : Nat → Int32) (f_md_burdens : Nat → Int32) (f_md_best : Nat → Int32) (f_md_own : Nat → Int32) (f_md_truth : Nat → Int32) (z : Int32 × (Nat → Int32) × (Nat → Int32) × (Nat → Int32) × (Nat → Int32)) (hf : zf_X5_lie x0 x1 x2 v_md_sayers v_md_there v_md_measure f_md_weight f_md_says f_md_cost f_md_burdens f_md_best f_md_own f_md_truth = some z) : zk_CT l D tL tO (zk_ty cI cJ cB cQ) yX5_lie wsX5_lie 5 116 [.ref a_md, .int x0, .int x1, .int x2] (some (.int z.1)) [(a_md, .inr (5, [.int v_md_length, .ref a_md_text, .int v_md_laws, .int v_md_sayers, .long v_md_there, .long v_md_question, .ref a_md_weight, .ref a_md_says, .ref a_md_cost, .int v_md_measure, .long v_md_trace, .int v_md_readLaws, .int v_md_readSayers, .long v_md_readThere, .ref a_md_readWeight, .ref a_md_readSays, .int v_md_begin, .int v_md_end, .int v_md_sort, .int v_md_open, .ref a_md_opened, .int v_md_level, .ref a_md_any, .ref a_md_all, .long v_md_said, .ref a_md_burdens, .ref a_md_best, .ref a_md_own, .ref a_md_truth])), (a_md_weight, .inl (cI, 7, .inl f_md_weight)), (a_md_says, .inl (cJ, 7, .inr (.inl f_md_says))), (a_md_cost, .inl (cI, 6, .inl f_md_cost)), (a_md_burdens, .inl (cI, 448, .inl f_md_burdens)), (a_md_best, .inl (cI, 7, .inl f_md_best)), (a_md_own, .inl (cI, 7, .inl f_md_own)), (a_md_truth, .inl (cI, 64, .inl f_md_truth))] [(a_md, .inr (5, [.int v_md_length, .ref a_md_text, .int v_md_laws, .int v_md_sayers, .long v_md_there, .long v_md_question, .ref a_md_weight, .ref a_md_says, .ref a_md_cost, .int v_md_measure, .long v_md_trace, .int v_md_readLaws, .int v_md_readSayers, .long v_md_readThere, .ref a_md_readWeight, .ref a_md_readSays, .int v_md_begin, .int v_md_end, .int v_md_sort, .int v_md_open, .ref a_md_opened, .int v_md_level, .ref a_md_any, .ref a_md_all, .long v_md_said, .ref a_md_burdens, .ref a_md_best, .ref a_md_own, .ref a_md_truth])), (a_md_weight, .inl (cI, 7, .inl f_md_weight)), (a_md_says, .inl (cJ, 7, .inr (.inl f_md_says))), (a_md_cost, .inl (cI, 6, .inl f_md_cost)), (a_md_burdens, .inl (cI, 448, .inl z.2.1)), (a_md_best, .inl (cI, 7, .inl z.2.2.1)), (a_md_own, .inl (cI, 7, .inl z.2.2.2.1)), (a_md_truth, .inl (cI, 64, .inl z.2.2.2.2))] := by
  refine zk_of_i (cc := cX5_lie) (maxL := 9) (by decide) rfl (Nat.le_of_ble_eq_true rfl) ?_
  intro p e R s m args below meth c A Q ls hx hb hml hRf hRl hts hown hP hK hD hA hS hG hl hret
  have hl : lv_has ls 9 [(0, .ref a_md), (1, .int x0), (2, .int x1), (3, .int x2)] := hl
  have hown : s.vm.findClass RX5 = some m.cls := hown
  have hcs : 0 ≤ R.cells ∧ 0 ≤ R.slots := ⟨Nat.zero_le _, Nat.zero_le _⟩
  have lk0 := hts (.constantLong RX5 186 (2)) (by decide +kernel)
  have lk1 := hts (.fieldLink RX5 57 "SayingsMergedModel" "truth" "[I") (by decide +kernel)
  have inX5 : ∀ w ∈ wsX50, w ∈ wsX5_lie := by decide +kernel
  have lk3 := hts (.fieldLink RX5 26 "SayingsMergedModel" "says" "[J") (by decide +kernel)
  unfold zf_X5_lie at hf
  refine lv_aload_n hx hb dX5_lie_0 rfl (lv_at hl 0 rfl) ?_
  refine lv_iload_n hx hb dX5_lie_1 rfl (lv_at hl 1 rfl) ?_
  obtain ⟨v1, hv1, hf⟩ := zk_ob hf
  refine zk_goR (zk_V (As := [.int x0]) (rest := []) hx hb hml hown hts hK hG hP hD hS hA gX5_lie_X5_isSayer rfl hd_X5_isSayer (Nat.le_trans (Nat.le_of_ble_eq_true rfl) hRf) (Nat.le_trans (Nat.le_of_ble_eq_true rfl) hRl) hcs (zc_X5_isSayer l D tL tO cI cJ cB cQ a_md a_md_text a_md_weight a_md_says a_md_cost a_md_readWeight a_md_readSays a_md_opened a_md_any a_md_all a_md_burdens a_md_best a_md_own a_md_truth x0 v_md_length v_md_laws v_md_sayers v_md_there v_md_question v_md_measure v_md_trace v_md_readLaws v_md_readSayers v_md_readThere v_md_begin v_md_end v_md_sort v_md_open v_md_level v_md_said v1 hv1) rfl rfl 0 rfl hl.1 rfl rfl (Nat.le_of_ble_eq_true rfl) dX5_lie_2 [0] rfl rfl) hP hD hS hA [0] rfl (fun H locs hP hS => ?_)
  refine lv_if_eq (tgt := 32) hx hb dX5_lie_5 (by decide) (fun c38 => ?_) (fun c38 => ?_)
  · have hf := zk_t c38 hf
    refine lv_iconst (v := (-1 : Int32)) hx hb dX5_lie_32 (by decide) ?_
    obtain rfl := Option.some.inj hf
    exact hret trivial _ _ _ _ hP hD hS dX5_lie_33
  · have hf := zk_f c38 hf
    refine lv_iload_n hx hb dX5_lie_8 rfl (lv_at hl 2 rfl) ?_
    refine lv_i2l hx hb dX5_lie_9 rfl ?_
    refine lv_lconst (v := (0 : Int64)) hx hb dX5_lie_10 (by decide) ?_
    refine lv_ldc2 hx hb hown lk0 dX5_lie_11 ?_
    obtain ⟨v2, hv2, hf⟩ := zk_ob hf
    refine zk_goR (zk_S (As := [.long x1.toInt64, .long (0 : Int64), .long (2 : Int64)]) (rest := []) hx hb hml hown hts hK hG hP hD hS hA gX5_lie_X5_in rfl hd_X5_in (Nat.le_trans (Nat.le_of_ble_eq_true rfl) hRf) (Nat.le_trans (Nat.le_of_ble_eq_true rfl) hRl) hcs (zc_X5_in l D tL tO cI cJ cB cQ x1.toInt64 (0 : Int64) (2 : Int64) v2 hv2) hl.1 rfl rfl (Nat.le_of_ble_eq_true rfl) dX5_lie_14 [] rfl rfl) hP hD hS hA [] rfl (fun H locs hP hS => ?_)
    refine lv_if_eq (tgt := 32) hx hb dX5_lie_17 (by decide) (fun c37 => ?_) (fun c37 => ?_)
    · have hf := zk_t c37 hf
      refine lv_iconst (v := (-1 : Int32)) hx hb dX5_lie_32 (by decide) ?_
      obtain rfl := Option.some.inj hf
      exact hret trivial _ _ _ _ hP hD hS dX5_lie_33
    · have hf := zk_f c37 hf
      refine lv_iload_n hx hb dX5_lie_20 rfl (lv_at hl 3 rfl) ?_
      refine lv_i2l hx hb dX5_lie_21 rfl ?_
      refine lv_lconst (v := (0 : Int64)) hx hb dX5_lie_22 (by decide) ?_
      refine lv_ldc2 hx hb hown lk0 dX5_lie_23 ?_
      obtain ⟨v3, hv3, hf⟩ := zk_ob hf
      refine zk_goR (zk_S (As := [.long x2.toInt64, .long (0 : Int64), .long (2 : Int64)]) (rest := []) hx hb hml hown hts hK hG hP hD hS hA gX5_lie_X5_in rfl hd_X5_in (Nat.le_trans (Nat.le_of_ble_eq_true rfl) hRf) (Nat.le_trans (Nat.le_of_ble_eq_true rfl) hRl) hcs (zc_X5_in l D tL tO cI cJ cB cQ x2.toInt64 (0 : Int64) (2 : Int64) v3 hv3) hl.1 rfl rfl (Nat.le_of_ble_eq_true rfl) dX5_lie_26 [] rfl rfl) hP hD hS hA [] rfl (fun H locs hP hS => ?_)
      refine lv_if_ne (tgt := 34) hx hb dX5_lie_29 (by decide) (fun c36 => ?_) (fun c36 => ?_)
      · have hf := zk_f c36 hf
        refine lv_aload_n hx hb dX5_lie_34 rfl (lv_at hl 0 rfl) ?_
        obtain ⟨v4, hv4, hf⟩ := zk_ob hf
        refine zk_go (wr := [(a_md_best, .inl (cI, 7, .inl f_md_best)), (a_md_own, .inl (cI, 7, .inl f_md_own)), (a_md_truth, .inl (cI, 64, .inl f_md_truth))]) (w2 := [(a_md, .inr (5, [.int v_md_length, .ref a_md_text, .int v_md_laws, .int v_md_sayers, .long v_md_there, .long v_md_question, .ref a_md_weight, .ref a_md_says, .ref a_md_cost, .int v_md_measure, .long v_md_trace, .int v_md_readLaws, .int v_md_readSayers, .long v_md_readThere, .ref a_md_readWeight, .ref a_md_readSays, .int v_md_begin, .int v_md_end, .int v_md_sort, .int v_md_open, .ref a_md_opened, .int v_md_level, .ref a_md_any, .ref a_md_all, .long v_md_said, .ref a_md_burdens, .ref a_md_best, .ref a_md_own, .ref a_md_truth])), (a_md_weight, .inl (cI, 7, .inl f_md_weight)), (a_md_says, .inl (cJ, 7, .inr (.inl f_md_says))), (a_md_cost, .inl (cI, 6, .inl f_md_cost)), (a_md_burdens, .inl (cI, 448, .inl v4)), (a_md_best, .inl (cI, 7, .inl f_md_best)), (a_md_own, .inl (cI, 7, .inl f_md_own)), (a_md_truth, .inl (cI, 64, .inl f_md_truth))]) (zk_V (As := []) (rest := []) hx hb hml hown hts hK hG hP hD hS hA gX5_lie_X5_laysAll rfl hd_X5_laysAll (Nat.le_trans (Nat.le_of_ble_eq_true rfl) hRf) (Nat.le_trans (Nat.le_of_ble_eq_true rfl) hRl) hcs (zc_X5_laysAll l D tL tO cI cJ cB cQ a_md a_md_text a_md_weight a_md_says a_md_cost a_md_readWeight a_md_readSays a_md_opened a_md_any a_md_all a_md_burdens a_md_best a_md_own a_md_truth v_md_length v_md_laws v_md_sayers v_md_there v_md_question v_md_measure v_md_trace v_md_readLaws v_md_readSayers v_md_readThere v_md_begin v_md_end v_md_sort v_md_open v_md_level v_md_said f_md_weight f_md_says f_md_cost f_md_burdens v4 hv4) rfl rfl 0 rfl hl.1 rfl rfl (Nat.le_of_ble_eq_true rfl) dX5_lie_35 [0, 1, 2, 3, 4] rfl rfl) hP hD hS hA [0, 1, 2, 3, 4] [5, 6, 7] [3, 4, 5, 6, 7, 0, 1, 2] rfl rfl rfl (by decide) rfl rfl (fun H locs hP hD hS => ?_)
        refine lv_iconst (v := (0 : Int32)) hx hb dX5_lie_38 (by decide) ?_
        refine lv_istore (lv' := [(4, .int (0 : Int32)), (0, .ref a_md), (1, .int x0), (2, .int x1), (3, .int x2)]) hx hb dX5_lie_39 hl (by decide) rfl (fun ls hl => ?_)
        have lp41 : ∀ (n : Nat) (w5 : Int32) (w6 : Nat → Int32) (z41 : Int32 × (Nat → Int32)) (H : Heap) (locs : List Loc) (ls : Array Slot), zl_X5_lie_41 x0 v_md_measure f_md_says f_md_cost n w5 w6 = some z41 → va_P D vwCl [(a_md, .inr (5, [.int v_md_length, .ref a_md_text, .int v_md_laws, .int v_md_sayers, .long v_md_there, .long v_md_question, .ref a_md_weight, .ref a_md_says, .ref a_md_cost, .int v_md_measure, .long v_md_trace, .int v_md_readLaws, .int v_md_readSayers, .long v_md_readThere, .ref a_md_readWeight, .ref a_md_readSays, .int v_md_begin, .int v_md_end, .int v_md_sort, .int v_md_open, .ref a_md_opened, .int v_md_level, .ref a_md_any, .ref a_md_all, .long v_md_said, .ref a_md_burdens, .ref a_md_best, .ref a_md_own, .ref a_md_truth])), (a_md_weight, .inl (cI, 7, .inl f_md_weight)), (a_md_says, .inl (cJ, 7, .inr (.inl f_md_says))), (a_md_cost, .inl (cI, 6, .inl f_md_cost)), (a_md_burdens, .inl (cI, 448, .inl v4)), (a_md_best, .inl (cI, 7, .inl f_md_best)), (a_md_own, .inl (cI, 7, .inl f_md_own)), (a_md_truth, .inl (cI, 64, .inl w6))] H → va_D A [(a_md, .inr (5, [.int v_md_length, .ref a_md_text, .int v_md_laws, .int v_md_sayers, .long v_md_there, .long v_md_question, .ref a_md_weight, .ref a_md_says, .ref a_md_cost, .int v_md_measure, .long v_md_trace, .int v_md_readLaws, .int v_md_readSayers, .long v_md_readThere, .ref a_md_readWeight, .ref a_md_readSays, .int v_md_begin, .int v_md_end, .int v_md_sort, .int v_md_open, .ref a_md_opened, .int v_md_level, .ref a_md_any, .ref a_md_all, .long v_md_said, .ref a_md_burdens, .ref a_md_best, .ref a_md_own, .ref a_md_truth])), (a_md_weight, .inl (cI, 7, .inl f_md_weight)), (a_md_says, .inl (cJ, 7, .inr (.inl f_md_says))), (a_md_cost, .inl (cI, 6, .inl f_md_cost)), (a_md_burdens, .inl (cI, 448, .inl v4)), (a_md_best, .inl (cI, 7, .inl f_md_best)), (a_md_own, .inl (cI, 7, .inl f_md_own)), (a_md_truth, .inl (cI, 64, .inl w6))] → va_S A s.heap H locs → lv_has ls 9 [(0, .ref a_md), (1, .int x0), (2, .int x1), (3, .int x2), (4, .int w5)] → (∀ (H : Heap) (locs : List Loc) (ls : Array Slot), va_P D vwCl [(a_md, .inr (5, [.int v_md_length, .ref a_md_text, .int v_md_laws, .int v_md_sayers, .long v_md_there, .long v_md_question, .ref a_md_weight, .ref a_md_says, .ref a_md_cost, .int v_md_measure, .long v_md_trace, .int v_md_readLaws, .int v_md_readSayers, .long v_md_readThere, .ref a_md_readWeight, .ref a_md_readSays, .int v_md_begin, .int v_md_end, .int v_md_sort, .int v_md_open, .ref a_md_opened, .int v_md_level, .ref a_md_any, .ref a_md_all, .long v_md_said, .ref a_md_burdens, .ref a_md_best, .ref a_md_own, .ref a_md_truth])), (a_md_weight, .inl (cI, 7, .inl f_md_weight)), (a_md_says, .inl (cJ, 7, .inr (.inl f_md_says))), (a_md_cost, .inl (cI, 6, .inl f_md_cost)), (a_md_burdens, .inl (cI, 448, .inl v4)), (a_md_best, .inl (cI, 7, .inl f_md_best)), (a_md_own, .inl (cI, 7, .inl f_md_own)), (a_md_truth, .inl (cI, 64, .inl z41.2))] H → va_D A [(a_md, .inr (5, [.int v_md_length, .ref a_md_text, .int v_md_laws, .int v_md_sayers, .long v_md_there, .long v_md_question, .ref a_md_weight, .ref a_md_says, .ref a_md_cost, .int v_md_measure, .long v_md_trace, .int v_md_readLaws, .int v_md_readSayers, .long v_md_readThere, .ref a_md_readWeight, .ref a_md_readSays, .int v_md_begin, .int v_md_end, .int v_md_sort, .int v_md_open, .ref a_md_opened, .int v_md_level, .ref a_md_any, .ref a_md_all, .long v_md_said, .ref a_md_burdens, .ref a_md_best, .ref a_md_own, .ref a_md_truth])), (a_md_weight, .inl (cI, 7, .inl f_md_weight)), (a_md_says, .inl (cJ, 7, .inr (.inl f_md_says))), (a_md_cost, .inl (cI, 6, .inl f_md_cost)), (a_md_burdens, .inl (cI, 448, .inl v4)), (a_md_best, .inl (cI, 7, .inl f_md_best)), (a_md_own, .inl (cI, 7, .inl f_md_own)), (a_md_truth, .inl (cI, 64, .inl z41.2))] → va_S A s.heap H locs → lv_has ls 9 [(0, .ref a_md), (1, .int x0), (2, .int x1), (3, .int x2), (4, .int z41.1)] → W p l e R s m args below meth c H locs 0 0 Q (F0 m 73 ls [])) → W p l e R s m args below meth c H locs 0 0 Q (F0 m 41 ls []) := by
          intro n
          induction n with
          | zero => intro w5 w6 z41 H locs ls hf; exact absurd (show none = some z41 from hf) (by simp)
          | succ n ih =>
            intro w5 w6 z41 H locs ls hf hP hD hS hl hk
            rw [zl_X5_lie_41] at hf
            refine lv_iload hx hb dX5_lie_41 (lv_at hl 4 rfl) ?_
            refine lv_bipush (v := (64 : Int32)) hx hb dX5_lie_43 (by decide) ?_
            refine lv_icmp_ge (tgt := 73) hx hb dX5_lie_45 (by decide) (fun c11 => ?_) (fun c11 => ?_)
            · have hf := zk_t c11 hf
              obtain rfl := Option.some.inj hf
              exact hk _ _ _ hP hD hS (lv_sub hl [0, 1, 2, 3, 4] rfl)
            · have hf := zk_f c11 hf
              refine lv_aload_n hx hb dX5_lie_48 rfl (lv_at hl 0 rfl) ?_
              refine va_get (ci := 5) (v := .ref a_md_truth) (C := RX5) (T := TX5) (N := 29) hx hb hts inX5 hown hK hP 0 rfl rfl 28 (by decide) lk1 (fun _ h9 => h9) rfl dX5_lie_49 ?_
              refine lv_iload hx hb dX5_lie_52 (lv_at hl 4 rfl) ?_
              refine lv_aload_n hx hb dX5_lie_54 rfl (lv_at hl 0 rfl) ?_
              refine lv_iload hx hb dX5_lie_55 (lv_at hl 4 rfl) ?_
              refine lv_aload_n hx hb dX5_lie_57 rfl (lv_at hl 0 rfl) ?_
              refine va_get (ci := 5) (v := .ref a_md_says) (C := RX5) (T := TX5) (N := 29) hx hb hts inX5 hown hK hP 0 rfl rfl 7 (by decide) lk3 (fun _ h9 => h9) rfl dX5_lie_58 ?_
              refine lv_iload_n hx hb dX5_lie_61 rfl (lv_at hl 1 rfl) ?_
              obtain ⟨g7, hf⟩ := zk_gd_s hf
              refine va_lald hx hb hK hP 2 1 rfl rfl (zk_in_s g7) dX5_lie_62 ?_
              obtain ⟨v8, hv8, hf⟩ := zk_ob hf
              refine zk_goR (zk_V (As := [.int w5, .long (f_md_says x0.toNatClampNeg)]) (rest := [.int w5, .ref a_md_truth]) hx hb hml hown hts hK hG hP hD hS hA gX5_lie_X5_farOf rfl hd_X5_farOf (Nat.le_trans (Nat.le_of_ble_eq_true rfl) hRf) (Nat.le_trans (Nat.le_of_ble_eq_true rfl) hRl) hcs (zc_X5_farOf l D tL tO cI cJ cB cQ a_md a_md_text a_md_weight a_md_says a_md_cost a_md_readWeight a_md_readSays a_md_opened a_md_any a_md_all a_md_burdens a_md_best a_md_own a_md_truth w5 (f_md_says x0.toNatClampNeg) v_md_length v_md_laws v_md_sayers v_md_there v_md_question v_md_measure v_md_trace v_md_readLaws v_md_readSayers v_md_readThere v_md_begin v_md_end v_md_sort v_md_open v_md_level v_md_said f_md_cost v8 hv8) rfl rfl 0 rfl hl.1 rfl rfl (Nat.le_of_ble_eq_true rfl) dX5_lie_63 [0, 3] rfl rfl) hP hD hS hA [0, 3] rfl (fun H locs hP hS => ?_)
              obtain ⟨g9, hf⟩ := zk_gd_s hf
              refine va_iast hx hb hK hP hD hS 7 0 rfl rfl (zk_in_s g9) dX5_lie_66 (fun H locs hP hD hS => ?_)
              have hP : va_P D vwCl [(a_md, .inr (5, [.int v_md_length, .ref a_md_text, .int v_md_laws, .int v_md_sayers, .long v_md_there, .long v_md_question, .ref a_md_weight, .ref a_md_says, .ref a_md_cost, .int v_md_measure, .long v_md_trace, .int v_md_readLaws, .int v_md_readSayers, .long v_md_readThere, .ref a_md_readWeight, .ref a_md_readSays, .int v_md_begin, .int v_md_end, .int v_md_sort, .int v_md_open, .ref a_md_opened, .int v_md_level, .ref a_md_any, .ref a_md_all, .long v_md_said, .ref a_md_burdens, .ref a_md_best, .ref a_md_own, .ref a_md_truth])), (a_md_weight, .inl (cI, 7, .inl f_md_weight)), (a_md_says, .inl (cJ, 7, .inr (.inl f_md_says))), (a_md_cost, .inl (cI, 6, .inl f_md_cost)), (a_md_burdens, .inl (cI, 448, .inl v4)), (a_md_best, .inl (cI, 7, .inl f_md_best)), (a_md_own, .inl (cI, 7, .inl f_md_own)), (a_md_truth, .inl (cI, 64, .inl (upd w6 w5.toNatClampNeg v8)))] H := hP
              have hD : va_D A [(a_md, .inr (5, [.int v_md_length, .ref a_md_text, .int v_md_laws, .int v_md_sayers, .long v_md_there, .long v_md_question, .ref a_md_weight, .ref a_md_says, .ref a_md_cost, .int v_md_measure, .long v_md_trace, .int v_md_readLaws, .int v_md_readSayers, .long v_md_readThere, .ref a_md_readWeight, .ref a_md_readSays, .int v_md_begin, .int v_md_end, .int v_md_sort, .int v_md_open, .ref a_md_opened, .int v_md_level, .ref a_md_any, .ref a_md_all, .long v_md_said, .ref a_md_burdens, .ref a_md_best, .ref a_md_own, .ref a_md_truth])), (a_md_weight, .inl (cI, 7, .inl f_md_weight)), (a_md_says, .inl (cJ, 7, .inr (.inl f_md_says))), (a_md_cost, .inl (cI, 6, .inl f_md_cost)), (a_md_burdens, .inl (cI, 448, .inl v4)), (a_md_best, .inl (cI, 7, .inl f_md_best)), (a_md_own, .inl (cI, 7, .inl f_md_own)), (a_md_truth, .inl (cI, 64, .inl (upd w6 w5.toNatClampNeg v8)))] := hD
              obtain ⟨y10, ey10, hf⟩ := zk_lt_s hf
              refine lv_iinc (v := y10) (lv' := [(4, .int y10), (0, .ref a_md), (1, .int x0), (2, .int x1), (3, .int x2)]) hx hb dX5_lie_67 hl (k := 4) rfl (by rw [ey10]; rfl) (by decide) rfl (fun ls hl => ?_)
              refine lv_goto (tgt := 41) hx hb dX5_lie_70 (by decide) ?_
              exact ih y10 (upd w6 w5.toNatClampNeg v8) _ _ _ _ hf hP hD hS (lv_sub hl [1, 2, 3, 4, 0] rfl) hk
        obtain ⟨v12, hv12, hf⟩ := zk_ob hf
        refine lp41 zk_F (0 : Int32) f_md_truth v12 _ _ _ hv12 hP hD hS (lv_sub hl [1, 2, 3, 4, 0] rfl) ?_
        intro H locs ls hP hD hS hl
        refine lv_aload_n hx hb dX5_lie_73 rfl (lv_at hl 0 rfl) ?_
        refine lv_aload_n hx hb dX5_lie_74 rfl (lv_at hl 0 rfl) ?_
        refine lv_iload_n hx hb dX5_lie_75 rfl (lv_at hl 2 rfl) ?_
        obtain ⟨v13, hv13, hf⟩ := zk_ob hf
        refine zk_go (wr := [(a_md_weight, .inl (cI, 7, .inl f_md_weight)), (a_md_says, .inl (cJ, 7, .inr (.inl f_md_says))), (a_md_cost, .inl (cI, 6, .inl f_md_cost)), (a_md_truth, .inl (cI, 64, .inl v12.2))]) (w2 := [(a_md, .inr (5, [.int v_md_length, .ref a_md_text, .int v_md_laws, .int v_md_sayers, .long v_md_there, .long v_md_question, .ref a_md_weight, .ref a_md_says, .ref a_md_cost, .int v_md_measure, .long v_md_trace, .int v_md_readLaws, .int v_md_readSayers, .long v_md_readThere, .ref a_md_readWeight, .ref a_md_readSays, .int v_md_begin, .int v_md_end, .int v_md_sort, .int v_md_open, .ref a_md_opened, .int v_md_level, .ref a_md_any, .ref a_md_all, .long v_md_said, .ref a_md_burdens, .ref a_md_best, .ref a_md_own, .ref a_md_truth])), (a_md_weight, .inl (cI, 7, .inl f_md_weight)), (a_md_says, .inl (cJ, 7, .inr (.inl f_md_says))), (a_md_cost, .inl (cI, 6, .inl f_md_cost)), (a_md_burdens, .inl (cI, 448, .inl v4)), (a_md_best, .inl (cI, 7, .inl v13.2.1)), (a_md_own, .inl (cI, 7, .inl v13.2.2)), (a_md_truth, .inl (cI, 64, .inl v12.2))]) (zk_V (As := [.int x1]) (rest := [.ref a_md]) hx hb hml hown hts hK hG hP hD hS hA gX5_lie_X5_mergedBy rfl hd_X5_mergedBy (Nat.le_trans (Nat.le_of_ble_eq_true rfl) hRf) (Nat.le_trans (Nat.le_of_ble_eq_true rfl) hRl) hcs (zc_X5_mergedBy l D tL tO cI cJ cB cQ a_md a_md_text a_md_weight a_md_says a_md_cost a_md_readWeight a_md_readSays a_md_opened a_md_any a_md_all a_md_burdens a_md_best a_md_own a_md_truth x1 v_md_length v_md_laws v_md_sayers v_md_there v_md_question v_md_measure v_md_trace v_md_readLaws v_md_readSayers v_md_readThere v_md_begin v_md_end v_md_sort v_md_open v_md_level v_md_said v4 f_md_best f_md_own v13 hv13) rfl rfl 0 rfl hl.1 rfl rfl (Nat.le_of_ble_eq_true rfl) dX5_lie_76 [0, 4, 5, 6] rfl rfl) hP hD hS hA [0, 4, 5, 6] [1, 2, 3, 7] [4, 0, 1, 2, 5, 6, 7, 3] rfl rfl rfl (by decide) rfl rfl (fun H locs hP hD hS => ?_)
        obtain ⟨v14, hv14, hf⟩ := zk_ob hf
        refine zk_goR (zk_V (As := [.long v13.1]) (rest := []) hx hb hml hown hts hK hG hP hD hS hA gX5_lie_X5_loss rfl hd_X5_loss (Nat.le_trans (Nat.le_of_ble_eq_true rfl) hRf) (Nat.le_trans (Nat.le_of_ble_eq_true rfl) hRl) hcs (zc_X5_loss l D tL tO cI cJ cB cQ a_md a_md_text a_md_weight a_md_says a_md_cost a_md_readWeight a_md_readSays a_md_opened a_md_any a_md_all a_md_burdens a_md_best a_md_own a_md_truth v13.1 v_md_length v_md_laws v_md_sayers v_md_there v_md_question v_md_measure v_md_trace v_md_readLaws v_md_readSayers v_md_readThere v_md_begin v_md_end v_md_sort v_md_open v_md_level v_md_said v12.2 v14 hv14) rfl rfl 0 rfl hl.1 rfl rfl (Nat.le_of_ble_eq_true rfl) dX5_lie_79 [0, 7] rfl rfl) hP hD hS hA [0, 7] rfl (fun H locs hP hS => ?_)
        refine lv_istore (lv' := [(4, .int v14), (0, .ref a_md), (1, .int x0), (2, .int x1), (3, .int x2)]) hx hb dX5_lie_82 hl (by decide) rfl (fun ls hl => ?_)
        refine lv_iload hx hb dX5_lie_84 (lv_at hl 0 rfl) ?_
        refine lv_istore (lv' := [(5, .int v14), (4, .int v14), (0, .ref a_md), (1, .int x0), (2, .int x1), (3, .int x2)]) hx hb dX5_lie_86 hl (by decide) rfl (fun ls hl => ?_)
        refine lv_bipush (v := (-9 : Int32)) hx hb dX5_lie_88 (by decide) ?_
        refine lv_istore (lv' := [(6, .int (-9 : Int32)), (5, .int v14), (4, .int v14), (0, .ref a_md), (1, .int x0), (2, .int x1), (3, .int x2)]) hx hb dX5_lie_90 hl (by decide) rfl (fun ls hl => ?_)
        refine lv_iconst (v := (0 : Int32)) hx hb dX5_lie_92 (by decide) ?_
        refine lv_istore (lv' := [(7, .int (0 : Int32)), (6, .int (-9 : Int32)), (5, .int v14), (4, .int v14), (0, .ref a_md), (1, .int x0), (2, .int x1), (3, .int x2)]) hx hb dX5_lie_93 hl (by decide) rfl (fun ls hl => ?_)
        have lp95 : ∀ (n : Nat) (w15 : Int32) (w16 : Int32) (w17 : Int32) (w18 : Nat → Int32) (w19 : Nat → Int32) (w20 : Nat → Int32) (z95 : Int32 × Int32 × Int32 × (Nat → Int32) × (Nat → Int32) × (Nat → Int32)) (H : Heap) (locs : List Loc) (ls : Array Slot), zl_X5_lie_95 x0 x1 x2 v_md_sayers v_md_there v_md_measure f_md_weight f_md_cost v12 n w15 w16 w17 w18 w19 w20 = some z95 → va_P D vwCl [(a_md, .inr (5, [.int v_md_length, .ref a_md_text, .int v_md_laws, .int v_md_sayers, .long v_md_there, .long v_md_question, .ref a_md_weight, .ref a_md_says, .ref a_md_cost, .int v_md_measure, .long v_md_trace, .int v_md_readLaws, .int v_md_readSayers, .long v_md_readThere, .ref a_md_readWeight, .ref a_md_readSays, .int v_md_begin, .int v_md_end, .int v_md_sort, .int v_md_open, .ref a_md_opened, .int v_md_level, .ref a_md_any, .ref a_md_all, .long v_md_said, .ref a_md_burdens, .ref a_md_best, .ref a_md_own, .ref a_md_truth])), (a_md_weight, .inl (cI, 7, .inl f_md_weight)), (a_md_says, .inl (cJ, 7, .inr (.inl f_md_says))), (a_md_cost, .inl (cI, 6, .inl f_md_cost)), (a_md_burdens, .inl (cI, 448, .inl w18)), (a_md_best, .inl (cI, 7, .inl w19)), (a_md_own, .inl (cI, 7, .inl w20)), (a_md_truth, .inl (cI, 64, .inl v12.2))] H → va_D A [(a_md, .inr (5, [.int v_md_length, .ref a_md_text, .int v_md_laws, .int v_md_sayers, .long v_md_there, .long v_md_question, .ref a_md_weight, .ref a_md_says, .ref a_md_cost, .int v_md_measure, .long v_md_trace, .int v_md_readLaws, .int v_md_readSayers, .long v_md_readThere, .ref a_md_readWeight, .ref a_md_readSays, .int v_md_begin, .int v_md_end, .int v_md_sort, .int v_md_open, .ref a_md_opened, .int v_md_level, .ref a_md_any, .ref a_md_all, .long v_md_said, .ref a_md_burdens, .ref a_md_best, .ref a_md_own, .ref a_md_truth])), (a_md_weight, .inl (cI, 7, .inl f_md_weight)), (a_md_says, .inl (cJ, 7, .inr (.inl f_md_says))), (a_md_cost, .inl (cI, 6, .inl f_md_cost)), (a_md_burdens, .inl (cI, 448, .inl w18)), (a_md_best, .inl (cI, 7, .inl w19)), (a_md_own, .inl (cI, 7, .inl w20)), (a_md_truth, .inl (cI, 64, .inl v12.2))] → va_S A s.heap H locs → lv_has ls 9 [(0, .ref a_md), (1, .int x0), (2, .int x1), (3, .int x2), (4, .int v14), (5, .int w15), (6, .int w16), (7, .int w17)] → (∀ (H : Heap) (locs : List Loc) (ls : Array Slot), va_P D vwCl [(a_md, .inr (5, [.int v_md_length, .ref a_md_text, .int v_md_laws, .int v_md_sayers, .long v_md_there, .long v_md_question, .ref a_md_weight, .ref a_md_says, .ref a_md_cost, .int v_md_measure, .long v_md_trace, .int v_md_readLaws, .int v_md_readSayers, .long v_md_readThere, .ref a_md_readWeight, .ref a_md_readSays, .int v_md_begin, .int v_md_end, .int v_md_sort, .int v_md_open, .ref a_md_opened, .int v_md_level, .ref a_md_any, .ref a_md_all, .long v_md_said, .ref a_md_burdens, .ref a_md_best, .ref a_md_own, .ref a_md_truth])), (a_md_weight, .inl (cI, 7, .inl f_md_weight)), (a_md_says, .inl (cJ, 7, .inr (.inl f_md_says))), (a_md_cost, .inl (cI, 6, .inl f_md_cost)), (a_md_burdens, .inl (cI, 448, .inl z95.2.2.2.1)), (a_md_best, .inl (cI, 7, .inl z95.2.2.2.2.1)), (a_md_own, .inl (cI, 7, .inl z95.2.2.2.2.2)), (a_md_truth, .inl (cI, 64, .inl v12.2))] H → va_D A [(a_md, .inr (5, [.int v_md_length, .ref a_md_text, .int v_md_laws, .int v_md_sayers, .long v_md_there, .long v_md_question, .ref a_md_weight, .ref a_md_says, .ref a_md_cost, .int v_md_measure, .long v_md_trace, .int v_md_readLaws, .int v_md_readSayers, .long v_md_readThere, .ref a_md_readWeight, .ref a_md_readSays, .int v_md_begin, .int v_md_end, .int v_md_sort, .int v_md_open, .ref a_md_opened, .int v_md_level, .ref a_md_any, .ref a_md_all, .long v_md_said, .ref a_md_burdens, .ref a_md_best, .ref a_md_own, .ref a_md_truth])), (a_md_weight, .inl (cI, 7, .inl f_md_weight)), (a_md_says, .inl (cJ, 7, .inr (.inl f_md_says))), (a_md_cost, .inl (cI, 6, .inl f_md_cost)), (a_md_burdens, .inl (cI, 448, .inl z95.2.2.2.1)), (a_md_best, .inl (cI, 7, .inl z95.2.2.2.2.1)), (a_md_own, .inl (cI, 7, .inl z95.2.2.2.2.2)), (a_md_truth, .inl (cI, 64, .inl v12.2))] → va_S A s.heap H locs → lv_has ls 9 [(0, .ref a_md), (1, .int x0), (2, .int x1), (3, .int x2), (4, .int v14), (5, .int z95.1), (6, .int z95.2.1), (7, .int z95.2.2.1)] → W p l e R s m args below meth c H locs 0 0 Q (F0 m 172 ls [])) → W p l e R s m args below meth c H locs 0 0 Q (F0 m 95 ls []) := by
          intro n
          induction n with
          | zero => intro w15 w16 w17 w18 w19 w20 z95 H locs ls hf; exact absurd (show none = some z95 from hf) (by simp)
          | succ n ih =>
            intro w15 w16 w17 w18 w19 w20 z95 H locs ls hf hP hD hS hl hk
            rw [zl_X5_lie_95] at hf
            refine lv_iload hx hb dX5_lie_95 (lv_at hl 7 rfl) ?_
            refine lv_sipush (v := (4096 : Int32)) hx hb dX5_lie_97 (by decide) ?_
            refine lv_icmp_ge (tgt := 172) hx hb dX5_lie_100 (by decide) (fun c31 => ?_) (fun c31 => ?_)
            · have hf := zk_t c31 hf
              obtain rfl := Option.some.inj hf
              exact hk _ _ _ hP hD hS (lv_sub hl [0, 1, 2, 3, 4, 5, 6, 7] rfl)
            · have hf := zk_f c31 hf
              refine lv_iload_n hx hb dX5_lie_103 rfl (lv_at hl 3 rfl) ?_
              refine lv_iconst (v := (2 : Int32)) hx hb dX5_lie_104 (by decide) ?_
              refine lv_icmp_ge (tgt := 172) hx hb dX5_lie_105 (by decide) (fun c30 => ?_) (fun c30 => ?_)
              · have hf := zk_t c30 hf
                obtain rfl := Option.some.inj hf
                exact hk _ _ _ hP hD hS (lv_sub hl [0, 1, 2, 3, 4, 5, 6, 7] rfl)
              · have hf := zk_f c30 hf
                refine lv_iload hx hb dX5_lie_108 (lv_at hl 7 rfl) ?_
                refine lv_bipush (v := (64 : Int32)) hx hb dX5_lie_110 (by decide) ?_
                obtain ⟨g21, hf⟩ := zk_gd_s hf
                refine lv_idiv hx hb dX5_lie_112 (zk_nz_s g21) ?_
                refine lv_iload hx hb dX5_lie_113 (lv_at hl 7 rfl) ?_
                refine lv_bipush (v := (64 : Int32)) hx hb dX5_lie_115 (by decide) ?_
                refine lv_irem hx hb dX5_lie_117 (zk_nz_s g21) ?_
                refine lv_iand hx hb dX5_lie_118 ?_
                refine lv_if_eq (tgt := 125) hx hb dX5_lie_119 (by decide) (fun c29 => ?_) (fun c29 => ?_)
                · have hf := zk_t c29 hf
                  refine lv_aload_n hx hb dX5_lie_125 rfl (lv_at hl 0 rfl) ?_
                  refine lv_iload_n hx hb dX5_lie_126 rfl (lv_at hl 1 rfl) ?_
                  refine lv_iload hx hb dX5_lie_127 (lv_at hl 7 rfl) ?_
                  refine lv_bipush (v := (64 : Int32)) hx hb dX5_lie_129 (by decide) ?_
                  refine lv_idiv hx hb dX5_lie_131 (zk_nz_s g21) ?_
                  refine lv_iload hx hb dX5_lie_132 (lv_at hl 7 rfl) ?_
                  refine lv_bipush (v := (64 : Int32)) hx hb dX5_lie_134 (by decide) ?_
                  refine lv_irem hx hb dX5_lie_136 (zk_nz_s g21) ?_
                  obtain ⟨v22, hv22, hf⟩ := zk_ob hf
                  refine zk_go (wr := [(a_md_says, .inl (cJ, 7, .inr (.inl f_md_says))), (a_md_best, .inl (cI, 7, .inl w19)), (a_md_own, .inl (cI, 7, .inl w20)), (a_md_truth, .inl (cI, 64, .inl v12.2))]) (w2 := [(a_md, .inr (5, [.int v_md_length, .ref a_md_text, .int v_md_laws, .int v_md_sayers, .long v_md_there, .long v_md_question, .ref a_md_weight, .ref a_md_says, .ref a_md_cost, .int v_md_measure, .long v_md_trace, .int v_md_readLaws, .int v_md_readSayers, .long v_md_readThere, .ref a_md_readWeight, .ref a_md_readSays, .int v_md_begin, .int v_md_end, .int v_md_sort, .int v_md_open, .ref a_md_opened, .int v_md_level, .ref a_md_any, .ref a_md_all, .long v_md_said, .ref a_md_burdens, .ref a_md_best, .ref a_md_own, .ref a_md_truth])), (a_md_weight, .inl (cI, 7, .inl f_md_weight)), (a_md_says, .inl (cJ, 7, .inr (.inl f_md_says))), (a_md_cost, .inl (cI, 6, .inl f_md_cost)), (a_md_burdens, .inl (cI, 448, .inl v22)), (a_md_best, .inl (cI, 7, .inl w19)), (a_md_own, .inl (cI, 7, .inl w20)), (a_md_truth, .inl (cI, 64, .inl v12.2))]) (zk_V (As := [.int x0, .int (w17 / (64 : Int32)), .int (w17 - w17 / (64 : Int32) * (64 : Int32))]) (rest := []) hx hb hml hown hts hK hG hP hD hS hA gX5_lie_X5_laysTerm rfl hd_X5_laysTerm (Nat.le_trans (Nat.le_of_ble_eq_true rfl) hRf) (Nat.le_trans (Nat.le_of_ble_eq_true rfl) hRl) hcs (zc_X5_laysTerm l D tL tO cI cJ cB cQ a_md a_md_text a_md_weight a_md_says a_md_cost a_md_readWeight a_md_readSays a_md_opened a_md_any a_md_all a_md_burdens a_md_best a_md_own a_md_truth x0 (w17 / (64 : Int32)) (w17 - w17 / (64 : Int32) * (64 : Int32)) v_md_length v_md_laws v_md_sayers v_md_there v_md_question v_md_measure v_md_trace v_md_readLaws v_md_readSayers v_md_readThere v_md_begin v_md_end v_md_sort v_md_open v_md_level v_md_said f_md_weight f_md_cost w18 v22 hv22) rfl rfl 0 rfl hl.1 rfl rfl (Nat.le_of_ble_eq_true rfl) dX5_lie_137 [0, 1, 3, 4] rfl rfl) hP hD hS hA [0, 1, 3, 4] [2, 5, 6, 7] [4, 5, 0, 6, 7, 1, 2, 3] rfl rfl rfl (by decide) rfl rfl (fun H locs hP hD hS => ?_)
                  refine lv_aload_n hx hb dX5_lie_140 rfl (lv_at hl 0 rfl) ?_
                  refine lv_aload_n hx hb dX5_lie_141 rfl (lv_at hl 0 rfl) ?_
                  refine lv_iload_n hx hb dX5_lie_142 rfl (lv_at hl 2 rfl) ?_
                  obtain ⟨v23, hv23, hf⟩ := zk_ob hf
                  refine zk_go (wr := [(a_md_weight, .inl (cI, 7, .inl f_md_weight)), (a_md_says, .inl (cJ, 7, .inr (.inl f_md_says))), (a_md_cost, .inl (cI, 6, .inl f_md_cost)), (a_md_truth, .inl (cI, 64, .inl v12.2))]) (w2 := [(a_md, .inr (5, [.int v_md_length, .ref a_md_text, .int v_md_laws, .int v_md_sayers, .long v_md_there, .long v_md_question, .ref a_md_weight, .ref a_md_says, .ref a_md_cost, .int v_md_measure, .long v_md_trace, .int v_md_readLaws, .int v_md_readSayers, .long v_md_readThere, .ref a_md_readWeight, .ref a_md_readSays, .int v_md_begin, .int v_md_end, .int v_md_sort, .int v_md_open, .ref a_md_opened, .int v_md_level, .ref a_md_any, .ref a_md_all, .long v_md_said, .ref a_md_burdens, .ref a_md_best, .ref a_md_own, .ref a_md_truth])), (a_md_weight, .inl (cI, 7, .inl f_md_weight)), (a_md_says, .inl (cJ, 7, .inr (.inl f_md_says))), (a_md_cost, .inl (cI, 6, .inl f_md_cost)), (a_md_burdens, .inl (cI, 448, .inl v22)), (a_md_best, .inl (cI, 7, .inl v23.2.1)), (a_md_own, .inl (cI, 7, .inl v23.2.2)), (a_md_truth, .inl (cI, 64, .inl v12.2))]) (zk_V (As := [.int x1]) (rest := [.ref a_md]) hx hb hml hown hts hK hG hP hD hS hA gX5_lie_X5_mergedBy rfl hd_X5_mergedBy (Nat.le_trans (Nat.le_of_ble_eq_true rfl) hRf) (Nat.le_trans (Nat.le_of_ble_eq_true rfl) hRl) hcs (zc_X5_mergedBy l D tL tO cI cJ cB cQ a_md a_md_text a_md_weight a_md_says a_md_cost a_md_readWeight a_md_readSays a_md_opened a_md_any a_md_all a_md_burdens a_md_best a_md_own a_md_truth x1 v_md_length v_md_laws v_md_sayers v_md_there v_md_question v_md_measure v_md_trace v_md_readLaws v_md_readSayers v_md_readThere v_md_begin v_md_end v_md_sort v_md_open v_md_level v_md_said v22 w19 w20 v23 hv23) rfl rfl 0 rfl hl.1 rfl rfl (Nat.le_of_ble_eq_true rfl) dX5_lie_143 [0, 4, 5, 6] rfl rfl) hP hD hS hA [0, 4, 5, 6] [1, 2, 3, 7] [4, 0, 1, 2, 5, 6, 7, 3] rfl rfl rfl (by decide) rfl rfl (fun H locs hP hD hS => ?_)
                  obtain ⟨v24, hv24, hf⟩ := zk_ob hf
                  refine zk_goR (zk_V (As := [.long v23.1]) (rest := []) hx hb hml hown hts hK hG hP hD hS hA gX5_lie_X5_loss rfl hd_X5_loss (Nat.le_trans (Nat.le_of_ble_eq_true rfl) hRf) (Nat.le_trans (Nat.le_of_ble_eq_true rfl) hRl) hcs (zc_X5_loss l D tL tO cI cJ cB cQ a_md a_md_text a_md_weight a_md_says a_md_cost a_md_readWeight a_md_readSays a_md_opened a_md_any a_md_all a_md_burdens a_md_best a_md_own a_md_truth v23.1 v_md_length v_md_laws v_md_sayers v_md_there v_md_question v_md_measure v_md_trace v_md_readLaws v_md_readSayers v_md_readThere v_md_begin v_md_end v_md_sort v_md_open v_md_level v_md_said v12.2 v24 hv24) rfl rfl 0 rfl hl.1 rfl rfl (Nat.le_of_ble_eq_true rfl) dX5_lie_146 [0, 7] rfl rfl) hP hD hS hA [0, 7] rfl (fun H locs hP hS => ?_)
                  refine lv_istore (lv' := [(8, .int v24), (0, .ref a_md), (1, .int x0), (2, .int x1), (3, .int x2), (4, .int v14), (5, .int w15), (6, .int w16), (7, .int w17)]) hx hb dX5_lie_149 hl (by decide) rfl (fun ls hl => ?_)
                  refine lv_iload hx hb dX5_lie_151 (lv_at hl 0 rfl) ?_
                  refine lv_iload hx hb dX5_lie_153 (lv_at hl 6 rfl) ?_
                  refine lv_icmp_ge (tgt := 166) hx hb dX5_lie_155 (by decide) (fun c27 => ?_) (fun c27 => ?_)
                  · have hf := zk_t c27 hf
                    obtain ⟨y25, ey25, hf⟩ := zk_lt_s hf
                    refine lv_iinc (v := y25) (lv' := [(7, .int y25), (8, .int v24), (0, .ref a_md), (1, .int x0), (2, .int x1), (3, .int x2), (4, .int v14), (5, .int w15), (6, .int w16)]) hx hb dX5_lie_166 hl (k := 8) rfl (by rw [ey25]; rfl) (by decide) rfl (fun ls hl => ?_)
                    refine lv_goto (tgt := 95) hx hb dX5_lie_169 (by decide) ?_
                    exact ih w15 w16 y25 v22 v23.2.1 v23.2.2 _ _ _ _ hf hP hD hS (lv_sub hl [2, 3, 4, 5, 6, 7, 8, 0] rfl) hk
                  · have hf := zk_f c27 hf
                    refine lv_iload hx hb dX5_lie_158 (lv_at hl 0 rfl) ?_
                    refine lv_istore (lv' := [(5, .int v24), (8, .int v24), (0, .ref a_md), (1, .int x0), (2, .int x1), (3, .int x2), (4, .int v14), (6, .int w16), (7, .int w17)]) hx hb dX5_lie_160 hl (by decide) rfl (fun ls hl => ?_)
                    refine lv_iload hx hb dX5_lie_162 (lv_at hl 8 rfl) ?_
                    refine lv_istore (lv' := [(6, .int w17), (5, .int v24), (8, .int v24), (0, .ref a_md), (1, .int x0), (2, .int x1), (3, .int x2), (4, .int v14), (7, .int w17)]) hx hb dX5_lie_164 hl (by decide) rfl (fun ls hl => ?_)
                    obtain ⟨y26, ey26, hf⟩ := zk_lt_s hf
                    refine lv_iinc (v := y26) (lv' := [(7, .int y26), (6, .int w17), (5, .int v24), (8, .int v24), (0, .ref a_md), (1, .int x0), (2, .int x1), (3, .int x2), (4, .int v14)]) hx hb dX5_lie_166 hl (k := 8) rfl (by rw [ey26]; rfl) (by decide) rfl (fun ls hl => ?_)
                    refine lv_goto (tgt := 95) hx hb dX5_lie_169 (by decide) ?_
                    exact ih v24 w17 y26 v22 v23.2.1 v23.2.2 _ _ _ _ hf hP hD hS (lv_sub hl [4, 5, 6, 7, 8, 2, 1, 0] rfl) hk
                · have hf := zk_f c29 hf
                  refine lv_goto (tgt := 166) hx hb dX5_lie_122 (by decide) ?_
                  obtain ⟨y28, ey28, hf⟩ := zk_lt_s hf
                  refine lv_iinc (v := y28) (lv' := [(7, .int y28), (0, .ref a_md), (1, .int x0), (2, .int x1), (3, .int x2), (4, .int v14), (5, .int w15), (6, .int w16)]) hx hb dX5_lie_166 hl (k := 7) rfl (by rw [ey28]; rfl) (by decide) rfl (fun ls hl => ?_)
                  refine lv_goto (tgt := 95) hx hb dX5_lie_169 (by decide) ?_
                  exact ih w15 w16 y28 w18 w19 w20 _ _ _ _ hf hP hD hS (lv_sub hl [1, 2, 3, 4, 5, 6, 7, 0] rfl) hk
        obtain ⟨v32, hv32, hf⟩ := zk_ob hf
        refine lp95 zk_F v14 (-9 : Int32) (0 : Int32) v4 v13.2.1 v13.2.2 v32 _ _ _ hv32 hP hD hS (lv_sub hl [4, 5, 6, 7, 3, 2, 1, 0] rfl) ?_
        intro H locs ls hP hD hS hl
        refine lv_iload_n hx hb dX5_lie_172 rfl (lv_at hl 3 rfl) ?_
        refine lv_iconst (v := (2 : Int32)) hx hb dX5_lie_173 (by decide) ?_
        refine lv_icmp_ne (tgt := 182) hx hb dX5_lie_174 (by decide) (fun c35 => ?_) (fun c35 => ?_)
        · have hf := zk_f c35 hf
          refine lv_iload hx hb dX5_lie_182 (lv_at hl 6 rfl) ?_
          refine lv_bipush (v := (-9 : Int32)) hx hb dX5_lie_184 (by decide) ?_
          refine lv_icmp_ne (tgt := 194) hx hb dX5_lie_186 (by decide) (fun c34 => ?_) (fun c34 => ?_)
          · have hf := zk_f c34 hf
            refine lv_iload_n hx hb dX5_lie_194 rfl (lv_at hl 3 rfl) ?_
            refine lv_if_ne (tgt := 203) hx hb dX5_lie_195 (by decide) (fun c33 => ?_) (fun c33 => ?_)
            · have hf := zk_f c33 hf
              refine lv_iload hx hb dX5_lie_203 (lv_at hl 5 rfl) ?_
              obtain rfl := Option.some.inj hf
              exact hret trivial _ _ _ _ hP hD hS dX5_lie_205
            · have hf := zk_t c33 hf
              refine lv_iload hx hb dX5_lie_198 (lv_at hl 6 rfl) ?_
              refine lv_goto (tgt := 205) hx hb dX5_lie_200 (by decide) ?_
              obtain rfl := Option.some.inj hf
              exact hret trivial _ _ _ _ hP hD hS dX5_lie_205
          · have hf := zk_t c34 hf
            refine lv_bipush (v := (-9 : Int32)) hx hb dX5_lie_189 (by decide) ?_
            refine lv_goto (tgt := 205) hx hb dX5_lie_191 (by decide) ?_
            obtain rfl := Option.some.inj hf
            exact hret trivial _ _ _ _ hP hD hS dX5_lie_205
        · have hf := zk_t c35 hf
          refine lv_iload hx hb dX5_lie_177 (lv_at hl 4 rfl) ?_
          refine lv_goto (tgt := 205) hx hb dX5_lie_179 (by decide) ?_
          obtain rfl := Option.some.inj hf
          exact hret trivial _ _ _ _ hP hD hS dX5_lie_205
      · have hf := zk_t c36 hf
        refine lv_iconst (v := (-1 : Int32)) hx hb dX5_lie_32 (by decide) ?_
        obtain rfl := Option.some.inj hf
        exact hret trivial _ _ _ _ hP hD hS dX5_lie_33
def zf_X5_plain (x0 : Int32) (v_md_there : Int64) (v_md_trace : Int64) (f_md_says : Nat → Int64) : Option (Int32 × Int64) :=
  zk_lt (v_md_trace + (1 : Int64)) (fun y1 =>
  zk_gd (zk_in x0 7)
  ((zf_X5_many (v_md_there &&& (f_md_says x0.toNatClampNeg))).bind (fun v3 =>
  some (v3, y1))))
theorem hd_X5_plain : yX5_plain.cls = RX5 ∧ yX5_plain.cls ≠ "java/lang/invoke/MethodHandle" ∧ yX5_plain.cls ≠ "java/lang/invoke/VarHandle" ∧ (parseMethodDescriptor yX5_plain.desc).map (fun d => d.parameters.length) = some 1 := by decide +kernel
set_option maxHeartbeats 4000000 in
set_option maxRecDepth 100000 in
theorem zc_X5_plain (l : Launch) (D : va_G) (tL tO : Nat) (cI cJ cB cQ : ClassId) (a_md a_md_text a_md_weight a_md_says a_md_cost a_md_readWeight a_md_readSays a_md_opened a_md_any a_md_all a_md_burdens a_md_best a_md_own a_md_truth : Nat) (x0 : Int32) (v_md_length : Int32) (v_md_laws : Int32) (v_md_sayers : Int32) (v_md_there : Int64) (v_md_question : Int64) (v_md_measure : Int32) (v_md_trace : Int64) (v_md_readLaws : Int32) (v_md_readSayers : Int32) (v_md_readThere : Int64) (v_md_begin : Int32) (v_md_end : Int32) (v_md_sort : Int32) (v_md_open : Int32) (v_md_level : Int32) (v_md_said : Int64) (f_md_says : Nat → Int64) (z : Int32 × Int64) (hf : zf_X5_plain x0 v_md_there v_md_trace f_md_says = some z) : zk_CT l D tL tO (zk_ty cI cJ cB cQ) yX5_plain wsX5_plain 2 45 [.ref a_md, .int x0] (some (.int z.1)) [(a_md, .inr (5, [.int v_md_length, .ref a_md_text, .int v_md_laws, .int v_md_sayers, .long v_md_there, .long v_md_question, .ref a_md_weight, .ref a_md_says, .ref a_md_cost, .int v_md_measure, .long v_md_trace, .int v_md_readLaws, .int v_md_readSayers, .long v_md_readThere, .ref a_md_readWeight, .ref a_md_readSays, .int v_md_begin, .int v_md_end, .int v_md_sort, .int v_md_open, .ref a_md_opened, .int v_md_level, .ref a_md_any, .ref a_md_all, .long v_md_said, .ref a_md_burdens, .ref a_md_best, .ref a_md_own, .ref a_md_truth])), (a_md_says, .inl (cJ, 7, .inr (.inl f_md_says)))] [(a_md, .inr (5, [.int v_md_length, .ref a_md_text, .int v_md_laws, .int v_md_sayers, .long v_md_there, .long v_md_question, .ref a_md_weight, .ref a_md_says, .ref a_md_cost, .int v_md_measure, .long z.2, .int v_md_readLaws, .int v_md_readSayers, .long v_md_readThere, .ref a_md_readWeight, .ref a_md_readSays, .int v_md_begin, .int v_md_end, .int v_md_sort, .int v_md_open, .ref a_md_opened, .int v_md_level, .ref a_md_any, .ref a_md_all, .long v_md_said, .ref a_md_burdens, .ref a_md_best, .ref a_md_own, .ref a_md_truth])), (a_md_says, .inl (cJ, 7, .inr (.inl f_md_says)))] := by
  refine zk_of_i (cc := cX5_plain) (maxL := 2) (by decide) rfl (Nat.le_of_ble_eq_true rfl) ?_
  intro p e R s m args below meth c A Q ls hx hb hml hRf hRl hts hown hP hK hD hA hS hG hl hret
  have hl : lv_has ls 2 [(0, .ref a_md), (1, .int x0)] := hl
  have hown : s.vm.findClass RX5 = some m.cls := hown
  have hcs : 0 ≤ R.cells ∧ 0 ≤ R.slots := ⟨Nat.zero_le _, Nat.zero_le _⟩
  have lk0 := hts (.fieldLink RX5 222 "SayingsMergedModel" "trace" "J") (by decide +kernel)
  have inX5 : ∀ w ∈ wsX50, w ∈ wsX5_plain := by decide +kernel
  have lk2 := hts (.fieldLink RX5 15 "SayingsMergedModel" "there" "J") (by decide +kernel)
  have lk3 := hts (.fieldLink RX5 26 "SayingsMergedModel" "says" "[J") (by decide +kernel)
  unfold zf_X5_plain at hf
  refine lv_aload_n hx hb dX5_plain_0 rfl (lv_at hl 0 rfl) ?_
  refine lv_dup hx hb dX5_plain_1 rfl ?_
  refine va_get (ci := 5) (v := .long v_md_trace) (C := RX5) (T := TX5) (N := 29) hx hb hts inX5 hown hK hP 0 rfl rfl 10 (by decide) lk0 (fun _ h9 => h9) rfl dX5_plain_2 ?_
  refine lv_lconst (v := (1 : Int64)) hx hb dX5_plain_5 (by decide) ?_
  refine lv_ladd hx hb dX5_plain_6 ?_
  obtain ⟨y1, ey1, hf⟩ := zk_lt_s hf
  refine zk_topl ey1 ?_
  refine va_put (ci := 5) (v := .long y1) (ty := .long) (C := RX5) (T := TX5) (N := 29) hx hb hts inX5 tyX5 tyX5_ok nmX5 hown hK hP hD hS 0 rfl rfl 10 (by decide) lk0 (fun _ h9 => h9) rfl (by decide +kernel) rfl rfl (Nat.le_of_ble_eq_true rfl) dX5_plain_7 (fun H locs hP hD hS => ?_)
  have hP : va_P D vwCl [(a_md, .inr (5, [.int v_md_length, .ref a_md_text, .int v_md_laws, .int v_md_sayers, .long v_md_there, .long v_md_question, .ref a_md_weight, .ref a_md_says, .ref a_md_cost, .int v_md_measure, .long y1, .int v_md_readLaws, .int v_md_readSayers, .long v_md_readThere, .ref a_md_readWeight, .ref a_md_readSays, .int v_md_begin, .int v_md_end, .int v_md_sort, .int v_md_open, .ref a_md_opened, .int v_md_level, .ref a_md_any, .ref a_md_all, .long v_md_said, .ref a_md_burdens, .ref a_md_best, .ref a_md_own, .ref a_md_truth])), (a_md_says, .inl (cJ, 7, .inr (.inl f_md_says)))] H := hP
  have hD : va_D A [(a_md, .inr (5, [.int v_md_length, .ref a_md_text, .int v_md_laws, .int v_md_sayers, .long v_md_there, .long v_md_question, .ref a_md_weight, .ref a_md_says, .ref a_md_cost, .int v_md_measure, .long y1, .int v_md_readLaws, .int v_md_readSayers, .long v_md_readThere, .ref a_md_readWeight, .ref a_md_readSays, .int v_md_begin, .int v_md_end, .int v_md_sort, .int v_md_open, .ref a_md_opened, .int v_md_level, .ref a_md_any, .ref a_md_all, .long v_md_said, .ref a_md_burdens, .ref a_md_best, .ref a_md_own, .ref a_md_truth])), (a_md_says, .inl (cJ, 7, .inr (.inl f_md_says)))] := hD
  refine lv_aload_n hx hb dX5_plain_10 rfl (lv_at hl 0 rfl) ?_
  refine va_get (ci := 5) (v := .long v_md_there) (C := RX5) (T := TX5) (N := 29) hx hb hts inX5 hown hK hP 0 rfl rfl 4 (by decide) lk2 (fun _ h9 => h9) rfl dX5_plain_11 ?_
  refine lv_aload_n hx hb dX5_plain_14 rfl (lv_at hl 0 rfl) ?_
  refine va_get (ci := 5) (v := .ref a_md_says) (C := RX5) (T := TX5) (N := 29) hx hb hts inX5 hown hK hP 0 rfl rfl 7 (by decide) lk3 (fun _ h9 => h9) rfl dX5_plain_15 ?_
  refine lv_iload_n hx hb dX5_plain_18 rfl (lv_at hl 1 rfl) ?_
  obtain ⟨g2, hf⟩ := zk_gd_s hf
  refine va_lald hx hb hK hP 1 1 rfl rfl (zk_in_s g2) dX5_plain_19 ?_
  refine lv_land hx hb dX5_plain_20 ?_
  obtain ⟨v3, hv3, hf⟩ := zk_ob hf
  refine zk_goR (zk_S (As := [.long (v_md_there &&& (f_md_says x0.toNatClampNeg))]) (rest := []) hx hb hml hown hts hK hG hP hD hS hA gX5_plain_X5_many rfl hd_X5_many (Nat.le_trans (Nat.le_of_ble_eq_true rfl) hRf) (Nat.le_trans (Nat.le_of_ble_eq_true rfl) hRl) hcs (zc_X5_many l D tL tO cI cJ cB cQ (v_md_there &&& (f_md_says x0.toNatClampNeg)) v3 hv3) hl.1 rfl rfl (Nat.le_of_ble_eq_true rfl) dX5_plain_21 [] rfl rfl) hP hD hS hA [] rfl (fun H locs hP hS => ?_)
  obtain rfl := Option.some.inj hf
  exact hret trivial _ _ _ _ hP hD hS dX5_plain_24
def zf_X5_weighty (x0 : Int32) (v_md_there : Int64) (v_md_trace : Int64) (f_md_weight : Nat → Int32) (f_md_says : Nat → Int64) : Option (Int32 × Int64) :=
  zk_lt (v_md_trace + (10 : Int64)) (fun y1 =>
  (zf_X5_plain x0 v_md_there y1 f_md_says).bind (fun v2 =>
  zk_gd (zk_in x0 7)
  (some (v2.1 * (f_md_weight x0.toNatClampNeg), v2.2))))
theorem hd_X5_weighty : yX5_weighty.cls = RX5 ∧ yX5_weighty.cls ≠ "java/lang/invoke/MethodHandle" ∧ yX5_weighty.cls ≠ "java/lang/invoke/VarHandle" ∧ (parseMethodDescriptor yX5_weighty.desc).map (fun d => d.parameters.length) = some 1 := by decide +kernel
set_option maxHeartbeats 4000000 in
set_option maxRecDepth 100000 in
theorem zc_X5_weighty (l : Launch) (D : va_G) (tL tO : Nat) (cI cJ cB cQ : ClassId) (a_md a_md_text a_md_weight a_md_says a_md_cost a_md_readWeight a_md_readSays a_md_opened a_md_any a_md_all a_md_burdens a_md_best a_md_own a_md_truth : Nat) (x0 : Int32) (v_md_length : Int32) (v_md_laws : Int32) (v_md_sayers : Int32) (v_md_there : Int64) (v_md_question : Int64) (v_md_measure : Int32) (v_md_trace : Int64) (v_md_readLaws : Int32) (v_md_readSayers : Int32) (v_md_readThere : Int64) (v_md_begin : Int32) (v_md_end : Int32) (v_md_sort : Int32) (v_md_open : Int32) (v_md_level : Int32) (v_md_said : Int64) (f_md_weight : Nat → Int32) (f_md_says : Nat → Int64) (z : Int32 × Int64) (hf : zf_X5_weighty x0 v_md_there v_md_trace f_md_weight f_md_says = some z) : zk_CT l D tL tO (zk_ty cI cJ cB cQ) yX5_weighty wsX5_weighty 3 66 [.ref a_md, .int x0] (some (.int z.1)) [(a_md, .inr (5, [.int v_md_length, .ref a_md_text, .int v_md_laws, .int v_md_sayers, .long v_md_there, .long v_md_question, .ref a_md_weight, .ref a_md_says, .ref a_md_cost, .int v_md_measure, .long v_md_trace, .int v_md_readLaws, .int v_md_readSayers, .long v_md_readThere, .ref a_md_readWeight, .ref a_md_readSays, .int v_md_begin, .int v_md_end, .int v_md_sort, .int v_md_open, .ref a_md_opened, .int v_md_level, .ref a_md_any, .ref a_md_all, .long v_md_said, .ref a_md_burdens, .ref a_md_best, .ref a_md_own, .ref a_md_truth])), (a_md_weight, .inl (cI, 7, .inl f_md_weight)), (a_md_says, .inl (cJ, 7, .inr (.inl f_md_says)))] [(a_md, .inr (5, [.int v_md_length, .ref a_md_text, .int v_md_laws, .int v_md_sayers, .long v_md_there, .long v_md_question, .ref a_md_weight, .ref a_md_says, .ref a_md_cost, .int v_md_measure, .long z.2, .int v_md_readLaws, .int v_md_readSayers, .long v_md_readThere, .ref a_md_readWeight, .ref a_md_readSays, .int v_md_begin, .int v_md_end, .int v_md_sort, .int v_md_open, .ref a_md_opened, .int v_md_level, .ref a_md_any, .ref a_md_all, .long v_md_said, .ref a_md_burdens, .ref a_md_best, .ref a_md_own, .ref a_md_truth])), (a_md_weight, .inl (cI, 7, .inl f_md_weight)), (a_md_says, .inl (cJ, 7, .inr (.inl f_md_says)))] := by
  refine zk_of_i (cc := cX5_weighty) (maxL := 2) (by decide) rfl (Nat.le_of_ble_eq_true rfl) ?_
  intro p e R s m args below meth c A Q ls hx hb hml hRf hRl hts hown hP hK hD hA hS hG hl hret
  have hl : lv_has ls 2 [(0, .ref a_md), (1, .int x0)] := hl
  have hown : s.vm.findClass RX5 = some m.cls := hown
  have hcs : 0 ≤ R.cells ∧ 0 ≤ R.slots := ⟨Nat.zero_le _, Nat.zero_le _⟩
  have lk0 := hts (.fieldLink RX5 222 "SayingsMergedModel" "trace" "J") (by decide +kernel)
  have inX5 : ∀ w ∈ wsX50, w ∈ wsX5_weighty := by decide +kernel
  have lk2 := hts (.constantLong RX5 225 (10)) (by decide +kernel)
  have lk3 := hts (.fieldLink RX5 22 "SayingsMergedModel" "weight" "[I") (by decide +kernel)
  unfold zf_X5_weighty at hf
  refine lv_aload_n hx hb dX5_weighty_0 rfl (lv_at hl 0 rfl) ?_
  refine lv_dup hx hb dX5_weighty_1 rfl ?_
  refine va_get (ci := 5) (v := .long v_md_trace) (C := RX5) (T := TX5) (N := 29) hx hb hts inX5 hown hK hP 0 rfl rfl 10 (by decide) lk0 (fun _ h9 => h9) rfl dX5_weighty_2 ?_
  refine lv_ldc2 hx hb hown lk2 dX5_weighty_5 ?_
  refine lv_ladd hx hb dX5_weighty_8 ?_
  obtain ⟨y1, ey1, hf⟩ := zk_lt_s hf
  refine zk_topl ey1 ?_
  refine va_put (ci := 5) (v := .long y1) (ty := .long) (C := RX5) (T := TX5) (N := 29) hx hb hts inX5 tyX5 tyX5_ok nmX5 hown hK hP hD hS 0 rfl rfl 10 (by decide) lk0 (fun _ h9 => h9) rfl (by decide +kernel) rfl rfl (Nat.le_of_ble_eq_true rfl) dX5_weighty_9 (fun H locs hP hD hS => ?_)
  have hP : va_P D vwCl [(a_md, .inr (5, [.int v_md_length, .ref a_md_text, .int v_md_laws, .int v_md_sayers, .long v_md_there, .long v_md_question, .ref a_md_weight, .ref a_md_says, .ref a_md_cost, .int v_md_measure, .long y1, .int v_md_readLaws, .int v_md_readSayers, .long v_md_readThere, .ref a_md_readWeight, .ref a_md_readSays, .int v_md_begin, .int v_md_end, .int v_md_sort, .int v_md_open, .ref a_md_opened, .int v_md_level, .ref a_md_any, .ref a_md_all, .long v_md_said, .ref a_md_burdens, .ref a_md_best, .ref a_md_own, .ref a_md_truth])), (a_md_weight, .inl (cI, 7, .inl f_md_weight)), (a_md_says, .inl (cJ, 7, .inr (.inl f_md_says)))] H := hP
  have hD : va_D A [(a_md, .inr (5, [.int v_md_length, .ref a_md_text, .int v_md_laws, .int v_md_sayers, .long v_md_there, .long v_md_question, .ref a_md_weight, .ref a_md_says, .ref a_md_cost, .int v_md_measure, .long y1, .int v_md_readLaws, .int v_md_readSayers, .long v_md_readThere, .ref a_md_readWeight, .ref a_md_readSays, .int v_md_begin, .int v_md_end, .int v_md_sort, .int v_md_open, .ref a_md_opened, .int v_md_level, .ref a_md_any, .ref a_md_all, .long v_md_said, .ref a_md_burdens, .ref a_md_best, .ref a_md_own, .ref a_md_truth])), (a_md_weight, .inl (cI, 7, .inl f_md_weight)), (a_md_says, .inl (cJ, 7, .inr (.inl f_md_says)))] := hD
  refine lv_aload_n hx hb dX5_weighty_12 rfl (lv_at hl 0 rfl) ?_
  refine lv_iload_n hx hb dX5_weighty_13 rfl (lv_at hl 1 rfl) ?_
  obtain ⟨v2, hv2, hf⟩ := zk_ob hf
  refine zk_go (wr := [(a_md_weight, .inl (cI, 7, .inl f_md_weight))]) (w2 := [(a_md, .inr (5, [.int v_md_length, .ref a_md_text, .int v_md_laws, .int v_md_sayers, .long v_md_there, .long v_md_question, .ref a_md_weight, .ref a_md_says, .ref a_md_cost, .int v_md_measure, .long v2.2, .int v_md_readLaws, .int v_md_readSayers, .long v_md_readThere, .ref a_md_readWeight, .ref a_md_readSays, .int v_md_begin, .int v_md_end, .int v_md_sort, .int v_md_open, .ref a_md_opened, .int v_md_level, .ref a_md_any, .ref a_md_all, .long v_md_said, .ref a_md_burdens, .ref a_md_best, .ref a_md_own, .ref a_md_truth])), (a_md_weight, .inl (cI, 7, .inl f_md_weight)), (a_md_says, .inl (cJ, 7, .inr (.inl f_md_says)))]) (zk_V (As := [.int x0]) (rest := []) hx hb hml hown hts hK hG hP hD hS hA gX5_weighty_X5_plain rfl hd_X5_plain (Nat.le_trans (Nat.le_of_ble_eq_true rfl) hRf) (Nat.le_trans (Nat.le_of_ble_eq_true rfl) hRl) hcs (zc_X5_plain l D tL tO cI cJ cB cQ a_md a_md_text a_md_weight a_md_says a_md_cost a_md_readWeight a_md_readSays a_md_opened a_md_any a_md_all a_md_burdens a_md_best a_md_own a_md_truth x0 v_md_length v_md_laws v_md_sayers v_md_there v_md_question v_md_measure y1 v_md_readLaws v_md_readSayers v_md_readThere v_md_begin v_md_end v_md_sort v_md_open v_md_level v_md_said f_md_says v2 hv2) rfl rfl 0 rfl hl.1 rfl rfl (Nat.le_of_ble_eq_true rfl) dX5_weighty_14 [0, 2] rfl rfl) hP hD hS hA [0, 2] [1] [1, 0, 2] rfl rfl rfl (by decide) rfl rfl (fun H locs hP hD hS => ?_)
  refine lv_aload_n hx hb dX5_weighty_17 rfl (lv_at hl 0 rfl) ?_
  refine va_get (ci := 5) (v := .ref a_md_weight) (C := RX5) (T := TX5) (N := 29) hx hb hts inX5 hown hK hP 0 rfl rfl 6 (by decide) lk3 (fun _ h9 => h9) rfl dX5_weighty_18 ?_
  refine lv_iload_n hx hb dX5_weighty_21 rfl (lv_at hl 1 rfl) ?_
  obtain ⟨g3, hf⟩ := zk_gd_s hf
  refine va_iald hx hb hK hP 1 0 rfl rfl (zk_in_s g3) dX5_weighty_22 ?_
  refine lv_imul hx hb dX5_weighty_23 ?_
  obtain rfl := Option.some.inj hf
  exact hret trivial _ _ _ _ hP hD hS dX5_weighty_24
def zl_X5_worth_67 (x1 : Int32) (v_md_sayers : Int32) (f_md_says : Nat → Int64) : Nat → (Int64) → (Int32) → Option (Int64 × Int32)
  | 0, _, _ => none
  | n + 1, w9, w10 =>
    if v_md_sayers ≤ w10 then
    some (w9, w10)
    else
    if w10 = x1 then
    zk_lt (w9 ||| (0 : Int64)) (fun y14 =>
    zk_lt (w10 + 1) (fun y15 =>
    zl_X5_worth_67 x1 v_md_sayers f_md_says n y14 y15))
    else
    zk_gd (zk_in w10 7)
    (zk_lt (w9 ||| (f_md_says w10.toNatClampNeg)) (fun y12 =>
    zk_lt (w10 + 1) (fun y13 =>
    zl_X5_worth_67 x1 v_md_sayers f_md_says n y12 y13)))
def zf_X5_worth (x0 : Int32) (x1 : Int32) (v_md_sayers : Int32) (v_md_there : Int64) (v_md_measure : Int32) (v_md_trace : Int64) (f_md_weight : Nat → Int32) (f_md_says : Nat → Int64) (f_md_cost : Nat → Int32) (f_md_burdens : Nat → Int32) (f_md_best : Nat → Int32) (f_md_own : Nat → Int32) : Option (Int32 × Int64 × (Nat → Int32) × (Nat → Int32) × (Nat → Int32)) :=
  (zf_X5_in x0.toInt64 (0 : Int64) (3 : Int64)).bind (fun v1 =>
  if v1 = 0 then
  some ((-1 : Int32), v_md_trace, f_md_burdens, f_md_best, f_md_own)
  else
  (zf_X5_isSayer x1 v_md_sayers).bind (fun v2 =>
  if v2 = 0 then
  some ((-1 : Int32), v_md_trace, f_md_burdens, f_md_best, f_md_own)
  else
  if (2 : Int32) ≤ x0 then
  if x0 = (2 : Int32) then
  zk_lt (v_md_trace + (100 : Int64)) (fun y8 =>
  (zl_X5_worth_67 x1 v_md_sayers f_md_says zk_F (0 : Int64) (0 : Int32)).bind (fun v18 =>
  (zf_X5_plain x1 v_md_there y8 f_md_says).bind (fun v19 =>
  zk_gd (zk_in x1 7)
  ((zf_X5_many ((v_md_there &&& (f_md_says x1.toNatClampNeg)) &&& v18.1)).bind (fun v21 =>
  some (v19.1 - v21, v19.2, f_md_burdens, f_md_best, f_md_own))))))
  else
  zk_lt (v_md_trace + (1000 : Int64)) (fun y3 =>
  (zf_X5_laysAll v_md_sayers v_md_measure f_md_weight f_md_says f_md_cost f_md_burdens).bind (fun v4 =>
  (zf_X5_weighty x1 v_md_there y3 f_md_weight f_md_says).bind (fun v5 =>
  (zf_X5_mergedBy (0 : Int32) v_md_sayers v_md_there v4 f_md_best f_md_own).bind (fun v6 =>
  (zf_X5_many v6.1).bind (fun v7 =>
  some (v5.1 + v7, v5.2, v4, v6.2.1, v6.2.2))))))
  else
  if x0 = 0 then
  (zf_X5_plain x1 v_md_there v_md_trace f_md_says).bind (fun v24 =>
  some (v24.1, v24.2, f_md_burdens, f_md_best, f_md_own))
  else
  (zf_X5_weighty x1 v_md_there v_md_trace f_md_weight f_md_says).bind (fun v23 =>
  some (v23.1, v23.2, f_md_burdens, f_md_best, f_md_own))))
theorem hd_X5_worth : yX5_worth.cls = RX5 ∧ yX5_worth.cls ≠ "java/lang/invoke/MethodHandle" ∧ yX5_worth.cls ≠ "java/lang/invoke/VarHandle" ∧ (parseMethodDescriptor yX5_worth.desc).map (fun d => d.parameters.length) = some 2 := by decide +kernel
set_option maxHeartbeats 4000000 in
set_option maxRecDepth 100000 in
theorem zc_X5_worth (l : Launch) (D : va_G) (tL tO : Nat) (cI cJ cB cQ : ClassId) (a_md a_md_text a_md_weight a_md_says a_md_cost a_md_readWeight a_md_readSays a_md_opened a_md_any a_md_all a_md_burdens a_md_best a_md_own a_md_truth : Nat) (x0 : Int32) (x1 : Int32) (v_md_length : Int32) (v_md_laws : Int32) (v_md_sayers : Int32) (v_md_there : Int64) (v_md_question : Int64) (v_md_measure : Int32) (v_md_trace : Int64) (v_md_readLaws : Int32) (v_md_readSayers : Int32) (v_md_readThere : Int64) (v_md_begin : Int32) (v_md_end : Int32) (v_md_sort : Int32) (v_md_open : Int32) (v_md_level : Int32) (v_md_said : Int64) (f_md_weight : Nat → Int32) (f_md_says : Nat → Int64) (f_md_cost : Nat → Int32) (f_md_burdens : Nat → Int32) (f_md_best : Nat → Int32) (f_md_own : Nat → Int32) (z : Int32 × Int64 × (Nat → Int32) × (Nat → Int32) × (Nat → Int32)) (hf : zf_X5_worth x0 x1 v_md_sayers v_md_there v_md_measure v_md_trace f_md_weight f_md_says f_md_cost f_md_burdens f_md_best f_md_own = some z) : zk_CT l D tL tO (zk_ty cI cJ cB cQ) yX5_worth wsX5_worth 5 116 [.ref a_md, .int x0, .int x1] (some (.int z.1)) [(a_md, .inr (5, [.int v_md_length, .ref a_md_text, .int v_md_laws, .int v_md_sayers, .long v_md_there, .long v_md_question, .ref a_md_weight, .ref a_md_says, .ref a_md_cost, .int v_md_measure, .long v_md_trace, .int v_md_readLaws, .int v_md_readSayers, .long v_md_readThere, .ref a_md_readWeight, .ref a_md_readSays, .int v_md_begin, .int v_md_end, .int v_md_sort, .int v_md_open, .ref a_md_opened, .int v_md_level, .ref a_md_any, .ref a_md_all, .long v_md_said, .ref a_md_burdens, .ref a_md_best, .ref a_md_own, .ref a_md_truth])), (a_md_weight, .inl (cI, 7, .inl f_md_weight)), (a_md_says, .inl (cJ, 7, .inr (.inl f_md_says))), (a_md_cost, .inl (cI, 6, .inl f_md_cost)), (a_md_burdens, .inl (cI, 448, .inl f_md_burdens)), (a_md_best, .inl (cI, 7, .inl f_md_best)), (a_md_own, .inl (cI, 7, .inl f_md_own))] [(a_md, .inr (5, [.int v_md_length, .ref a_md_text, .int v_md_laws, .int v_md_sayers, .long v_md_there, .long v_md_question, .ref a_md_weight, .ref a_md_says, .ref a_md_cost, .int v_md_measure, .long z.2.1, .int v_md_readLaws, .int v_md_readSayers, .long v_md_readThere, .ref a_md_readWeight, .ref a_md_readSays, .int v_md_begin, .int v_md_end, .int v_md_sort, .int v_md_open, .ref a_md_opened, .int v_md_level, .ref a_md_any, .ref a_md_all, .long v_md_said, .ref a_md_burdens, .ref a_md_best, .ref a_md_own, .ref a_md_truth])), (a_md_weight, .inl (cI, 7, .inl f_md_weight)), (a_md_says, .inl (cJ, 7, .inr (.inl f_md_says))), (a_md_cost, .inl (cI, 6, .inl f_md_cost)), (a_md_burdens, .inl (cI, 448, .inl z.2.2.1)), (a_md_best, .inl (cI, 7, .inl z.2.2.2.1)), (a_md_own, .inl (cI, 7, .inl z.2.2.2.2))] := by
  refine zk_of_i (cc := cX5_worth) (maxL := 6) (by decide) rfl (Nat.le_of_ble_eq_true rfl) ?_
  intro p e R s m args below meth c A Q ls hx hb hml hRf hRl hts hown hP hK hD hA hS hG hl hret
  have hl : lv_has ls 6 [(0, .ref a_md), (1, .int x0), (2, .int x1)] := hl
  have hown : s.vm.findClass RX5 = some m.cls := hown
  have hcs : 0 ≤ R.cells ∧ 0 ≤ R.slots := ⟨Nat.zero_le _, Nat.zero_le _⟩
  have lk0 := hts (.constantLong RX5 230 (3)) (by decide +kernel)
  have lk1 := hts (.fieldLink RX5 222 "SayingsMergedModel" "trace" "J") (by decide +kernel)
  have inX5 : ∀ w ∈ wsX50, w ∈ wsX5_worth := by decide +kernel
  have lk3 := hts (.constantLong RX5 237 (1000)) (by decide +kernel)
  have lk4 := hts (.constantLong RX5 235 (100)) (by decide +kernel)
  have lk5 := hts (.fieldLink RX5 142 "SayingsMergedModel" "sayers" "I") (by decide +kernel)
  have lk6 := hts (.fieldLink RX5 26 "SayingsMergedModel" "says" "[J") (by decide +kernel)
  have lk7 := hts (.fieldLink RX5 15 "SayingsMergedModel" "there" "J") (by decide +kernel)
  unfold zf_X5_worth at hf
  refine lv_iload_n hx hb dX5_worth_0 rfl (lv_at hl 1 rfl) ?_
  refine lv_i2l hx hb dX5_worth_1 rfl ?_
  refine lv_lconst (v := (0 : Int64)) hx hb dX5_worth_2 (by decide) ?_
  refine lv_ldc2 hx hb hown lk0 dX5_worth_3 ?_
  obtain ⟨v1, hv1, hf⟩ := zk_ob hf
  refine zk_goR (zk_S (As := [.long x0.toInt64, .long (0 : Int64), .long (3 : Int64)]) (rest := []) hx hb hml hown hts hK hG hP hD hS hA gX5_worth_X5_in rfl hd_X5_in (Nat.le_trans (Nat.le_of_ble_eq_true rfl) hRf) (Nat.le_trans (Nat.le_of_ble_eq_true rfl) hRl) hcs (zc_X5_in l D tL tO cI cJ cB cQ x0.toInt64 (0 : Int64) (3 : Int64) v1 hv1) hl.1 rfl rfl (Nat.le_of_ble_eq_true rfl) dX5_worth_6 [] rfl rfl) hP hD hS hA [] rfl (fun H locs hP hS => ?_)
  refine lv_if_eq (tgt := 20) hx hb dX5_worth_9 (by decide) (fun c28 => ?_) (fun c28 => ?_)
  · have hf := zk_t c28 hf
    refine lv_iconst (v := (-1 : Int32)) hx hb dX5_worth_20 (by decide) ?_
    obtain rfl := Option.some.inj hf
    exact hret trivial _ _ _ _ hP hD hS dX5_worth_21
  · have hf := zk_f c28 hf
    refine lv_aload_n hx hb dX5_worth_12 rfl (lv_at hl 0 rfl) ?_
    refine lv_iload_n hx hb dX5_worth_13 rfl (lv_at hl 2 rfl) ?_
    obtain ⟨v2, hv2, hf⟩ := zk_ob hf
    refine zk_goR (zk_V (As := [.int x1]) (rest := []) hx hb hml hown hts hK hG hP hD hS hA gX5_worth_X5_isSayer rfl hd_X5_isSayer (Nat.le_trans (Nat.le_of_ble_eq_true rfl) hRf) (Nat.le_trans (Nat.le_of_ble_eq_true rfl) hRl) hcs (zc_X5_isSayer l D tL tO cI cJ cB cQ a_md a_md_text a_md_weight a_md_says a_md_cost a_md_readWeight a_md_readSays a_md_opened a_md_any a_md_all a_md_burdens a_md_best a_md_own a_md_truth x1 v_md_length v_md_laws v_md_sayers v_md_there v_md_question v_md_measure v_md_trace v_md_readLaws v_md_readSayers v_md_readThere v_md_begin v_md_end v_md_sort v_md_open v_md_level v_md_said v2 hv2) rfl rfl 0 rfl hl.1 rfl rfl (Nat.le_of_ble_eq_true rfl) dX5_worth_14 [0] rfl rfl) hP hD hS hA [0] rfl (fun H locs hP hS => ?_)
    refine lv_if_ne (tgt := 22) hx hb dX5_worth_17 (by decide) (fun c27 => ?_) (fun c27 => ?_)
    · have hf := zk_f c27 hf
      refine lv_iload_n hx hb dX5_worth_22 rfl (lv_at hl 1 rfl) ?_
      refine lv_iconst (v := (2 : Int32)) hx hb dX5_worth_23 (by decide) ?_
      refine lv_icmp_ge (tgt := 45) hx hb dX5_worth_24 (by decide) (fun c26 => ?_) (fun c26 => ?_)
      · have hf := zk_t c26 hf
        refine lv_iload_n hx hb dX5_worth_45 rfl (lv_at hl 1 rfl) ?_
        refine lv_iconst (v := (2 : Int32)) hx hb dX5_worth_46 (by decide) ?_
        refine lv_icmp_ne (tgt := 125) hx hb dX5_worth_47 (by decide) (fun c22 => ?_) (fun c22 => ?_)
        · have hf := zk_f c22 hf
          refine lv_aload_n hx hb dX5_worth_125 rfl (lv_at hl 0 rfl) ?_
          refine lv_dup hx hb dX5_worth_126 rfl ?_
          refine va_get (ci := 5) (v := .long v_md_trace) (C := RX5) (T := TX5) (N := 29) hx hb hts inX5 hown hK hP 0 rfl rfl 10 (by decide) lk1 (fun _ h9 => h9) rfl dX5_worth_127 ?_
          refine lv_ldc2 hx hb hown lk3 dX5_worth_130 ?_
          refine lv_ladd hx hb dX5_worth_133 ?_
          obtain ⟨y3, ey3, hf⟩ := zk_lt_s hf
          refine zk_topl ey3 ?_
          refine va_put (ci := 5) (v := .long y3) (ty := .long) (C := RX5) (T := TX5) (N := 29) hx hb hts inX5 tyX5 tyX5_ok nmX5 hown hK hP hD hS 0 rfl rfl 10 (by decide) lk1 (fun _ h9 => h9) rfl (by decide +kernel) rfl rfl (Nat.le_of_ble_eq_true rfl) dX5_worth_134 (fun H locs hP hD hS => ?_)
          have hP : va_P D vwCl [(a_md, .inr (5, [.int v_md_length, .ref a_md_text, .int v_md_laws, .int v_md_sayers, .long v_md_there, .long v_md_question, .ref a_md_weight, .ref a_md_says, .ref a_md_cost, .int v_md_measure, .long y3, .int v_md_readLaws, .int v_md_readSayers, .long v_md_readThere, .ref a_md_readWeight, .ref a_md_readSays, .int v_md_begin, .int v_md_end, .int v_md_sort, .int v_md_open, .ref a_md_opened, .int v_md_level, .ref a_md_any, .ref a_md_all, .long v_md_said, .ref a_md_burdens, .ref a_md_best, .ref a_md_own, .ref a_md_truth])), (a_md_weight, .inl (cI, 7, .inl f_md_weight)), (a_md_says, .inl (cJ, 7, .inr (.inl f_md_says))), (a_md_cost, .inl (cI, 6, .inl f_md_cost)), (a_md_burdens, .inl (cI, 448, .inl f_md_burdens)), (a_md_best, .inl (cI, 7, .inl f_md_best)), (a_md_own, .inl (cI, 7, .inl f_md_own))] H := hP
          have hD : va_D A [(a_md, .inr (5, [.int v_md_length, .ref a_md_text, .int v_md_laws, .int v_md_sayers, .long v_md_there, .long v_md_question, .ref a_md_weight, .ref a_md_says, .ref a_md_cost, .int v_md_measure, .long y3, .int v_md_readLaws, .int v_md_readSayers, .long v_md_readThere, .ref a_md_readWeight, .ref a_md_readSays, .int v_md_begin, .int v_md_end, .int v_md_sort, .int v_md_open, .ref a_md_opened, .int v_md_level, .ref a_md_any, .ref a_md_all, .long v_md_said, .ref a_md_burdens, .ref a_md_best, .ref a_md_own, .ref a_md_truth])), (a_md_weight, .inl (cI, 7, .inl f_md_weight)), (a_md_says, .inl (cJ, 7, .inr (.inl f_md_says))), (a_md_cost, .inl (cI, 6, .inl f_md_cost)), (a_md_burdens, .inl (cI, 448, .inl f_md_burdens)), (a_md_best, .inl (cI, 7, .inl f_md_best)), (a_md_own, .inl (cI, 7, .inl f_md_own))] := hD
          refine lv_aload_n hx hb dX5_worth_137 rfl (lv_at hl 0 rfl) ?_
          obtain ⟨v4, hv4, hf⟩ := zk_ob hf
          refine zk_go (wr := [(a_md_best, .inl (cI, 7, .inl f_md_best)), (a_md_own, .inl (cI, 7, .inl f_md_own))]) (w2 := [(a_md, .inr (5, [.int v_md_length, .ref a_md_text, .int v_md_laws, .int v_md_sayers, .long v_md_there, .long v_md_question, .ref a_md_weight, .ref a_md_says, .ref a_md_cost, .int v_md_measure, .long y3, .int v_md_readLaws, .int v_md_readSayers, .long v_md_readThere, .ref a_md_readWeight, .ref a_md_readSays, .int v_md_begin, .int v_md_end, .int v_md_sort, .int v_md_open, .ref a_md_opened, .int v_md_level, .ref a_md_any, .ref a_md_all, .long v_md_said, .ref a_md_burdens, .ref a_md_best, .ref a_md_own, .ref a_md_truth])), (a_md_weight, .inl (cI, 7, .inl f_md_weight)), (a_md_says, .inl (cJ, 7, .inr (.inl f_md_says))), (a_md_cost, .inl (cI, 6, .inl f_md_cost)), (a_md_burdens, .inl (cI, 448, .inl v4)), (a_md_best, .inl (cI, 7, .inl f_md_best)), (a_md_own, .inl (cI, 7, .inl f_md_own))]) (zk_V (As := []) (rest := []) hx hb hml hown hts hK hG hP hD hS hA gX5_worth_X5_laysAll rfl hd_X5_laysAll (Nat.le_trans (Nat.le_of_ble_eq_true rfl) hRf) (Nat.le_trans (Nat.le_of_ble_eq_true rfl) hRl) hcs (zc_X5_laysAll l D tL tO cI cJ cB cQ a_md a_md_text a_md_weight a_md_says a_md_cost a_md_readWeight a_md_readSays a_md_opened a_md_any a_md_all a_md_burdens a_md_best a_md_own a_md_truth v_md_length v_md_laws v_md_sayers v_md_there v_md_question v_md_measure y3 v_md_readLaws v_md_readSayers v_md_readThere v_md_begin v_md_end v_md_sort v_md_open v_md_level v_md_said f_md_weight f_md_says f_md_cost f_md_burdens v4 hv4) rfl rfl 0 rfl hl.1 rfl rfl (Nat.le_of_ble_eq_true rfl) dX5_worth_138 [0, 1, 2, 3, 4] rfl rfl) hP hD hS hA [0, 1, 2, 3, 4] [5, 6] [2, 3, 4, 5, 6, 0, 1] rfl rfl rfl (by decide) rfl rfl (fun H locs hP hD hS => ?_)
          refine lv_aload_n hx hb dX5_worth_141 rfl (lv_at hl 0 rfl) ?_
          refine lv_iload_n hx hb dX5_worth_142 rfl (lv_at hl 2 rfl) ?_
          obtain ⟨v5, hv5, hf⟩ := zk_ob hf
          refine zk_go (wr := [(a_md_cost, .inl (cI, 6, .inl f_md_cost)), (a_md_burdens, .inl (cI, 448, .inl v4)), (a_md_best, .inl (cI, 7, .inl f_md_best)), (a_md_own, .inl (cI, 7, .inl f_md_own))]) (w2 := [(a_md, .inr (5, [.int v_md_length, .ref a_md_text, .int v_md_laws, .int v_md_sayers, .long v_md_there, .long v_md_question, .ref a_md_weight, .ref a_md_says, .ref a_md_cost, .int v_md_measure, .long v5.2, .int v_md_readLaws, .int v_md_readSayers, .long v_md_readThere, .ref a_md_readWeight, .ref a_md_readSays, .int v_md_begin, .int v_md_end, .int v_md_sort, .int v_md_open, .ref a_md_opened, .int v_md_level, .ref a_md_any, .ref a_md_all, .long v_md_said, .ref a_md_burdens, .ref a_md_best, .ref a_md_own, .ref a_md_truth])), (a_md_weight, .inl (cI, 7, .inl f_md_weight)), (a_md_says, .inl (cJ, 7, .inr (.inl f_md_says))), (a_md_cost, .inl (cI, 6, .inl f_md_cost)), (a_md_burdens, .inl (cI, 448, .inl v4)), (a_md_best, .inl (cI, 7, .inl f_md_best)), (a_md_own, .inl (cI, 7, .inl f_md_own))]) (zk_V (As := [.int x1]) (rest := []) hx hb hml hown hts hK hG hP hD hS hA gX5_worth_X5_weighty rfl hd_X5_weighty (Nat.le_trans (Nat.le_of_ble_eq_true rfl) hRf) (Nat.le_trans (Nat.le_of_ble_eq_true rfl) hRl) hcs (zc_X5_weighty l D tL tO cI cJ cB cQ a_md a_md_text a_md_weight a_md_says a_md_cost a_md_readWeight a_md_readSays a_md_opened a_md_any a_md_all a_md_burdens a_md_best a_md_own a_md_truth x1 v_md_length v_md_laws v_md_sayers v_md_there v_md_question v_md_measure y3 v_md_readLaws v_md_readSayers v_md_readThere v_md_begin v_md_end v_md_sort v_md_open v_md_level v_md_said f_md_weight f_md_says v5 hv5) rfl rfl 0 rfl hl.1 rfl rfl (Nat.le_of_ble_eq_true rfl) dX5_worth_143 [0, 1, 2] rfl rfl) hP hD hS hA [0, 1, 2] [3, 4, 5, 6] [4, 5, 6, 0, 1, 2, 3] rfl rfl rfl (by decide) rfl rfl (fun H locs hP hD hS => ?_)
          refine lv_aload_n hx hb dX5_worth_146 rfl (lv_at hl 0 rfl) ?_
          refine lv_iconst (v := (0 : Int32)) hx hb dX5_worth_147 (by decide) ?_
          obtain ⟨v6, hv6, hf⟩ := zk_ob hf
          refine zk_go (wr := [(a_md_weight, .inl (cI, 7, .inl f_md_weight)), (a_md_says, .inl (cJ, 7, .inr (.inl f_md_says))), (a_md_cost, .inl (cI, 6, .inl f_md_cost))]) (w2 := [(a_md, .inr (5, [.int v_md_length, .ref a_md_text, .int v_md_laws, .int v_md_sayers, .long v_md_there, .long v_md_question, .ref a_md_weight, .ref a_md_says, .ref a_md_cost, .int v_md_measure, .long v5.2, .int v_md_readLaws, .int v_md_readSayers, .long v_md_readThere, .ref a_md_readWeight, .ref a_md_readSays, .int v_md_begin, .int v_md_end, .int v_md_sort, .int v_md_open, .ref a_md_opened, .int v_md_level, .ref a_md_any, .ref a_md_all, .long v_md_said, .ref a_md_burdens, .ref a_md_best, .ref a_md_own, .ref a_md_truth])), (a_md_weight, .inl (cI, 7, .inl f_md_weight)), (a_md_says, .inl (cJ, 7, .inr (.inl f_md_says))), (a_md_cost, .inl (cI, 6, .inl f_md_cost)), (a_md_burdens, .inl (cI, 448, .inl v4)), (a_md_best, .inl (cI, 7, .inl v6.2.1)), (a_md_own, .inl (cI, 7, .inl v6.2.2))]) (zk_V (As := [.int (0 : Int32)]) (rest := [.int v5.1]) hx hb hml hown hts hK hG hP hD hS hA gX5_worth_X5_mergedBy rfl hd_X5_mergedBy (Nat.le_trans (Nat.le_of_ble_eq_true rfl) hRf) (Nat.le_trans (Nat.le_of_ble_eq_true rfl) hRl) hcs (zc_X5_mergedBy l D tL tO cI cJ cB cQ a_md a_md_text a_md_weight a_md_says a_md_cost a_md_readWeight a_md_readSays a_md_opened a_md_any a_md_all a_md_burdens a_md_best a_md_own a_md_truth (0 : Int32) v_md_length v_md_laws v_md_sayers v_md_there v_md_question v_md_measure v5.2 v_md_readLaws v_md_readSayers v_md_readThere v_md_begin v_md_end v_md_sort v_md_open v_md_level v_md_said v4 f_md_best f_md_own v6 hv6) rfl rfl 0 rfl hl.1 rfl rfl (Nat.le_of_ble_eq_true rfl) dX5_worth_148 [0, 4, 5, 6] rfl rfl) hP hD hS hA [0, 4, 5, 6] [1, 2, 3] [3, 0, 1, 2, 4, 5, 6] rfl rfl rfl (by decide) rfl rfl (fun H locs hP hD hS => ?_)
          obtain ⟨v7, hv7, hf⟩ := zk_ob hf
          refine zk_goR (zk_S (As := [.long v6.1]) (rest := [.int v5.1]) hx hb hml hown hts hK hG hP hD hS hA gX5_worth_X5_many rfl hd_X5_many (Nat.le_trans (Nat.le_of_ble_eq_true rfl) hRf) (Nat.le_trans (Nat.le_of_ble_eq_true rfl) hRl) hcs (zc_X5_many l D tL tO cI cJ cB cQ v6.1 v7 hv7) hl.1 rfl rfl (Nat.le_of_ble_eq_true rfl) dX5_worth_151 [] rfl rfl) hP hD hS hA [] rfl (fun H locs hP hS => ?_)
          refine lv_iadd hx hb dX5_worth_154 ?_
          obtain rfl := Option.some.inj hf
          exact hret trivial _ _ _ _ hP hD hS dX5_worth_155
        · have hf := zk_t c22 hf
          refine lv_aload_n hx hb dX5_worth_50 rfl (lv_at hl 0 rfl) ?_
          refine lv_dup hx hb dX5_worth_51 rfl ?_
          refine va_get (ci := 5) (v := .long v_md_trace) (C := RX5) (T := TX5) (N := 29) hx hb hts inX5 hown hK hP 0 rfl rfl 10 (by decide) lk1 (fun _ h9 => h9) rfl dX5_worth_52 ?_
          refine lv_ldc2 hx hb hown lk4 dX5_worth_55 ?_
          refine lv_ladd hx hb dX5_worth_58 ?_
          obtain ⟨y8, ey8, hf⟩ := zk_lt_s hf
          refine zk_topl ey8 ?_
          refine va_put (ci := 5) (v := .long y8) (ty := .long) (C := RX5) (T := TX5) (N := 29) hx hb hts inX5 tyX5 tyX5_ok nmX5 hown hK hP hD hS 0 rfl rfl 10 (by decide) lk1 (fun _ h9 => h9) rfl (by decide +kernel) rfl rfl (Nat.le_of_ble_eq_true rfl) dX5_worth_59 (fun H locs hP hD hS => ?_)
          have hP : va_P D vwCl [(a_md, .inr (5, [.int v_md_length, .ref a_md_text, .int v_md_laws, .int v_md_sayers, .long v_md_there, .long v_md_question, .ref a_md_weight, .ref a_md_says, .ref a_md_cost, .int v_md_measure, .long y8, .int v_md_readLaws, .int v_md_readSayers, .long v_md_readThere, .ref a_md_readWeight, .ref a_md_readSays, .int v_md_begin, .int v_md_end, .int v_md_sort, .int v_md_open, .ref a_md_opened, .int v_md_level, .ref a_md_any, .ref a_md_all, .long v_md_said, .ref a_md_burdens, .ref a_md_best, .ref a_md_own, .ref a_md_truth])), (a_md_weight, .inl (cI, 7, .inl f_md_weight)), (a_md_says, .inl (cJ, 7, .inr (.inl f_md_says))), (a_md_cost, .inl (cI, 6, .inl f_md_cost)), (a_md_burdens, .inl (cI, 448, .inl f_md_burdens)), (a_md_best, .inl (cI, 7, .inl f_md_best)), (a_md_own, .inl (cI, 7, .inl f_md_own))] H := hP
          have hD : va_D A [(a_md, .inr (5, [.int v_md_length, .ref a_md_text, .int v_md_laws, .int v_md_sayers, .long v_md_there, .long v_md_question, .ref a_md_weight, .ref a_md_says, .ref a_md_cost, .int v_md_measure, .long y8, .int v_md_readLaws, .int v_md_readSayers, .long v_md_readThere, .ref a_md_readWeight, .ref a_md_readSays, .int v_md_begin, .int v_md_end, .int v_md_sort, .int v_md_open, .ref a_md_opened, .int v_md_level, .ref a_md_any, .ref a_md_all, .long v_md_said, .ref a_md_burdens, .ref a_md_best, .ref a_md_own, .ref a_md_truth])), (a_md_weight, .inl (cI, 7, .inl f_md_weight)), (a_md_says, .inl (cJ, 7, .inr (.inl f_md_says))), (a_md_cost, .inl (cI, 6, .inl f_md_cost)), (a_md_burdens, .inl (cI, 448, .inl f_md_burdens)), (a_md_best, .inl (cI, 7, .inl f_md_best)), (a_md_own, .inl (cI, 7, .inl f_md_own))] := hD
          refine lv_lconst (v := (0 : Int64)) hx hb dX5_worth_62 (by decide) ?_
          refine lv_lstore_n (lv' := [(3, .long (0 : Int64)), (0, .ref a_md), (1, .int x0), (2, .int x1)]) hx hb dX5_worth_63 rfl hl (by decide) rfl (fun ls hl => ?_)
          refine lv_iconst (v := (0 : Int32)) hx hb dX5_worth_64 (by decide) ?_
          refine lv_istore (lv' := [(5, .int (0 : Int32)), (3, .long (0 : Int64)), (0, .ref a_md), (1, .int x0), (2, .int x1)]) hx hb dX5_worth_65 hl (by decide) rfl (fun ls hl => ?_)
          have lp67 : ∀ (n : Nat) (w9 : Int64) (w10 : Int32) (z67 : Int64 × Int32) (H : Heap) (locs : List Loc) (ls : Array Slot), zl_X5_worth_67 x1 v_md_sayers f_md_says n w9 w10 = some z67 → va_P D vwCl [(a_md, .inr (5, [.int v_md_length, .ref a_md_text, .int v_md_laws, .int v_md_sayers, .long v_md_there, .long v_md_question, .ref a_md_weight, .ref a_md_says, .ref a_md_cost, .int v_md_measure, .long y8, .int v_md_readLaws, .int v_md_readSayers, .long v_md_readThere, .ref a_md_readWeight, .ref a_md_readSays, .int v_md_begin, .int v_md_end, .int v_md_sort, .int v_md_open, .ref a_md_opened, .int v_md_level, .ref a_md_any, .ref a_md_all, .long v_md_said, .ref a_md_burdens, .ref a_md_best, .ref a_md_own, .ref a_md_truth])), (a_md_weight, .inl (cI, 7, .inl f_md_weight)), (a_md_says, .inl (cJ, 7, .inr (.inl f_md_says))), (a_md_cost, .inl (cI, 6, .inl f_md_cost)), (a_md_burdens, .inl (cI, 448, .inl f_md_burdens)), (a_md_best, .inl (cI, 7, .inl f_md_best)), (a_md_own, .inl (cI, 7, .inl f_md_own))] H → va_D A [(a_md, .inr (5, [.int v_md_length, .ref a_md_text, .int v_md_laws, .int v_md_sayers, .long v_md_there, .long v_md_question, .ref a_md_weight, .ref a_md_says, .ref a_md_cost, .int v_md_measure, .long y8, .int v_md_readLaws, .int v_md_readSayers, .long v_md_readThere, .ref a_md_readWeight, .ref a_md_readSays, .int v_md_begin, .int v_md_end, .int v_md_sort, .int v_md_open, .ref a_md_opened, .int v_md_level, .ref a_md_any, .ref a_md_all, .long v_md_said, .ref a_md_burdens, .ref a_md_best, .ref a_md_own, .ref a_md_truth])), (a_md_weight, .inl (cI, 7, .inl f_md_weight)), (a_md_says, .inl (cJ, 7, .inr (.inl f_md_says))), (a_md_cost, .inl (cI, 6, .inl f_md_cost)), (a_md_burdens, .inl (cI, 448, .inl f_md_burdens)), (a_md_best, .inl (cI, 7, .inl f_md_best)), (a_md_own, .inl (cI, 7, .inl f_md_own))] → va_S A s.heap H locs → lv_has ls 6 [(0, .ref a_md), (1, .int x0), (2, .int x1), (3, .long w9), (5, .int w10)] → (∀ (H : Heap) (locs : List Loc) (ls : Array Slot), va_P D vwCl [(a_md, .inr (5, [.int v_md_length, .ref a_md_text, .int v_md_laws, .int v_md_sayers, .long v_md_there, .long v_md_question, .ref a_md_weight, .ref a_md_says, .ref a_md_cost, .int v_md_measure, .long y8, .int v_md_readLaws, .int v_md_readSayers, .long v_md_readThere, .ref a_md_readWeight, .ref a_md_readSays, .int v_md_begin, .int v_md_end, .int v_md_sort, .int v_md_open, .ref a_md_opened, .int v_md_level, .ref a_md_any, .ref a_md_all, .long v_md_said, .ref a_md_burdens, .ref a_md_best, .ref a_md_own, .ref a_md_truth])), (a_md_weight, .inl (cI, 7, .inl f_md_weight)), (a_md_says, .inl (cJ, 7, .inr (.inl f_md_says))), (a_md_cost, .inl (cI, 6, .inl f_md_cost)), (a_md_burdens, .inl (cI, 448, .inl f_md_burdens)), (a_md_best, .inl (cI, 7, .inl f_md_best)), (a_md_own, .inl (cI, 7, .inl f_md_own))] H → va_D A [(a_md, .inr (5, [.int v_md_length, .ref a_md_text, .int v_md_laws, .int v_md_sayers, .long v_md_there, .long v_md_question, .ref a_md_weight, .ref a_md_says, .ref a_md_cost, .int v_md_measure, .long y8, .int v_md_readLaws, .int v_md_readSayers, .long v_md_readThere, .ref a_md_readWeight, .ref a_md_readSays, .int v_md_begin, .int v_md_end, .int v_md_sort, .int v_md_open, .ref a_md_opened, .int v_md_level, .ref a_md_any, .ref a_md_all, .long v_md_said, .ref a_md_burdens, .ref a_md_best, .ref a_md_own, .ref a_md_truth])), (a_md_weight, .inl (cI, 7, .inl f_md_weight)), (a_md_says, .inl (cJ, 7, .inr (.inl f_md_says))), (a_md_cost, .inl (cI, 6, .inl f_md_cost)), (a_md_burdens, .inl (cI, 448, .inl f_md_burdens)), (a_md_best, .inl (cI, 7, .inl f_md_best)), (a_md_own, .inl (cI, 7, .inl f_md_own))] → va_S A s.heap H locs → lv_has ls 6 [(0, .ref a_md), (1, .int x0), (2, .int x1), (3, .long z67.1), (5, .int z67.2)] → W p l e R s m args below meth c H locs 0 0 Q (F0 m 102 ls [])) → W p l e R s m args below meth c H locs 0 0 Q (F0 m 67 ls []) := by
            intro n
            induction n with
            | zero => intro w9 w10 z67 H locs ls hf; exact absurd (show none = some z67 from hf) (by simp)
            | succ n ih =>
              intro w9 w10 z67 H locs ls hf hP hD hS hl hk
              rw [zl_X5_worth_67] at hf
              refine lv_iload hx hb dX5_worth_67 (lv_at hl 4 rfl) ?_
              refine lv_aload_n hx hb dX5_worth_69 rfl (lv_at hl 0 rfl) ?_
              refine va_get (ci := 5) (v := .int v_md_sayers) (C := RX5) (T := TX5) (N := 29) hx hb hts inX5 hown hK hP 0 rfl rfl 3 (by decide) lk5 (fun _ h9 => h9) rfl dX5_worth_70 ?_
              refine lv_icmp_ge (tgt := 102) hx hb dX5_worth_73 (by decide) (fun c17 => ?_) (fun c17 => ?_)
              · have hf := zk_t c17 hf
                obtain rfl := Option.some.inj hf
                exact hk _ _ _ hP hD hS (lv_sub hl [0, 1, 2, 3, 4] rfl)
              · have hf := zk_f c17 hf
                refine lv_lload_n hx hb dX5_worth_76 rfl (lv_at hl 3 rfl) ?_
                refine lv_iload hx hb dX5_worth_77 (lv_at hl 4 rfl) ?_
                refine lv_iload_n hx hb dX5_worth_79 rfl (lv_at hl 2 rfl) ?_
                refine lv_icmp_ne (tgt := 87) hx hb dX5_worth_80 (by decide) (fun c16 => ?_) (fun c16 => ?_)
                · have hf := zk_f c16 hf
                  refine lv_aload_n hx hb dX5_worth_87 rfl (lv_at hl 0 rfl) ?_
                  refine va_get (ci := 5) (v := .ref a_md_says) (C := RX5) (T := TX5) (N := 29) hx hb hts inX5 hown hK hP 0 rfl rfl 7 (by decide) lk6 (fun _ h9 => h9) rfl dX5_worth_88 ?_
                  refine lv_iload hx hb dX5_worth_91 (lv_at hl 4 rfl) ?_
                  obtain ⟨g11, hf⟩ := zk_gd_s hf
                  refine va_lald hx hb hK hP 2 1 rfl rfl (zk_in_s g11) dX5_worth_93 ?_
                  refine lv_lor hx hb dX5_worth_94 ?_
                  obtain ⟨y12, ey12, hf⟩ := zk_lt_s hf
                  refine zk_topl ey12 ?_
                  refine lv_lstore_n (lv' := [(3, .long y12), (0, .ref a_md), (1, .int x0), (2, .int x1), (5, .int w10)]) hx hb dX5_worth_95 rfl hl (by decide) rfl (fun ls hl => ?_)
                  obtain ⟨y13, ey13, hf⟩ := zk_lt_s hf
                  refine lv_iinc (v := y13) (lv' := [(5, .int y13), (3, .long y12), (0, .ref a_md), (1, .int x0), (2, .int x1)]) hx hb dX5_worth_96 hl (k := 4) rfl (by rw [ey13]; rfl) (by decide) rfl (fun ls hl => ?_)
                  refine lv_goto (tgt := 67) hx hb dX5_worth_99 (by decide) ?_
                  exact ih y12 y13 _ _ _ _ hf hP hD hS (lv_sub hl [2, 3, 4, 1, 0] rfl) hk
                · have hf := zk_t c16 hf
                  refine lv_lconst (v := (0 : Int64)) hx hb dX5_worth_83 (by decide) ?_
                  refine lv_goto (tgt := 94) hx hb dX5_worth_84 (by decide) ?_
                  refine lv_lor hx hb dX5_worth_94 ?_
                  obtain ⟨y14, ey14, hf⟩ := zk_lt_s hf
                  refine zk_topl ey14 ?_
                  refine lv_lstore_n (lv' := [(3, .long y14), (0, .ref a_md), (1, .int x0), (2, .int x1), (5, .int w10)]) hx hb dX5_worth_95 rfl hl (by decide) rfl (fun ls hl => ?_)
                  obtain ⟨y15, ey15, hf⟩ := zk_lt_s hf
                  refine lv_iinc (v := y15) (lv' := [(5, .int y15), (3, .long y14), (0, .ref a_md), (1, .int x0), (2, .int x1)]) hx hb dX5_worth_96 hl (k := 4) rfl (by rw [ey15]; rfl) (by decide) rfl (fun ls hl => ?_)
                  refine lv_goto (tgt := 67) hx hb dX5_worth_99 (by decide) ?_
                  exact ih y14 y15 _ _ _ _ hf hP hD hS (lv_sub hl [2, 3, 4, 1, 0] rfl) hk
          obtain ⟨v18, hv18, hf⟩ := zk_ob hf
          refine lp67 zk_F (0 : Int64) (0 : Int32) v18 _ _ _ hv18 hP hD hS (lv_sub hl [2, 3, 4, 1, 0] rfl) ?_
          intro H locs ls hP hD hS hl
          refine lv_aload_n hx hb dX5_worth_102 rfl (lv_at hl 0 rfl) ?_
          refine lv_iload_n hx hb dX5_worth_103 rfl (lv_at hl 2 rfl) ?_
          obtain ⟨v19, hv19, hf⟩ := zk_ob hf
          refine zk_go (wr := [(a_md_weight, .inl (cI, 7, .inl f_md_weight)), (a_md_cost, .inl (cI, 6, .inl f_md_cost)), (a_md_burdens, .inl (cI, 448, .inl f_md_burdens)), (a_md_best, .inl (cI, 7, .inl f_md_best)), (a_md_own, .inl (cI, 7, .inl f_md_own))]) (w2 := [(a_md, .inr (5, [.int v_md_length, .ref a_md_text, .int v_md_laws, .int v_md_sayers, .long v_md_there, .long v_md_question, .ref a_md_weight, .ref a_md_says, .ref a_md_cost, .int v_md_measure, .long v19.2, .int v_md_readLaws, .int v_md_readSayers, .long v_md_readThere, .ref a_md_readWeight, .ref a_md_readSays, .int v_md_begin, .int v_md_end, .int v_md_sort, .int v_md_open, .ref a_md_opened, .int v_md_level, .ref a_md_any, .ref a_md_all, .long v_md_said, .ref a_md_burdens, .ref a_md_best, .ref a_md_own, .ref a_md_truth])), (a_md_weight, .inl (cI, 7, .inl f_md_weight)), (a_md_says, .inl (cJ, 7, .inr (.inl f_md_says))), (a_md_cost, .inl (cI, 6, .inl f_md_cost)), (a_md_burdens, .inl (cI, 448, .inl f_md_burdens)), (a_md_best, .inl (cI, 7, .inl f_md_best)), (a_md_own, .inl (cI, 7, .inl f_md_own))]) (zk_V (As := [.int x1]) (rest := []) hx hb hml hown hts hK hG hP hD hS hA gX5_worth_X5_plain rfl hd_X5_plain (Nat.le_trans (Nat.le_of_ble_eq_true rfl) hRf) (Nat.le_trans (Nat.le_of_ble_eq_true rfl) hRl) hcs (zc_X5_plain l D tL tO cI cJ cB cQ a_md a_md_text a_md_weight a_md_says a_md_cost a_md_readWeight a_md_readSays a_md_opened a_md_any a_md_all a_md_burdens a_md_best a_md_own a_md_truth x1 v_md_length v_md_laws v_md_sayers v_md_there v_md_question v_md_measure y8 v_md_readLaws v_md_readSayers v_md_readThere v_md_begin v_md_end v_md_sort v_md_open v_md_level v_md_said f_md_says v19 hv19) rfl rfl 0 rfl hl.1 rfl rfl (Nat.le_of_ble_eq_true rfl) dX5_worth_104 [0, 2] rfl rfl) hP hD hS hA [0, 2] [1, 3, 4, 5, 6] [5, 0, 6, 1, 2, 3, 4] rfl rfl rfl (by decide) rfl rfl (fun H locs hP hD hS => ?_)
          refine lv_aload_n hx hb dX5_worth_107 rfl (lv_at hl 0 rfl) ?_
          refine va_get (ci := 5) (v := .long v_md_there) (C := RX5) (T := TX5) (N := 29) hx hb hts inX5 hown hK hP 0 rfl rfl 4 (by decide) lk7 (fun _ h9 => h9) rfl dX5_worth_108 ?_
          refine lv_aload_n hx hb dX5_worth_111 rfl (lv_at hl 0 rfl) ?_
          refine va_get (ci := 5) (v := .ref a_md_says) (C := RX5) (T := TX5) (N := 29) hx hb hts inX5 hown hK hP 0 rfl rfl 7 (by decide) lk6 (fun _ h9 => h9) rfl dX5_worth_112 ?_
          refine lv_iload_n hx hb dX5_worth_115 rfl (lv_at hl 2 rfl) ?_
          obtain ⟨g20, hf⟩ := zk_gd_s hf
          refine va_lald hx hb hK hP 2 1 rfl rfl (zk_in_s g20) dX5_worth_116 ?_
          refine lv_land hx hb dX5_worth_117 ?_
          refine lv_lload_n hx hb dX5_worth_118 rfl (lv_at hl 3 rfl) ?_
          refine lv_land hx hb dX5_worth_119 ?_
          obtain ⟨v21, hv21, hf⟩ := zk_ob hf
          refine zk_goR (zk_S (As := [.long ((v_md_there &&& (f_md_says x1.toNatClampNeg)) &&& v18.1)]) (rest := [.int v19.1]) hx hb hml hown hts hK hG hP hD hS hA gX5_worth_X5_many rfl hd_X5_many (Nat.le_trans (Nat.le_of_ble_eq_true rfl) hRf) (Nat.le_trans (Nat.le_of_ble_eq_true rfl) hRl) hcs (zc_X5_many l D tL tO cI cJ cB cQ ((v_md_there &&& (f_md_says x1.toNatClampNeg)) &&& v18.1) v21 hv21) hl.1 rfl rfl (Nat.le_of_ble_eq_true rfl) dX5_worth_120 [] rfl rfl) hP hD hS hA [] rfl (fun H locs hP hS => ?_)
          refine lv_isub hx hb dX5_worth_123 ?_
          obtain rfl := Option.some.inj hf
          exact hret trivial _ _ _ _ hP hD hS dX5_worth_124
      · have hf := zk_f c26 hf
        refine lv_iload_n hx hb dX5_worth_27 rfl (lv_at hl 1 rfl) ?_
        refine lv_if_ne (tgt := 39) hx hb dX5_worth_28 (by decide) (fun c25 => ?_) (fun c25 => ?_)
        · have hf := zk_f c25 hf
          refine lv_aload_n hx hb dX5_worth_39 rfl (lv_at hl 0 rfl) ?_
          refine lv_iload_n hx hb dX5_worth_40 rfl (lv_at hl 2 rfl) ?_
          obtain ⟨v23, hv23, hf⟩ := zk_ob hf
          refine zk_go (wr := [(a_md_cost, .inl (cI, 6, .inl f_md_cost)), (a_md_burdens, .inl (cI, 448, .inl f_md_burdens)), (a_md_best, .inl (cI, 7, .inl f_md_best)), (a_md_own, .inl (cI, 7, .inl f_md_own))]) (w2 := [(a_md, .inr (5, [.int v_md_length, .ref a_md_text, .int v_md_laws, .int v_md_sayers, .long v_md_there, .long v_md_question, .ref a_md_weight, .ref a_md_says, .ref a_md_cost, .int v_md_measure, .long v23.2, .int v_md_readLaws, .int v_md_readSayers, .long v_md_readThere, .ref a_md_readWeight, .ref a_md_readSays, .int v_md_begin, .int v_md_end, .int v_md_sort, .int v_md_open, .ref a_md_opened, .int v_md_level, .ref a_md_any, .ref a_md_all, .long v_md_said, .ref a_md_burdens, .ref a_md_best, .ref a_md_own, .ref a_md_truth])), (a_md_weight, .inl (cI, 7, .inl f_md_weight)), (a_md_says, .inl (cJ, 7, .inr (.inl f_md_says))), (a_md_cost, .inl (cI, 6, .inl f_md_cost)), (a_md_burdens, .inl (cI, 448, .inl f_md_burdens)), (a_md_best, .inl (cI, 7, .inl f_md_best)), (a_md_own, .inl (cI, 7, .inl f_md_own))]) (zk_V (As := [.int x1]) (rest := []) hx hb hml hown hts hK hG hP hD hS hA gX5_worth_X5_weighty rfl hd_X5_weighty (Nat.le_trans (Nat.le_of_ble_eq_true rfl) hRf) (Nat.le_trans (Nat.le_of_ble_eq_true rfl) hRl) hcs (zc_X5_weighty l D tL tO cI cJ cB cQ a_md a_md_text a_md_weight a_md_says a_md_cost a_md_readWeight a_md_readSays a_md_opened a_md_any a_md_all a_md_burdens a_md_best a_md_own a_md_truth x1 v_md_length v_md_laws v_md_sayers v_md_there v_md_question v_md_measure v_md_trace v_md_readLaws v_md_readSayers v_md_readThere v_md_begin v_md_end v_md_sort v_md_open v_md_level v_md_said f_md_weight f_md_says v23 hv23) rfl rfl 0 rfl hl.1 rfl rfl (Nat.le_of_ble_eq_true rfl) dX5_worth_41 [0, 1, 2] rfl rfl) hP hD hS hA [0, 1, 2] [3, 4, 5, 6] [4, 5, 6, 0, 1, 2, 3] rfl rfl rfl (by decide) rfl rfl (fun H locs hP hD hS => ?_)
          obtain rfl := Option.some.inj hf
          exact hret trivial _ _ _ _ hP hD hS dX5_worth_44
        · have hf := zk_t c25 hf
          refine lv_aload_n hx hb dX5_worth_31 rfl (lv_at hl 0 rfl) ?_
          refine lv_iload_n hx hb dX5_worth_32 rfl (lv_at hl 2 rfl) ?_
          obtain ⟨v24, hv24, hf⟩ := zk_ob hf
          refine zk_go (wr := [(a_md_weight, .inl (cI, 7, .inl f_md_weight)), (a_md_cost, .inl (cI, 6, .inl f_md_cost)), (a_md_burdens, .inl (cI, 448, .inl f_md_burdens)), (a_md_best, .inl (cI, 7, .inl f_md_best)), (a_md_own, .inl (cI, 7, .inl f_md_own))]) (w2 := [(a_md, .inr (5, [.int v_md_length, .ref a_md_text, .int v_md_laws, .int v_md_sayers, .long v_md_there, .long v_md_question, .ref a_md_weight, .ref a_md_says, .ref a_md_cost, .int v_md_measure, .long v24.2, .int v_md_readLaws, .int v_md_readSayers, .long v_md_readThere, .ref a_md_readWeight, .ref a_md_readSays, .int v_md_begin, .int v_md_end, .int v_md_sort, .int v_md_open, .ref a_md_opened, .int v_md_level, .ref a_md_any, .ref a_md_all, .long v_md_said, .ref a_md_burdens, .ref a_md_best, .ref a_md_own, .ref a_md_truth])), (a_md_weight, .inl (cI, 7, .inl f_md_weight)), (a_md_says, .inl (cJ, 7, .inr (.inl f_md_says))), (a_md_cost, .inl (cI, 6, .inl f_md_cost)), (a_md_burdens, .inl (cI, 448, .inl f_md_burdens)), (a_md_best, .inl (cI, 7, .inl f_md_best)), (a_md_own, .inl (cI, 7, .inl f_md_own))]) (zk_V (As := [.int x1]) (rest := []) hx hb hml hown hts hK hG hP hD hS hA gX5_worth_X5_plain rfl hd_X5_plain (Nat.le_trans (Nat.le_of_ble_eq_true rfl) hRf) (Nat.le_trans (Nat.le_of_ble_eq_true rfl) hRl) hcs (zc_X5_plain l D tL tO cI cJ cB cQ a_md a_md_text a_md_weight a_md_says a_md_cost a_md_readWeight a_md_readSays a_md_opened a_md_any a_md_all a_md_burdens a_md_best a_md_own a_md_truth x1 v_md_length v_md_laws v_md_sayers v_md_there v_md_question v_md_measure v_md_trace v_md_readLaws v_md_readSayers v_md_readThere v_md_begin v_md_end v_md_sort v_md_open v_md_level v_md_said f_md_says v24 hv24) rfl rfl 0 rfl hl.1 rfl rfl (Nat.le_of_ble_eq_true rfl) dX5_worth_33 [0, 2] rfl rfl) hP hD hS hA [0, 2] [1, 3, 4, 5, 6] [5, 0, 6, 1, 2, 3, 4] rfl rfl rfl (by decide) rfl rfl (fun H locs hP hD hS => ?_)
          refine lv_goto (tgt := 44) hx hb dX5_worth_36 (by decide) ?_
          obtain rfl := Option.some.inj hf
          exact hret trivial _ _ _ _ hP hD hS dX5_worth_44
    · have hf := zk_t c27 hf
      refine lv_iconst (v := (-1 : Int32)) hx hb dX5_worth_20 (by decide) ?_
      obtain rfl := Option.some.inj hf
      exact hret trivial _ _ _ _ hP hD hS dX5_worth_21
def zl_X5_count_4 (v_md_sayers : Int32) (f_md_weight : Nat → Int32) : Nat → (Int32) → (Int32) → Option (Int32 × Int32)
  | 0, _, _ => none
  | n + 1, w1, w2 =>
    if v_md_sayers ≤ w2 then
    some (w1, w2)
    else
    zk_gd (zk_in w2 7)
    (zk_lt (w1 + (f_md_weight w2.toNatClampNeg)) (fun y4 =>
    zk_lt (w2 + 1) (fun y5 =>
    zl_X5_count_4 v_md_sayers f_md_weight n y4 y5)))
def zf_X5_count (x0 : Int32) (v_md_length : Int32) (v_md_laws : Int32) (v_md_sayers : Int32) (v_md_there : Int64) (f_md_weight : Nat → Int32) : Option (Int32) :=
  (zl_X5_count_4 v_md_sayers f_md_weight zk_F (0 : Int32) (0 : Int32)).bind (fun v7 =>
  if x0 = 0 then
  some v_md_laws
  else
  if x0 = (1 : Int32) then
  some v_md_sayers
  else
  if x0 = (2 : Int32) then
  some v_md_length
  else
  if x0 = (3 : Int32) then
  some v7.1
  else
  if x0 = (4 : Int32) then
  (zf_X5_many v_md_there).bind (fun v8 =>
  some v8)
  else
  some (-1 : Int32))
theorem hd_X5_count : yX5_count.cls = RX5 ∧ yX5_count.cls ≠ "java/lang/invoke/MethodHandle" ∧ yX5_count.cls ≠ "java/lang/invoke/VarHandle" ∧ (parseMethodDescriptor yX5_count.desc).map (fun d => d.parameters.length) = some 1 := by decide +kernel
set_option maxHeartbeats 4000000 in
set_option maxRecDepth 100000 in
theorem zc_X5_count (l : Launch) (D : va_G) (tL tO : Nat) (cI cJ cB cQ : ClassId) (a_md a_md_text a_md_weight a_md_says a_md_cost a_md_readWeight a_md_readSays a_md_opened a_md_any a_md_all a_md_burdens a_md_best a_md_own a_md_truth : Nat) (x0 : Int32) (v_md_length : Int32) (v_md_laws : Int32) (v_md_sayers : Int32) (v_md_there : Int64) (v_md_question : Int64) (v_md_measure : Int32) (v_md_trace : Int64) (v_md_readLaws : Int32) (v_md_readSayers : Int32) (v_md_readThere : Int64) (v_md_begin : Int32) (v_md_end : Int32) (v_md_sort : Int32) (v_md_open : Int32) (v_md_level : Int32) (v_md_said : Int64) (f_md_weight : Nat → Int32) (z : Int32) (hf : zf_X5_count x0 v_md_length v_md_laws v_md_sayers v_md_there f_md_weight = some z) : zk_CT l D tL tO (zk_ty cI cJ cB cQ) yX5_count wsX5_count 2 45 [.ref a_md, .int x0] (some (.int z)) [(a_md, .inr (5, [.int v_md_length, .ref a_md_text, .int v_md_laws, .int v_md_sayers, .long v_md_there, .long v_md_question, .ref a_md_weight, .ref a_md_says, .ref a_md_cost, .int v_md_measure, .long v_md_trace, .int v_md_readLaws, .int v_md_readSayers, .long v_md_readThere, .ref a_md_readWeight, .ref a_md_readSays, .int v_md_begin, .int v_md_end, .int v_md_sort, .int v_md_open, .ref a_md_opened, .int v_md_level, .ref a_md_any, .ref a_md_all, .long v_md_said, .ref a_md_burdens, .ref a_md_best, .ref a_md_own, .ref a_md_truth])), (a_md_weight, .inl (cI, 7, .inl f_md_weight))] [(a_md, .inr (5, [.int v_md_length, .ref a_md_text, .int v_md_laws, .int v_md_sayers, .long v_md_there, .long v_md_question, .ref a_md_weight, .ref a_md_says, .ref a_md_cost, .int v_md_measure, .long v_md_trace, .int v_md_readLaws, .int v_md_readSayers, .long v_md_readThere, .ref a_md_readWeight, .ref a_md_readSays, .int v_md_begin, .int v_md_end, .int v_md_sort, .int v_md_open, .ref a_md_opened, .int v_md_level, .ref a_md_any, .ref a_md_all, .long v_md_said, .ref a_md_burdens, .ref a_md_best, .ref a_md_own, .ref a_md_truth])), (a_md_weight, .inl (cI, 7, .inl f_md_weight))] := by
  refine zk_of_i (cc := cX5_count) (maxL := 4) (by decide) rfl (Nat.le_of_ble_eq_true rfl) ?_
  intro p e R s m args below meth c A Q ls hx hb hml hRf hRl hts hown hP hK hD hA hS hG hl hret
  have hl : lv_has ls 4 [(0, .ref a_md), (1, .int x0)] := hl
  have hown : s.vm.findClass RX5 = some m.cls := hown
  have hcs : 0 ≤ R.cells ∧ 0 ≤ R.slots := ⟨Nat.zero_le _, Nat.zero_le _⟩
  have lk0 := hts (.fieldLink RX5 142 "SayingsMergedModel" "sayers" "I") (by decide +kernel)
  have inX5 : ∀ w ∈ wsX50, w ∈ wsX5_count := by decide +kernel
  have lk2 := hts (.fieldLink RX5 22 "SayingsMergedModel" "weight" "[I") (by decide +kernel)
  have lk3 := hts (.fieldLink RX5 15 "SayingsMergedModel" "there" "J") (by decide +kernel)
  have lk4 := hts (.fieldLink RX5 70 "SayingsMergedModel" "length" "I") (by decide +kernel)
  have lk5 := hts (.fieldLink RX5 139 "SayingsMergedModel" "laws" "I") (by decide +kernel)
  unfold zf_X5_count at hf
  refine lv_iconst (v := (0 : Int32)) hx hb dX5_count_0 (by decide) ?_
  refine lv_istore_n (lv' := [(2, .int (0 : Int32)), (0, .ref a_md), (1, .int x0)]) hx hb dX5_count_1 rfl hl (by decide) rfl (fun ls hl => ?_)
  refine lv_iconst (v := (0 : Int32)) hx hb dX5_count_2 (by decide) ?_
  refine lv_istore_n (lv' := [(3, .int (0 : Int32)), (2, .int (0 : Int32)), (0, .ref a_md), (1, .int x0)]) hx hb dX5_count_3 rfl hl (by decide) rfl (fun ls hl => ?_)
  have lp4 : ∀ (n : Nat) (w1 : Int32) (w2 : Int32) (z4 : Int32 × Int32) (H : Heap) (locs : List Loc) (ls : Array Slot), zl_X5_count_4 v_md_sayers f_md_weight n w1 w2 = some z4 → va_P D vwCl [(a_md, .inr (5, [.int v_md_length, .ref a_md_text, .int v_md_laws, .int v_md_sayers, .long v_md_there, .long v_md_question, .ref a_md_weight, .ref a_md_says, .ref a_md_cost, .int v_md_measure, .long v_md_trace, .int v_md_readLaws, .int v_md_readSayers, .long v_md_readThere, .ref a_md_readWeight, .ref a_md_readSays, .int v_md_begin, .int v_md_end, .int v_md_sort, .int v_md_open, .ref a_md_opened, .int v_md_level, .ref a_md_any, .ref a_md_all, .long v_md_said, .ref a_md_burdens, .ref a_md_best, .ref a_md_own, .ref a_md_truth])), (a_md_weight, .inl (cI, 7, .inl f_md_weight))] H → va_D A [(a_md, .inr (5, [.int v_md_length, .ref a_md_text, .int v_md_laws, .int v_md_sayers, .long v_md_there, .long v_md_question, .ref a_md_weight, .ref a_md_says, .ref a_md_cost, .int v_md_measure, .long v_md_trace, .int v_md_readLaws, .int v_md_readSayers, .long v_md_readThere, .ref a_md_readWeight, .ref a_md_readSays, .int v_md_begin, .int v_md_end, .int v_md_sort, .int v_md_open, .ref a_md_opened, .int v_md_level, .ref a_md_any, .ref a_md_all, .long v_md_said, .ref a_md_burdens, .ref a_md_best, .ref a_md_own, .ref a_md_truth])), (a_md_weight, .inl (cI, 7, .inl f_md_weight))] → va_S A s.heap H locs → lv_has ls 4 [(0, .ref a_md), (1, .int x0), (2, .int w1), (3, .int w2)] → (∀ (H : Heap) (locs : List Loc) (ls : Array Slot), va_P D vwCl [(a_md, .inr (5, [.int v_md_length, .ref a_md_text, .int v_md_laws, .int v_md_sayers, .long v_md_there, .long v_md_question, .ref a_md_weight, .ref a_md_says, .ref a_md_cost, .int v_md_measure, .long v_md_trace, .int v_md_readLaws, .int v_md_readSayers, .long v_md_readThere, .ref a_md_readWeight, .ref a_md_readSays, .int v_md_begin, .int v_md_end, .int v_md_sort, .int v_md_open, .ref a_md_opened, .int v_md_level, .ref a_md_any, .ref a_md_all, .long v_md_said, .ref a_md_burdens, .ref a_md_best, .ref a_md_own, .ref a_md_truth])), (a_md_weight, .inl (cI, 7, .inl f_md_weight))] H → va_D A [(a_md, .inr (5, [.int v_md_length, .ref a_md_text, .int v_md_laws, .int v_md_sayers, .long v_md_there, .long v_md_question, .ref a_md_weight, .ref a_md_says, .ref a_md_cost, .int v_md_measure, .long v_md_trace, .int v_md_readLaws, .int v_md_readSayers, .long v_md_readThere, .ref a_md_readWeight, .ref a_md_readSays, .int v_md_begin, .int v_md_end, .int v_md_sort, .int v_md_open, .ref a_md_opened, .int v_md_level, .ref a_md_any, .ref a_md_all, .long v_md_said, .ref a_md_burdens, .ref a_md_best, .ref a_md_own, .ref a_md_truth])), (a_md_weight, .inl (cI, 7, .inl f_md_weight))] → va_S A s.heap H locs → lv_has ls 4 [(0, .ref a_md), (1, .int x0), (2, .int z4.1), (3, .int z4.2)] → W p l e R s m args below meth c H locs 0 0 Q (F0 m 27 ls [])) → W p l e R s m args below meth c H locs 0 0 Q (F0 m 4 ls []) := by
    intro n
    induction n with
    | zero => intro w1 w2 z4 H locs ls hf; exact absurd (show none = some z4 from hf) (by simp)
    | succ n ih =>
      intro w1 w2 z4 H locs ls hf hP hD hS hl hk
      rw [zl_X5_count_4] at hf
      refine lv_iload_n hx hb dX5_count_4 rfl (lv_at hl 3 rfl) ?_
      refine lv_aload_n hx hb dX5_count_5 rfl (lv_at hl 0 rfl) ?_
      refine va_get (ci := 5) (v := .int v_md_sayers) (C := RX5) (T := TX5) (N := 29) hx hb hts inX5 hown hK hP 0 rfl rfl 3 (by decide) lk0 (fun _ h9 => h9) rfl dX5_count_6 ?_
      refine lv_icmp_ge (tgt := 27) hx hb dX5_count_9 (by decide) (fun c6 => ?_) (fun c6 => ?_)
      · have hf := zk_t c6 hf
        obtain rfl := Option.some.inj hf
        exact hk _ _ _ hP hD hS (lv_sub hl [0, 1, 2, 3] rfl)
      · have hf := zk_f c6 hf
        refine lv_iload_n hx hb dX5_count_12 rfl (lv_at hl 2 rfl) ?_
        refine lv_aload_n hx hb dX5_count_13 rfl (lv_at hl 0 rfl) ?_
        refine va_get (ci := 5) (v := .ref a_md_weight) (C := RX5) (T := TX5) (N := 29) hx hb hts inX5 hown hK hP 0 rfl rfl 6 (by decide) lk2 (fun _ h9 => h9) rfl dX5_count_14 ?_
        refine lv_iload_n hx hb dX5_count_17 rfl (lv_at hl 3 rfl) ?_
        obtain ⟨g3, hf⟩ := zk_gd_s hf
        refine va_iald hx hb hK hP 1 0 rfl rfl (zk_in_s g3) dX5_count_18 ?_
        refine lv_iadd hx hb dX5_count_19 ?_
        obtain ⟨y4, ey4, hf⟩ := zk_lt_s hf
        refine zk_topi ey4 ?_
        refine lv_istore_n (lv' := [(2, .int y4), (0, .ref a_md), (1, .int x0), (3, .int w2)]) hx hb dX5_count_20 rfl hl (by decide) rfl (fun ls hl => ?_)
        obtain ⟨y5, ey5, hf⟩ := zk_lt_s hf
        refine lv_iinc (v := y5) (lv' := [(3, .int y5), (2, .int y4), (0, .ref a_md), (1, .int x0)]) hx hb dX5_count_21 hl (k := 3) rfl (by rw [ey5]; rfl) (by decide) rfl (fun ls hl => ?_)
        refine lv_goto (tgt := 4) hx hb dX5_count_24 (by decide) ?_
        exact ih y4 y5 _ _ _ _ hf hP hD hS (lv_sub hl [2, 3, 1, 0] rfl) hk
  obtain ⟨v7, hv7, hf⟩ := zk_ob hf
  refine lp4 zk_F (0 : Int32) (0 : Int32) v7 _ _ _ hv7 hP hD hS (lv_sub hl [2, 3, 1, 0] rfl) ?_
  intro H locs ls hP hD hS hl
  refine lv_iload_n hx hb dX5_count_27 rfl (lv_at hl 1 rfl) ?_
  refine lv_if_ne (tgt := 38) hx hb dX5_count_28 (by decide) (fun c13 => ?_) (fun c13 => ?_)
  · have hf := zk_f c13 hf
    refine lv_iload_n hx hb dX5_count_38 rfl (lv_at hl 1 rfl) ?_
    refine lv_iconst (v := (1 : Int32)) hx hb dX5_count_39 (by decide) ?_
    refine lv_icmp_ne (tgt := 50) hx hb dX5_count_40 (by decide) (fun c12 => ?_) (fun c12 => ?_)
    · have hf := zk_f c12 hf
      refine lv_iload_n hx hb dX5_count_50 rfl (lv_at hl 1 rfl) ?_
      refine lv_iconst (v := (2 : Int32)) hx hb dX5_count_51 (by decide) ?_
      refine lv_icmp_ne (tgt := 62) hx hb dX5_count_52 (by decide) (fun c11 => ?_) (fun c11 => ?_)
      · have hf := zk_f c11 hf
        refine lv_iload_n hx hb dX5_count_62 rfl (lv_at hl 1 rfl) ?_
        refine lv_iconst (v := (3 : Int32)) hx hb dX5_count_63 (by decide) ?_
        refine lv_icmp_ne (tgt := 71) hx hb dX5_count_64 (by decide) (fun c10 => ?_) (fun c10 => ?_)
        · have hf := zk_f c10 hf
          refine lv_iload_n hx hb dX5_count_71 rfl (lv_at hl 1 rfl) ?_
          refine lv_iconst (v := (4 : Int32)) hx hb dX5_count_72 (by decide) ?_
          refine lv_icmp_ne (tgt := 86) hx hb dX5_count_73 (by decide) (fun c9 => ?_) (fun c9 => ?_)
          · have hf := zk_f c9 hf
            refine lv_iconst (v := (-1 : Int32)) hx hb dX5_count_86 (by decide) ?_
            obtain rfl := Option.some.inj hf
            exact hret trivial _ _ _ _ hP hD hS dX5_count_87
          · have hf := zk_t c9 hf
            refine lv_aload_n hx hb dX5_count_76 rfl (lv_at hl 0 rfl) ?_
            refine va_get (ci := 5) (v := .long v_md_there) (C := RX5) (T := TX5) (N := 29) hx hb hts inX5 hown hK hP 0 rfl rfl 4 (by decide) lk3 (fun _ h9 => h9) rfl dX5_count_77 ?_
            obtain ⟨v8, hv8, hf⟩ := zk_ob hf
            refine zk_goR (zk_S (As := [.long v_md_there]) (rest := []) hx hb hml hown hts hK hG hP hD hS hA gX5_count_X5_many rfl hd_X5_many (Nat.le_trans (Nat.le_of_ble_eq_true rfl) hRf) (Nat.le_trans (Nat.le_of_ble_eq_true rfl) hRl) hcs (zc_X5_many l D tL tO cI cJ cB cQ v_md_there v8 hv8) hl.1 rfl rfl (Nat.le_of_ble_eq_true rfl) dX5_count_80 [] rfl rfl) hP hD hS hA [] rfl (fun H locs hP hS => ?_)
            refine lv_goto (tgt := 87) hx hb dX5_count_83 (by decide) ?_
            obtain rfl := Option.some.inj hf
            exact hret trivial _ _ _ _ hP hD hS dX5_count_87
        · have hf := zk_t c10 hf
          refine lv_iload_n hx hb dX5_count_67 rfl (lv_at hl 2 rfl) ?_
          refine lv_goto (tgt := 87) hx hb dX5_count_68 (by decide) ?_
          obtain rfl := Option.some.inj hf
          exact hret trivial _ _ _ _ hP hD hS dX5_count_87
      · have hf := zk_t c11 hf
        refine lv_aload_n hx hb dX5_count_55 rfl (lv_at hl 0 rfl) ?_
        refine va_get (ci := 5) (v := .int v_md_length) (C := RX5) (T := TX5) (N := 29) hx hb hts inX5 hown hK hP 0 rfl rfl 0 (by decide) lk4 (fun _ h9 => h9) rfl dX5_count_56 ?_
        refine lv_goto (tgt := 87) hx hb dX5_count_59 (by decide) ?_
        obtain rfl := Option.some.inj hf
        exact hret trivial _ _ _ _ hP hD hS dX5_count_87
    · have hf := zk_t c12 hf
      refine lv_aload_n hx hb dX5_count_43 rfl (lv_at hl 0 rfl) ?_
      refine va_get (ci := 5) (v := .int v_md_sayers) (C := RX5) (T := TX5) (N := 29) hx hb hts inX5 hown hK hP 0 rfl rfl 3 (by decide) lk0 (fun _ h9 => h9) rfl dX5_count_44 ?_
      refine lv_goto (tgt := 87) hx hb dX5_count_47 (by decide) ?_
      obtain rfl := Option.some.inj hf
      exact hret trivial _ _ _ _ hP hD hS dX5_count_87
  · have hf := zk_t c13 hf
    refine lv_aload_n hx hb dX5_count_31 rfl (lv_at hl 0 rfl) ?_
    refine va_get (ci := 5) (v := .int v_md_laws) (C := RX5) (T := TX5) (N := 29) hx hb hts inX5 hown hK hP 0 rfl rfl 2 (by decide) lk5 (fun _ h9 => h9) rfl dX5_count_32 ?_
    refine lv_goto (tgt := 87) hx hb dX5_count_35 (by decide) ?_
    obtain rfl := Option.some.inj hf
    exact hret trivial _ _ _ _ hP hD hS dX5_count_87
def zf_X5_trace (v_md_trace : Int64) : Option (Int64) :=
  some v_md_trace
theorem hd_X5_trace : yX5_trace.cls = RX5 ∧ yX5_trace.cls ≠ "java/lang/invoke/MethodHandle" ∧ yX5_trace.cls ≠ "java/lang/invoke/VarHandle" ∧ (parseMethodDescriptor yX5_trace.desc).map (fun d => d.parameters.length) = some 0 := by decide +kernel
set_option maxHeartbeats 4000000 in
set_option maxRecDepth 100000 in
theorem zc_X5_trace (l : Launch) (D : va_G) (tL tO : Nat) (cI cJ cB cQ : ClassId) (a_md a_md_text a_md_weight a_md_says a_md_cost a_md_readWeight a_md_readSays a_md_opened a_md_any a_md_all a_md_burdens a_md_best a_md_own a_md_truth : Nat) (v_md_length : Int32) (v_md_laws : Int32) (v_md_sayers : Int32) (v_md_there : Int64) (v_md_question : Int64) (v_md_measure : Int32) (v_md_trace : Int64) (v_md_readLaws : Int32) (v_md_readSayers : Int32) (v_md_readThere : Int64) (v_md_begin : Int32) (v_md_end : Int32) (v_md_sort : Int32) (v_md_open : Int32) (v_md_level : Int32) (v_md_said : Int64) (z : Int64) (hf : zf_X5_trace v_md_trace = some z) : zk_CT l D tL tO (zk_ty cI cJ cB cQ) yX5_trace wsX5_trace 0 0 [.ref a_md] (some (.long z)) [(a_md, .inr (5, [.int v_md_length, .ref a_md_text, .int v_md_laws, .int v_md_sayers, .long v_md_there, .long v_md_question, .ref a_md_weight, .ref a_md_says, .ref a_md_cost, .int v_md_measure, .long v_md_trace, .int v_md_readLaws, .int v_md_readSayers, .long v_md_readThere, .ref a_md_readWeight, .ref a_md_readSays, .int v_md_begin, .int v_md_end, .int v_md_sort, .int v_md_open, .ref a_md_opened, .int v_md_level, .ref a_md_any, .ref a_md_all, .long v_md_said, .ref a_md_burdens, .ref a_md_best, .ref a_md_own, .ref a_md_truth]))] [(a_md, .inr (5, [.int v_md_length, .ref a_md_text, .int v_md_laws, .int v_md_sayers, .long v_md_there, .long v_md_question, .ref a_md_weight, .ref a_md_says, .ref a_md_cost, .int v_md_measure, .long v_md_trace, .int v_md_readLaws, .int v_md_readSayers, .long v_md_readThere, .ref a_md_readWeight, .ref a_md_readSays, .int v_md_begin, .int v_md_end, .int v_md_sort, .int v_md_open, .ref a_md_opened, .int v_md_level, .ref a_md_any, .ref a_md_all, .long v_md_said, .ref a_md_burdens, .ref a_md_best, .ref a_md_own, .ref a_md_truth]))] := by
  refine zk_of_l (cc := cX5_trace) (maxL := 1) (by decide) rfl (Nat.le_of_ble_eq_true rfl) ?_
  intro p e R s m args below meth c A Q ls hx hb hml hRf hRl hts hown hP hK hD hA hS hG hl hret
  have hl : lv_has ls 1 [(0, .ref a_md)] := hl
  have hown : s.vm.findClass RX5 = some m.cls := hown
  have hcs : 0 ≤ R.cells ∧ 0 ≤ R.slots := ⟨Nat.zero_le _, Nat.zero_le _⟩
  have lk0 := hts (.fieldLink RX5 222 "SayingsMergedModel" "trace" "J") (by decide +kernel)
  have inX5 : ∀ w ∈ wsX50, w ∈ wsX5_trace := by decide +kernel
  unfold zf_X5_trace at hf
  refine lv_aload_n hx hb dX5_trace_0 rfl (lv_at hl 0 rfl) ?_
  refine va_get (ci := 5) (v := .long v_md_trace) (C := RX5) (T := TX5) (N := 29) hx hb hts inX5 hown hK hP 0 rfl rfl 10 (by decide) lk0 (fun _ h9 => h9) rfl dX5_trace_1 ?_
  obtain rfl := Option.some.inj hf
  exact hret trivial _ _ _ _ hP hD hS dX5_trace_4
