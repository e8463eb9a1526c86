def zl_X5_nearest_9 (x0 : Int64) (x1 : Int64) (v_md_measure : Int32) (f_md_cost : Nat → Int32) : Nat → (Int64) → (Int32) → (Int32) → Option (Int64 × Int32 × Int32)
  | 0, _, _, _ => none
  | n + 1, w1, w2, w3 =>
    if (64 : Int32) ≤ w3 then
    some (w1, w2, w3)
    else
    (zf_X5_has x0 w3).bind (fun v4 =>
    if v4 = 0 then
    zk_lt (w3 + 1) (fun y14 =>
    zl_X5_nearest_9 x0 x1 v_md_measure f_md_cost n w1 w2 y14)
    else
    (zf_X5_farOf w3 x1 v_md_measure f_md_cost).bind (fun v5 =>
    (if (lg_cmp w1 (0 : Int64)) = 0 then
    some ((0 : Int64), v5)
    else
    if w2 ≤ v5 then
    some (w1, w2)
    else
    some ((0 : Int64), v5)).bind (fun v6 =>
    if v5 = v6.2 then
    zk_lt (v6.1 ||| ((1 : Int64) <<< (w3.toInt64 &&& 63))) (fun y9 =>
    zk_lt (w3 + 1) (fun y10 =>
    zl_X5_nearest_9 x0 x1 v_md_measure f_md_cost n y9 v6.2 y10))
    else
    zk_lt (v6.1 ||| (0 : Int64)) (fun y7 =>
    zk_lt (w3 + 1) (fun y8 =>
    zl_X5_nearest_9 x0 x1 v_md_measure f_md_cost n y7 v6.2 y8)))))
def zf_X5_nearest (x0 : Int64) (x1 : Int64) (v_md_measure : Int32) (f_md_cost : Nat → Int32) : Option (Int64) :=
  (zl_X5_nearest_9 x0 x1 v_md_measure f_md_cost zk_F (0 : Int64) (0 : Int32) (0 : Int32)).bind (fun v17 =>
  some v17.1)
theorem hd_X5_nearest : yX5_nearest.cls = RX5 ∧ yX5_nearest.cls ≠ "java/lang/invoke/MethodHandle" ∧ yX5_nearest.cls ≠ "java/lang/invoke/VarHandle" ∧ (parseMethodDescriptor yX5_nearest.desc).map (fun d => d.parameters.length) = some 2 := by decide +kernel
set_option maxHeartbeats 4000000 in
set_option maxRecDepth 100000 in
theorem zc_X5_nearest (l : Launch) (D : va_G) (tL tO : Nat) (cI cJ cB cQ : ClassId) (a_md a_md_text a_md_weight a_md_says a_md_cost a_md_readWeight a_md_readSays a_md_opened a_md_any a_md_all a_md_burdens a_md_best a_md_own a_md_truth : Nat) (x0 : Int64) (x1 : Int64) (v_md_length : Int32) (v_md_laws : Int32) (v_md_sayers : Int32) (v_md_there : Int64) (v_md_question : Int64) (v_md_measure : Int32) (v_md_trace : Int64) (v_md_readLaws : Int32) (v_md_readSayers : Int32) (v_md_readThere : Int64) (v_md_begin : Int32) (v_md_end : Int32) (v_md_sort : Int32) (v_md_open : Int32) (v_md_level : Int32) (v_md_said : Int64) (f_md_cost : Nat → Int32) (z : Int64) (hf : zf_X5_nearest x0 x1 v_md_measure f_md_cost = some z) : zk_CT l D tL tO (zk_ty cI cJ cB cQ) yX5_nearest wsX5_nearest 3 71 [.ref a_md, .long x0, .long x1] (some (.long z)) [(a_md, .inr (5, [.int v_md_length, .ref a_md_text, .int v_md_laws, .int v_md_sayers, .long v_md_there, .long v_md_question, .ref a_md_weight, .ref a_md_says, .ref a_md_cost, .int v_md_measure, .long v_md_trace, .int v_md_readLaws, .int v_md_readSayers, .long v_md_readThere, .ref a_md_readWeight, .ref a_md_readSays, .int v_md_begin, .int v_md_end, .int v_md_sort, .int v_md_open, .ref a_md_opened, .int v_md_level, .ref a_md_any, .ref a_md_all, .long v_md_said, .ref a_md_burdens, .ref a_md_best, .ref a_md_own, .ref a_md_truth])), (a_md_cost, .inl (cI, 6, .inl f_md_cost))] [(a_md, .inr (5, [.int v_md_length, .ref a_md_text, .int v_md_laws, .int v_md_sayers, .long v_md_there, .long v_md_question, .ref a_md_weight, .ref a_md_says, .ref a_md_cost, .int v_md_measure, .long v_md_trace, .int v_md_readLaws, .int v_md_readSayers, .long v_md_readThere, .ref a_md_readWeight, .ref a_md_readSays, .int v_md_begin, .int v_md_end, .int v_md_sort, .int v_md_open, .ref a_md_opened, .int v_md_level, .ref a_md_any, .ref a_md_all, .long v_md_said, .ref a_md_burdens, .ref a_md_best, .ref a_md_own, .ref a_md_truth])), (a_md_cost, .inl (cI, 6, .inl f_md_cost))] := by
  refine zk_of_l (cc := cX5_nearest) (maxL := 10) (by decide) rfl (Nat.le_of_ble_eq_true rfl) ?_
  intro p e R s m args below meth c A Q ls hx hb hml hRf hRl hts hown hP hK hD hA hS hG hl hret
  have hl : lv_has ls 10 [(0, .ref a_md), (1, .long x0), (3, .long x1)] := hl
  have hown : s.vm.findClass RX5 = some m.cls := hown
  have hcs : 0 ≤ R.cells ∧ 0 ≤ R.slots := ⟨Nat.zero_le _, Nat.zero_le _⟩
  unfold zf_X5_nearest at hf
  refine lv_lconst (v := (0 : Int64)) hx hb dX5_nearest_0 (by decide) ?_
  refine lv_lstore (lv' := [(5, .long (0 : Int64)), (0, .ref a_md), (1, .long x0), (3, .long x1)]) hx hb dX5_nearest_1 hl (by decide) rfl (fun ls hl => ?_)
  refine lv_iconst (v := (0 : Int32)) hx hb dX5_nearest_3 (by decide) ?_
  refine lv_istore (lv' := [(7, .int (0 : Int32)), (5, .long (0 : Int64)), (0, .ref a_md), (1, .long x0), (3, .long x1)]) hx hb dX5_nearest_4 hl (by decide) rfl (fun ls hl => ?_)
  refine lv_iconst (v := (0 : Int32)) hx hb dX5_nearest_6 (by decide) ?_
  refine lv_istore (lv' := [(8, .int (0 : Int32)), (7, .int (0 : Int32)), (5, .long (0 : Int64)), (0, .ref a_md), (1, .long x0), (3, .long x1)]) hx hb dX5_nearest_7 hl (by decide) rfl (fun ls hl => ?_)
  have lp9 : ∀ (n : Nat) (w1 : Int64) (w2 : Int32) (w3 : Int32) (z9 : Int64 × Int32 × Int32) (H : Heap) (locs : List Loc) (ls : Array Slot), zl_X5_nearest_9 x0 x1 v_md_measure f_md_cost n w1 w2 w3 = some z9 → va_P D vwCl [(a_md, .inr (5, [.int v_md_length, .ref a_md_text, .int v_md_laws, .int v_md_sayers, .long v_md_there, .long v_md_question, .ref a_md_weight, .ref a_md_says, .ref a_md_cost, .int v_md_measure, .long v_md_trace, .int v_md_readLaws, .int v_md_readSayers, .long v_md_readThere, .ref a_md_readWeight, .ref a_md_readSays, .int v_md_begin, .int v_md_end, .int v_md_sort, .int v_md_open, .ref a_md_opened, .int v_md_level, .ref a_md_any, .ref a_md_all, .long v_md_said, .ref a_md_burdens, .ref a_md_best, .ref a_md_own, .ref a_md_truth])), (a_md_cost, .inl (cI, 6, .inl f_md_cost))] H → va_D A [(a_md, .inr (5, [.int v_md_length, .ref a_md_text, .int v_md_laws, .int v_md_sayers, .long v_md_there, .long v_md_question, .ref a_md_weight, .ref a_md_says, .ref a_md_cost, .int v_md_measure, .long v_md_trace, .int v_md_readLaws, .int v_md_readSayers, .long v_md_readThere, .ref a_md_readWeight, .ref a_md_readSays, .int v_md_begin, .int v_md_end, .int v_md_sort, .int v_md_open, .ref a_md_opened, .int v_md_level, .ref a_md_any, .ref a_md_all, .long v_md_said, .ref a_md_burdens, .ref a_md_best, .ref a_md_own, .ref a_md_truth])), (a_md_cost, .inl (cI, 6, .inl f_md_cost))] → va_S A s.heap H locs → lv_has ls 10 [(0, .ref a_md), (1, .long x0), (3, .long x1), (5, .long w1), (7, .int w2), (8, .int w3)] → (∀ (H : Heap) (locs : List Loc) (ls : Array Slot), va_P D vwCl [(a_md, .inr (5, [.int v_md_length, .ref a_md_text, .int v_md_laws, .int v_md_sayers, .long v_md_there, .long v_md_question, .ref a_md_weight, .ref a_md_says, .ref a_md_cost, .int v_md_measure, .long v_md_trace, .int v_md_readLaws, .int v_md_readSayers, .long v_md_readThere, .ref a_md_readWeight, .ref a_md_readSays, .int v_md_begin, .int v_md_end, .int v_md_sort, .int v_md_open, .ref a_md_opened, .int v_md_level, .ref a_md_any, .ref a_md_all, .long v_md_said, .ref a_md_burdens, .ref a_md_best, .ref a_md_own, .ref a_md_truth])), (a_md_cost, .inl (cI, 6, .inl f_md_cost))] H → va_D A [(a_md, .inr (5, [.int v_md_length, .ref a_md_text, .int v_md_laws, .int v_md_sayers, .long v_md_there, .long v_md_question, .ref a_md_weight, .ref a_md_says, .ref a_md_cost, .int v_md_measure, .long v_md_trace, .int v_md_readLaws, .int v_md_readSayers, .long v_md_readThere, .ref a_md_readWeight, .ref a_md_readSays, .int v_md_begin, .int v_md_end, .int v_md_sort, .int v_md_open, .ref a_md_opened, .int v_md_level, .ref a_md_any, .ref a_md_all, .long v_md_said, .ref a_md_burdens, .ref a_md_best, .ref a_md_own, .ref a_md_truth])), (a_md_cost, .inl (cI, 6, .inl f_md_cost))] → va_S A s.heap H locs → lv_has ls 10 [(0, .ref a_md), (1, .long x0), (3, .long x1), (5, .long z9.1), (7, .int z9.2.1), (8, .int z9.2.2)] → W p l e R s m args below meth c H locs 0 0 Q (F0 m 84 ls [])) → W p l e R s m args below meth c H locs 0 0 Q (F0 m 9 ls []) := by
    intro n
    induction n with
    | zero => intro w1 w2 w3 z9 H locs ls hf; exact absurd (show none = some z9 from hf) (by simp)
    | succ n ih =>
      intro w1 w2 w3 z9 H locs ls hf hP hD hS hl hk
      rw [zl_X5_nearest_9] at hf
      refine lv_iload hx hb dX5_nearest_9 (lv_at hl 5 rfl) ?_
      refine lv_bipush (v := (64 : Int32)) hx hb dX5_nearest_11 (by decide) ?_
      refine lv_icmp_ge (tgt := 84) hx hb dX5_nearest_13 (by decide) (fun c16 => ?_) (fun c16 => ?_)
      · have hf := zk_t c16 hf
        obtain rfl := Option.some.inj hf
        exact hk _ _ _ hP hD hS (lv_sub hl [0, 1, 2, 3, 4, 5] rfl)
      · have hf := zk_f c16 hf
        refine lv_lload_n hx hb dX5_nearest_16 rfl (lv_at hl 1 rfl) ?_
        refine lv_iload hx hb dX5_nearest_17 (lv_at hl 5 rfl) ?_
        obtain ⟨v4, hv4, hf⟩ := zk_ob hf
        refine zk_goR (zk_S (As := [.long x0, .int w3]) (rest := []) hx hb hml hown hts hK hG hP hD hS hA gX5_nearest_X5_has rfl hd_X5_has (Nat.le_trans (Nat.le_of_ble_eq_true rfl) hRf) (Nat.le_trans (Nat.le_of_ble_eq_true rfl) hRl) hcs (zc_X5_has l D tL tO cI cJ cB cQ x0 w3 v4 hv4) hl.1 rfl rfl (Nat.le_of_ble_eq_true rfl) dX5_nearest_19 [] rfl rfl) hP hD hS hA [] rfl (fun H locs hP hS => ?_)
        refine lv_if_ne (tgt := 28) hx hb dX5_nearest_22 (by decide) (fun c15 => ?_) (fun c15 => ?_)
        · have hf := zk_f c15 hf
          refine lv_aload_n hx hb dX5_nearest_28 rfl (lv_at hl 0 rfl) ?_
          refine lv_iload hx hb dX5_nearest_29 (lv_at hl 5 rfl) ?_
          refine lv_lload_n hx hb dX5_nearest_31 rfl (lv_at hl 2 rfl) ?_
          obtain ⟨v5, hv5, hf⟩ := zk_ob hf
          refine zk_goR (zk_V (As := [.int w3, .long x1]) (rest := []) hx hb hml hown hts hK hG hP hD hS hA gX5_nearest_X5_farOf rfl hd_X5_farOf (Nat.le_trans (Nat.le_of_ble_eq_true rfl) hRf) (Nat.le_trans (Nat.le_of_ble_eq_true rfl) hRl) hcs (zc_X5_farOf l D tL tO cI cJ cB cQ a_md a_md_text a_md_weight a_md_says a_md_cost a_md_readWeight a_md_readSays a_md_opened a_md_any a_md_all a_md_burdens a_md_best a_md_own a_md_truth w3 x1 v_md_length v_md_laws v_md_sayers v_md_there v_md_question v_md_measure v_md_trace v_md_readLaws v_md_readSayers v_md_readThere v_md_begin v_md_end v_md_sort v_md_open v_md_level v_md_said f_md_cost v5 hv5) rfl rfl 0 rfl hl.1 rfl rfl (Nat.le_of_ble_eq_true rfl) dX5_nearest_32 [0, 1] rfl rfl) hP hD hS hA [0, 1] rfl (fun H locs hP hS => ?_)
          refine lv_istore (lv' := [(9, .int v5), (0, .ref a_md), (1, .long x0), (3, .long x1), (5, .long w1), (7, .int w2), (8, .int w3)]) hx hb dX5_nearest_35 hl (by decide) rfl (fun ls hl => ?_)
          refine lv_lload hx hb dX5_nearest_37 (lv_at hl 4 rfl) ?_
          refine lv_lconst (v := (0 : Int64)) hx hb dX5_nearest_39 (by decide) ?_
          refine W.lcmp hx hb dX5_nearest_40 ?_
          obtain ⟨v6, hv6, hf⟩ := zk_ob hf
          have kv6 : ∀ (H : Heap) (locs : List Loc) (ls : Array Slot), va_P D vwCl [(a_md, .inr (5, [.int v_md_length, .ref a_md_text, .int v_md_laws, .int v_md_sayers, .long v_md_there, .long v_md_question, .ref a_md_weight, .ref a_md_says, .ref a_md_cost, .int v_md_measure, .long v_md_trace, .int v_md_readLaws, .int v_md_readSayers, .long v_md_readThere, .ref a_md_readWeight, .ref a_md_readSays, .int v_md_begin, .int v_md_end, .int v_md_sort, .int v_md_open, .ref a_md_opened, .int v_md_level, .ref a_md_any, .ref a_md_all, .long v_md_said, .ref a_md_burdens, .ref a_md_best, .ref a_md_own, .ref a_md_truth])), (a_md_cost, .inl (cI, 6, .inl f_md_cost))] H → va_D A [(a_md, .inr (5, [.int v_md_length, .ref a_md_text, .int v_md_laws, .int v_md_sayers, .long v_md_there, .long v_md_question, .ref a_md_weight, .ref a_md_says, .ref a_md_cost, .int v_md_measure, .long v_md_trace, .int v_md_readLaws, .int v_md_readSayers, .long v_md_readThere, .ref a_md_readWeight, .ref a_md_readSays, .int v_md_begin, .int v_md_end, .int v_md_sort, .int v_md_open, .ref a_md_opened, .int v_md_level, .ref a_md_any, .ref a_md_all, .long v_md_said, .ref a_md_burdens, .ref a_md_best, .ref a_md_own, .ref a_md_truth])), (a_md_cost, .inl (cI, 6, .inl f_md_cost))] → va_S A s.heap H locs → lv_has ls 10 [(0, .ref a_md), (1, .long x0), (3, .long x1), (5, .long v6.1), (7, .int v6.2), (8, .int w3), (9, .int v5)] → W p l e R s m args below meth c H locs 0 0 Q (F0 m 58 ls []) := by
            intro H locs ls hP hD hS hl
            refine lv_lload hx hb dX5_nearest_58 (lv_at hl 3 rfl) ?_
            refine lv_iload hx hb dX5_nearest_60 (lv_at hl 6 rfl) ?_
            refine lv_iload hx hb dX5_nearest_62 (lv_at hl 4 rfl) ?_
            refine lv_icmp_ne (tgt := 74) hx hb dX5_nearest_64 (by decide) (fun c11 => ?_) (fun c11 => ?_)
            · have hf := zk_f c11 hf
              refine lv_lconst (v := (0 : Int64)) hx hb dX5_nearest_74 (by decide) ?_
              refine lv_lor hx hb dX5_nearest_75 ?_
              obtain ⟨y7, ey7, hf⟩ := zk_lt_s hf
              refine zk_topl ey7 ?_
              refine lv_lstore (lv' := [(5, .long y7), (0, .ref a_md), (1, .long x0), (3, .long x1), (7, .int v6.2), (8, .int w3), (9, .int v5)]) hx hb dX5_nearest_76 hl (by decide) rfl (fun ls hl => ?_)
              obtain ⟨y8, ey8, hf⟩ := zk_lt_s hf
              refine lv_iinc (v := y8) (lv' := [(8, .int y8), (5, .long y7), (0, .ref a_md), (1, .long x0), (3, .long x1), (7, .int v6.2), (9, .int v5)]) hx hb dX5_nearest_78 hl (k := 5) rfl (by rw [ey8]; rfl) (by decide) rfl (fun ls hl => ?_)
              refine lv_goto (tgt := 9) hx hb dX5_nearest_81 (by decide) ?_
              exact ih y7 v6.2 y8 _ _ _ _ hf hP hD hS (lv_sub hl [2, 3, 4, 1, 5, 0] rfl) hk
            · have hf := zk_t c11 hf
              refine lv_lconst (v := (1 : Int64)) hx hb dX5_nearest_67 (by decide) ?_
              refine lv_iload hx hb dX5_nearest_68 (lv_at hl 5 rfl) ?_
              refine lv_lshl hx hb dX5_nearest_70 rfl ?_
              refine lv_goto (tgt := 75) hx hb dX5_nearest_71 (by decide) ?_
              refine lv_lor hx hb dX5_nearest_75 ?_
              obtain ⟨y9, ey9, hf⟩ := zk_lt_s hf
              refine zk_topl ey9 ?_
              refine lv_lstore (lv' := [(5, .long y9), (0, .ref a_md), (1, .long x0), (3, .long x1), (7, .int v6.2), (8, .int w3), (9, .int v5)]) hx hb dX5_nearest_76 hl (by decide) rfl (fun ls hl => ?_)
              obtain ⟨y10, ey10, hf⟩ := zk_lt_s hf
              refine lv_iinc (v := y10) (lv' := [(8, .int y10), (5, .long y9), (0, .ref a_md), (1, .long x0), (3, .long x1), (7, .int v6.2), (9, .int v5)]) hx hb dX5_nearest_78 hl (k := 5) rfl (by rw [ey10]; rfl) (by decide) rfl (fun ls hl => ?_)
              refine lv_goto (tgt := 9) hx hb dX5_nearest_81 (by decide) ?_
              exact ih y9 v6.2 y10 _ _ _ _ hf hP hD hS (lv_sub hl [2, 3, 4, 1, 5, 0] rfl) hk
          replace hf := hv6
          refine lv_if_eq (tgt := 51) hx hb dX5_nearest_41 (by decide) (fun c13 => ?_) (fun c13 => ?_)
          · have hf := zk_t c13 hf
            refine lv_lconst (v := (0 : Int64)) hx hb dX5_nearest_51 (by decide) ?_
            refine lv_lstore (lv' := [(5, .long (0 : Int64)), (9, .int v5), (0, .ref a_md), (1, .long x0), (3, .long x1), (7, .int w2), (8, .int w3)]) hx hb dX5_nearest_52 hl (by decide) rfl (fun ls hl => ?_)
            refine lv_iload hx hb dX5_nearest_54 (lv_at hl 1 rfl) ?_
            refine lv_istore (lv' := [(7, .int v5), (5, .long (0 : Int64)), (9, .int v5), (0, .ref a_md), (1, .long x0), (3, .long x1), (8, .int w3)]) hx hb dX5_nearest_56 hl (by decide) rfl (fun ls hl => ?_)
            obtain rfl := Option.some.inj hf
            exact kv6 _ _ _ hP hD hS (lv_sub hl [3, 4, 5, 1, 0, 6, 2] rfl)
          · have hf := zk_f c13 hf
            refine lv_iload hx hb dX5_nearest_44 (lv_at hl 0 rfl) ?_
            refine lv_iload hx hb dX5_nearest_46 (lv_at hl 5 rfl) ?_
            refine lv_icmp_ge (tgt := 58) hx hb dX5_nearest_48 (by decide) (fun c12 => ?_) (fun c12 => ?_)
            · have hf := zk_t c12 hf
              obtain rfl := Option.some.inj hf
              exact kv6 _ _ _ hP hD hS (lv_sub hl [1, 2, 3, 4, 5, 6, 0] rfl)
            · have hf := zk_f c12 hf
              refine lv_lconst (v := (0 : Int64)) hx hb dX5_nearest_51 (by decide) ?_
              refine lv_lstore (lv' := [(5, .long (0 : Int64)), (9, .int v5), (0, .ref a_md), (1, .long x0), (3, .long x1), (7, .int w2), (8, .int w3)]) hx hb dX5_nearest_52 hl (by decide) rfl (fun ls hl => ?_)
              refine lv_iload hx hb dX5_nearest_54 (lv_at hl 1 rfl) ?_
              refine lv_istore (lv' := [(7, .int v5), (5, .long (0 : Int64)), (9, .int v5), (0, .ref a_md), (1, .long x0), (3, .long x1), (8, .int w3)]) hx hb dX5_nearest_56 hl (by decide) rfl (fun ls hl => ?_)
              obtain rfl := Option.some.inj hf
              exact kv6 _ _ _ hP hD hS (lv_sub hl [3, 4, 5, 1, 0, 6, 2] rfl)
        · have hf := zk_t c15 hf
          refine lv_goto (tgt := 78) hx hb dX5_nearest_25 (by decide) ?_
          obtain ⟨y14, ey14, hf⟩ := zk_lt_s hf
          refine lv_iinc (v := y14) (lv' := [(8, .int y14), (0, .ref a_md), (1, .long x0), (3, .long x1), (5, .long w1), (7, .int w2)]) hx hb dX5_nearest_78 hl (k := 5) rfl (by rw [ey14]; rfl) (by decide) rfl (fun ls hl => ?_)
          refine lv_goto (tgt := 9) hx hb dX5_nearest_81 (by decide) ?_
          exact ih w1 w2 y14 _ _ _ _ hf hP hD hS (lv_sub hl [1, 2, 3, 4, 5, 0] rfl) hk
  obtain ⟨v17, hv17, hf⟩ := zk_ob hf
  refine lp9 zk_F (0 : Int64) (0 : Int32) (0 : Int32) v17 _ _ _ hv17 hP hD hS (lv_sub hl [3, 4, 5, 2, 1, 0] rfl) ?_
  intro H locs ls hP hD hS hl
  refine lv_lload hx hb dX5_nearest_84 (lv_at hl 3 rfl) ?_
  obtain rfl := Option.some.inj hf
  exact hret trivial _ _ _ _ hP hD hS dX5_nearest_86
def zl_X5_changed_92 (x0 : Int32) (v_md_there : Int64) (v_md_question : Int64) (v_md_measure : Int32) (f_md_says : Nat → Int64) (f_md_cost : Nat → Int32) : Nat → (Int64) → (Int32) → Option (Int64 × Int32)
  | 0, _, _ => none
  | n + 1, w3, w4 =>
    if (64 : Int32) ≤ w4 then
    some (w3, w4)
    else
    zk_gd (zk_in x0 7)
    ((zf_X5_has (f_md_says x0.toNatClampNeg) w4).bind (fun v6 =>
    if v6 = 0 then
    zk_lt (w3 ||| (0 : Int64)) (fun y7 =>
    zk_lt (w4 + 1) (fun y8 =>
    zl_X5_changed_92 x0 v_md_there v_md_question v_md_measure f_md_says f_md_cost n y7 y8))
    else
    (zf_X5_nearest (v_md_there &&& v_md_question) ((1 : Int64) <<< (w4.toInt64 &&& 63)) v_md_measure f_md_cost).bind (fun v9 =>
    zk_lt (w3 ||| v9) (fun y10 =>
    zk_lt (w4 + 1) (fun y11 =>
    zl_X5_changed_92 x0 v_md_there v_md_question v_md_measure f_md_says f_md_cost n y10 y11)))))
def zf_X5_changed (x0 : Int32) (x1 : Int32) (v_md_sayers : Int32) (v_md_there : Int64) (v_md_question : Int64) (v_md_measure : Int32) (f_md_says : Nat → Int64) (f_md_cost : Nat → Int32) : Option (Int64) :=
  (zf_X5_isSayer x0 v_md_sayers).bind (fun v1 =>
  if v1 = 0 then
  some (0 : Int64)
  else
  (zf_X5_in x1.toInt64 (0 : Int64) (2 : Int64)).bind (fun v2 =>
  if v2 = 0 then
  some (0 : Int64)
  else
  if x1 = 0 then
  zk_gd (zk_in x0 7)
  ((zf_X5_nearest (v_md_there &&& v_md_question) (f_md_says x0.toNatClampNeg) v_md_measure f_md_cost).bind (fun v19 =>
  some v19))
  else
  if x1 = (2 : Int32) then
  zk_gd (zk_in x0 7)
  ((zf_X5_nearest (v_md_there &&& (v_md_question ^^^ (-1 : Int64))) (f_md_says x0.toNatClampNeg) v_md_measure f_md_cost).bind (fun v16 =>
  some ((v_md_there &&& (f_md_says x0.toNatClampNeg)) ||| v16)))
  else
  (zl_X5_changed_92 x0 v_md_there v_md_question v_md_measure f_md_says f_md_cost zk_F (0 : Int64) (0 : Int32)).bind (fun v14 =>
  some v14.1)))
theorem hd_X5_changed : yX5_changed.cls = RX5 ∧ yX5_changed.cls ≠ "java/lang/invoke/MethodHandle" ∧ yX5_changed.cls ≠ "java/lang/invoke/VarHandle" ∧ (parseMethodDescriptor yX5_changed.desc).map (fun d => d.parameters.length) = some 2 := by decide +kernel
set_option maxHeartbeats 4000000 in
set_option maxRecDepth 100000 in
theorem zc_X5_changed (l : Launch) (D : va_G) (tL tO : Nat) (cI cJ cB cQ : ClassId) (a_md a_md_text a_md_weight a_md_says a_md_cost a_md_readWeight a_md_readSays a_md_opened a_md_any a_md_all a_md_burdens a_md_best a_md_own a_md_truth : Nat) (x0 : Int32) (x1 : Int32) (v_md_length : Int32) (v_md_laws : Int32) (v_md_sayers : Int32) (v_md_there : Int64) (v_md_question : Int64) (v_md_measure : Int32) (v_md_trace : Int64) (v_md_readLaws : Int32) (v_md_readSayers : Int32) (v_md_readThere : Int64) (v_md_begin : Int32) (v_md_end : Int32) (v_md_sort : Int32) (v_md_open : Int32) (v_md_level : Int32) (v_md_said : Int64) (f_md_says : Nat → Int64) (f_md_cost : Nat → Int32) (z : Int64) (hf : zf_X5_changed x0 x1 v_md_sayers v_md_there v_md_question v_md_measure f_md_says f_md_cost = some z) : zk_CT l D tL tO (zk_ty cI cJ cB cQ) yX5_changed wsX5_changed 4 100 [.ref a_md, .int x0, .int x1] (some (.long z)) [(a_md, .inr (5, [.int v_md_length, .ref a_md_text, .int v_md_laws, .int v_md_sayers, .long v_md_there, .long v_md_question, .ref a_md_weight, .ref a_md_says, .ref a_md_cost, .int v_md_measure, .long v_md_trace, .int v_md_readLaws, .int v_md_readSayers, .long v_md_readThere, .ref a_md_readWeight, .ref a_md_readSays, .int v_md_begin, .int v_md_end, .int v_md_sort, .int v_md_open, .ref a_md_opened, .int v_md_level, .ref a_md_any, .ref a_md_all, .long v_md_said, .ref a_md_burdens, .ref a_md_best, .ref a_md_own, .ref a_md_truth])), (a_md_says, .inl (cJ, 7, .inr (.inl f_md_says))), (a_md_cost, .inl (cI, 6, .inl f_md_cost))] [(a_md, .inr (5, [.int v_md_length, .ref a_md_text, .int v_md_laws, .int v_md_sayers, .long v_md_there, .long v_md_question, .ref a_md_weight, .ref a_md_says, .ref a_md_cost, .int v_md_measure, .long v_md_trace, .int v_md_readLaws, .int v_md_readSayers, .long v_md_readThere, .ref a_md_readWeight, .ref a_md_readSays, .int v_md_begin, .int v_md_end, .int v_md_sort, .int v_md_open, .ref a_md_opened, .int v_md_level, .ref a_md_any, .ref a_md_all, .long v_md_said, .ref a_md_burdens, .ref a_md_best, .ref a_md_own, .ref a_md_truth])), (a_md_says, .inl (cJ, 7, .inr (.inl f_md_says))), (a_md_cost, .inl (cI, 6, .inl f_md_cost))] := by
  refine zk_of_l (cc := cX5_changed) (maxL := 6) (by decide) rfl (Nat.le_of_ble_eq_true rfl) ?_
  intro p e R s m args below meth c A Q ls hx hb hml hRf hRl hts hown hP hK hD hA hS hG hl hret
  have hl : lv_has ls 6 [(0, .ref a_md), (1, .int x0), (2, .int x1)] := hl
  have hown : s.vm.findClass RX5 = some m.cls := hown
  have hcs : 0 ≤ R.cells ∧ 0 ≤ R.slots := ⟨Nat.zero_le _, Nat.zero_le _⟩
  have lk0 := hts (.constantLong RX5 186 (2)) (by decide +kernel)
  have lk1 := hts (.fieldLink RX5 26 "SayingsMergedModel" "says" "[J") (by decide +kernel)
  have inX5 : ∀ w ∈ wsX50, w ∈ wsX5_changed := by decide +kernel
  have lk3 := hts (.fieldLink RX5 15 "SayingsMergedModel" "there" "J") (by decide +kernel)
  have lk4 := hts (.fieldLink RX5 19 "SayingsMergedModel" "question" "J") (by decide +kernel)
  have lk5 := hts (.constantLong RX5 13 (-1)) (by decide +kernel)
  unfold zf_X5_changed at hf
  refine lv_aload_n hx hb dX5_changed_0 rfl (lv_at hl 0 rfl) ?_
  refine lv_iload_n hx hb dX5_changed_1 rfl (lv_at hl 1 rfl) ?_
  obtain ⟨v1, hv1, hf⟩ := zk_ob hf
  refine zk_goR (zk_V (As := [.int x0]) (rest := []) hx hb hml hown hts hK hG hP hD hS hA gX5_changed_X5_isSayer rfl hd_X5_isSayer (Nat.le_trans (Nat.le_of_ble_eq_true rfl) hRf) (Nat.le_trans (Nat.le_of_ble_eq_true rfl) hRl) hcs (zc_X5_isSayer l D tL tO cI cJ cB cQ a_md a_md_text a_md_weight a_md_says a_md_cost a_md_readWeight a_md_readSays a_md_opened a_md_any a_md_all a_md_burdens a_md_best a_md_own a_md_truth x0 v_md_length v_md_laws v_md_sayers v_md_there v_md_question v_md_measure v_md_trace v_md_readLaws v_md_readSayers v_md_readThere v_md_begin v_md_end v_md_sort v_md_open v_md_level v_md_said v1 hv1) rfl rfl 0 rfl hl.1 rfl rfl (Nat.le_of_ble_eq_true rfl) dX5_changed_2 [0] rfl rfl) hP hD hS hA [0] rfl (fun H locs hP hS => ?_)
  refine lv_if_eq (tgt := 20) hx hb dX5_changed_5 (by decide) (fun c22 => ?_) (fun c22 => ?_)
  · have hf := zk_t c22 hf
    refine lv_lconst (v := (0 : Int64)) hx hb dX5_changed_20 (by decide) ?_
    obtain rfl := Option.some.inj hf
    exact hret trivial _ _ _ _ hP hD hS dX5_changed_21
  · have hf := zk_f c22 hf
    refine lv_iload_n hx hb dX5_changed_8 rfl (lv_at hl 2 rfl) ?_
    refine lv_i2l hx hb dX5_changed_9 rfl ?_
    refine lv_lconst (v := (0 : Int64)) hx hb dX5_changed_10 (by decide) ?_
    refine lv_ldc2 hx hb hown lk0 dX5_changed_11 ?_
    obtain ⟨v2, hv2, hf⟩ := zk_ob hf
    refine zk_goR (zk_S (As := [.long x1.toInt64, .long (0 : Int64), .long (2 : Int64)]) (rest := []) hx hb hml hown hts hK hG hP hD hS hA gX5_changed_X5_in rfl hd_X5_in (Nat.le_trans (Nat.le_of_ble_eq_true rfl) hRf) (Nat.le_trans (Nat.le_of_ble_eq_true rfl) hRl) hcs (zc_X5_in l D tL tO cI cJ cB cQ x1.toInt64 (0 : Int64) (2 : Int64) v2 hv2) hl.1 rfl rfl (Nat.le_of_ble_eq_true rfl) dX5_changed_14 [] rfl rfl) hP hD hS hA [] rfl (fun H locs hP hS => ?_)
    refine lv_if_ne (tgt := 22) hx hb dX5_changed_17 (by decide) (fun c21 => ?_) (fun c21 => ?_)
    · have hf := zk_f c21 hf
      refine lv_iload_n hx hb dX5_changed_22 rfl (lv_at hl 2 rfl) ?_
      refine lv_if_ne (tgt := 46) hx hb dX5_changed_23 (by decide) (fun c20 => ?_) (fun c20 => ?_)
      · have hf := zk_f c20 hf
        refine lv_iload_n hx hb dX5_changed_46 rfl (lv_at hl 2 rfl) ?_
        refine lv_iconst (v := (2 : Int32)) hx hb dX5_changed_47 (by decide) ?_
        refine lv_icmp_ne (tgt := 87) hx hb dX5_changed_48 (by decide) (fun c17 => ?_) (fun c17 => ?_)
        · have hf := zk_f c17 hf
          refine lv_lconst (v := (0 : Int64)) hx hb dX5_changed_87 (by decide) ?_
          refine lv_lstore_n (lv' := [(3, .long (0 : Int64)), (0, .ref a_md), (1, .int x0), (2, .int x1)]) hx hb dX5_changed_88 rfl hl (by decide) rfl (fun ls hl => ?_)
          refine lv_iconst (v := (0 : Int32)) hx hb dX5_changed_89 (by decide) ?_
          refine lv_istore (lv' := [(5, .int (0 : Int32)), (3, .long (0 : Int64)), (0, .ref a_md), (1, .int x0), (2, .int x1)]) hx hb dX5_changed_90 hl (by decide) rfl (fun ls hl => ?_)
          have lp92 : ∀ (n : Nat) (w3 : Int64) (w4 : Int32) (z92 : Int64 × Int32) (H : Heap) (locs : List Loc) (ls : Array Slot), zl_X5_changed_92 x0 v_md_there v_md_question v_md_measure f_md_says f_md_cost n w3 w4 = some z92 → va_P D vwCl [(a_md, .inr (5, [.int v_md_length, .ref a_md_text, .int v_md_laws, .int v_md_sayers, .long v_md_there, .long v_md_question, .ref a_md_weight, .ref a_md_says, .ref a_md_cost, .int v_md_measure, .long v_md_trace, .int v_md_readLaws, .int v_md_readSayers, .long v_md_readThere, .ref a_md_readWeight, .ref a_md_readSays, .int v_md_begin, .int v_md_end, .int v_md_sort, .int v_md_open, .ref a_md_opened, .int v_md_level, .ref a_md_any, .ref a_md_all, .long v_md_said, .ref a_md_burdens, .ref a_md_best, .ref a_md_own, .ref a_md_truth])), (a_md_says, .inl (cJ, 7, .inr (.inl f_md_says))), (a_md_cost, .inl (cI, 6, .inl f_md_cost))] H → va_D A [(a_md, .inr (5, [.int v_md_length, .ref a_md_text, .int v_md_laws, .int v_md_sayers, .long v_md_there, .long v_md_question, .ref a_md_weight, .ref a_md_says, .ref a_md_cost, .int v_md_measure, .long v_md_trace, .int v_md_readLaws, .int v_md_readSayers, .long v_md_readThere, .ref a_md_readWeight, .ref a_md_readSays, .int v_md_begin, .int v_md_end, .int v_md_sort, .int v_md_open, .ref a_md_opened, .int v_md_level, .ref a_md_any, .ref a_md_all, .long v_md_said, .ref a_md_burdens, .ref a_md_best, .ref a_md_own, .ref a_md_truth])), (a_md_says, .inl (cJ, 7, .inr (.inl f_md_says))), (a_md_cost, .inl (cI, 6, .inl f_md_cost))] → va_S A s.heap H locs → lv_has ls 6 [(0, .ref a_md), (1, .int x0), (2, .int x1), (3, .long w3), (5, .int w4)] → (∀ (H : Heap) (locs : List Loc) (ls : Array Slot), va_P D vwCl [(a_md, .inr (5, [.int v_md_length, .ref a_md_text, .int v_md_laws, .int v_md_sayers, .long v_md_there, .long v_md_question, .ref a_md_weight, .ref a_md_says, .ref a_md_cost, .int v_md_measure, .long v_md_trace, .int v_md_readLaws, .int v_md_readSayers, .long v_md_readThere, .ref a_md_readWeight, .ref a_md_readSays, .int v_md_begin, .int v_md_end, .int v_md_sort, .int v_md_open, .ref a_md_opened, .int v_md_level, .ref a_md_any, .ref a_md_all, .long v_md_said, .ref a_md_burdens, .ref a_md_best, .ref a_md_own, .ref a_md_truth])), (a_md_says, .inl (cJ, 7, .inr (.inl f_md_says))), (a_md_cost, .inl (cI, 6, .inl f_md_cost))] H → va_D A [(a_md, .inr (5, [.int v_md_length, .ref a_md_text, .int v_md_laws, .int v_md_sayers, .long v_md_there, .long v_md_question, .ref a_md_weight, .ref a_md_says, .ref a_md_cost, .int v_md_measure, .long v_md_trace, .int v_md_readLaws, .int v_md_readSayers, .long v_md_readThere, .ref a_md_readWeight, .ref a_md_readSays, .int v_md_begin, .int v_md_end, .int v_md_sort, .int v_md_open, .ref a_md_opened, .int v_md_level, .ref a_md_any, .ref a_md_all, .long v_md_said, .ref a_md_burdens, .ref a_md_best, .ref a_md_own, .ref a_md_truth])), (a_md_says, .inl (cJ, 7, .inr (.inl f_md_says))), (a_md_cost, .inl (cI, 6, .inl f_md_cost))] → va_S A s.heap H locs → lv_has ls 6 [(0, .ref a_md), (1, .int x0), (2, .int x1), (3, .long z92.1), (5, .int z92.2)] → W p l e R s m args below meth c H locs 0 0 Q (F0 m 143 ls [])) → W p l e R s m args below meth c H locs 0 0 Q (F0 m 92 ls []) := by
            intro n
            induction n with
            | zero => intro w3 w4 z92 H locs ls hf; exact absurd (show none = some z92 from hf) (by simp)
            | succ n ih =>
              intro w3 w4 z92 H locs ls hf hP hD hS hl hk
              rw [zl_X5_changed_92] at hf
              refine lv_iload hx hb dX5_changed_92 (lv_at hl 4 rfl) ?_
              refine lv_bipush (v := (64 : Int32)) hx hb dX5_changed_94 (by decide) ?_
              refine lv_icmp_ge (tgt := 143) hx hb dX5_changed_96 (by decide) (fun c13 => ?_) (fun c13 => ?_)
              · have hf := zk_t c13 hf
                obtain rfl := Option.some.inj hf
                exact hk _ _ _ hP hD hS (lv_sub hl [0, 1, 2, 3, 4] rfl)
              · have hf := zk_f c13 hf
                refine lv_lload_n hx hb dX5_changed_99 rfl (lv_at hl 3 rfl) ?_
                refine lv_aload_n hx hb dX5_changed_100 rfl (lv_at hl 0 rfl) ?_
                refine va_get (ci := 5) (v := .ref a_md_says) (C := RX5) (T := TX5) (N := 29) hx hb hts inX5 hown hK hP 0 rfl rfl 7 (by decide) lk1 (fun _ h9 => h9) rfl dX5_changed_101 ?_
                refine lv_iload_n hx hb dX5_changed_104 rfl (lv_at hl 1 rfl) ?_
                obtain ⟨g5, hf⟩ := zk_gd_s hf
                refine va_lald hx hb hK hP 1 1 rfl rfl (zk_in_s g5) dX5_changed_105 ?_
                refine lv_iload hx hb dX5_changed_106 (lv_at hl 4 rfl) ?_
                obtain ⟨v6, hv6, hf⟩ := zk_ob hf
                refine zk_goR (zk_S (As := [.long (f_md_says x0.toNatClampNeg), .int w4]) (rest := [.long w3]) hx hb hml hown hts hK hG hP hD hS hA gX5_changed_X5_has rfl hd_X5_has (Nat.le_trans (Nat.le_of_ble_eq_true rfl) hRf) (Nat.le_trans (Nat.le_of_ble_eq_true rfl) hRl) hcs (zc_X5_has l D tL tO cI cJ cB cQ (f_md_says x0.toNatClampNeg) w4 v6 hv6) hl.1 rfl rfl (Nat.le_of_ble_eq_true rfl) dX5_changed_108 [] rfl rfl) hP hD hS hA [] rfl (fun H locs hP hS => ?_)
                refine lv_if_eq (tgt := 134) hx hb dX5_changed_111 (by decide) (fun c12 => ?_) (fun c12 => ?_)
                · have hf := zk_t c12 hf
                  refine lv_lconst (v := (0 : Int64)) hx hb dX5_changed_134 (by decide) ?_
                  refine lv_lor hx hb dX5_changed_135 ?_
                  obtain ⟨y7, ey7, hf⟩ := zk_lt_s hf
                  refine zk_topl ey7 ?_
                  refine lv_lstore_n (lv' := [(3, .long y7), (0, .ref a_md), (1, .int x0), (2, .int x1), (5, .int w4)]) hx hb dX5_changed_136 rfl hl (by decide) rfl (fun ls hl => ?_)
                  obtain ⟨y8, ey8, hf⟩ := zk_lt_s hf
                  refine lv_iinc (v := y8) (lv' := [(5, .int y8), (3, .long y7), (0, .ref a_md), (1, .int x0), (2, .int x1)]) hx hb dX5_changed_137 hl (k := 4) rfl (by rw [ey8]; rfl) (by decide) rfl (fun ls hl => ?_)
                  refine lv_goto (tgt := 92) hx hb dX5_changed_140 (by decide) ?_
                  exact ih y7 y8 _ _ _ _ hf hP hD hS (lv_sub hl [2, 3, 4, 1, 0] rfl) hk
                · have hf := zk_f c12 hf
                  refine lv_aload_n hx hb dX5_changed_114 rfl (lv_at hl 0 rfl) ?_
                  refine lv_aload_n hx hb dX5_changed_115 rfl (lv_at hl 0 rfl) ?_
                  refine va_get (ci := 5) (v := .long v_md_there) (C := RX5) (T := TX5) (N := 29) hx hb hts inX5 hown hK hP 0 rfl rfl 4 (by decide) lk3 (fun _ h9 => h9) rfl dX5_changed_116 ?_
                  refine lv_aload_n hx hb dX5_changed_119 rfl (lv_at hl 0 rfl) ?_
                  refine va_get (ci := 5) (v := .long v_md_question) (C := RX5) (T := TX5) (N := 29) hx hb hts inX5 hown hK hP 0 rfl rfl 5 (by decide) lk4 (fun _ h9 => h9) rfl dX5_changed_120 ?_
                  refine lv_land hx hb dX5_changed_123 ?_
                  refine lv_lconst (v := (1 : Int64)) hx hb dX5_changed_124 (by decide) ?_
                  refine lv_iload hx hb dX5_changed_125 (lv_at hl 4 rfl) ?_
                  refine lv_lshl hx hb dX5_changed_127 rfl ?_
                  obtain ⟨v9, hv9, hf⟩ := zk_ob hf
                  refine zk_goR (zk_V (As := [.long (v_md_there &&& v_md_question), .long ((1 : Int64) <<< (w4.toInt64 &&& 63))]) (rest := [.long w3]) hx hb hml hown hts hK hG hP hD hS hA gX5_changed_X5_nearest rfl hd_X5_nearest (Nat.le_trans (Nat.le_of_ble_eq_true rfl) hRf) (Nat.le_trans (Nat.le_of_ble_eq_true rfl) hRl) hcs (zc_X5_nearest l D tL tO cI cJ cB cQ a_md a_md_text a_md_weight a_md_says a_md_cost a_md_readWeight a_md_readSays a_md_opened a_md_any a_md_all a_md_burdens a_md_best a_md_own a_md_truth (v_md_there &&& v_md_question) ((1 : Int64) <<< (w4.toInt64 &&& 63)) v_md_length v_md_laws v_md_sayers v_md_there v_md_question v_md_measure v_md_trace v_md_readLaws v_md_readSayers v_md_readThere v_md_begin v_md_end v_md_sort v_md_open v_md_level v_md_said f_md_cost v9 hv9) rfl rfl 0 rfl hl.1 rfl rfl (Nat.le_of_ble_eq_true rfl) dX5_changed_128 [0, 2] rfl rfl) hP hD hS hA [0, 2] rfl (fun H locs hP hS => ?_)
                  refine lv_goto (tgt := 135) hx hb dX5_changed_131 (by decide) ?_
                  refine lv_lor hx hb dX5_changed_135 ?_
                  obtain ⟨y10, ey10, hf⟩ := zk_lt_s hf
                  refine zk_topl ey10 ?_
                  refine lv_lstore_n (lv' := [(3, .long y10), (0, .ref a_md), (1, .int x0), (2, .int x1), (5, .int w4)]) hx hb dX5_changed_136 rfl hl (by decide) rfl (fun ls hl => ?_)
                  obtain ⟨y11, ey11, hf⟩ := zk_lt_s hf
                  refine lv_iinc (v := y11) (lv' := [(5, .int y11), (3, .long y10), (0, .ref a_md), (1, .int x0), (2, .int x1)]) hx hb dX5_changed_137 hl (k := 4) rfl (by rw [ey11]; rfl) (by decide) rfl (fun ls hl => ?_)
                  refine lv_goto (tgt := 92) hx hb dX5_changed_140 (by decide) ?_
                  exact ih y10 y11 _ _ _ _ hf hP hD hS (lv_sub hl [2, 3, 4, 1, 0] rfl) hk
          obtain ⟨v14, hv14, hf⟩ := zk_ob hf
          refine lp92 zk_F (0 : Int64) (0 : Int32) v14 _ _ _ hv14 hP hD hS (lv_sub hl [2, 3, 4, 1, 0] rfl) ?_
          intro H locs ls hP hD hS hl
          refine lv_lload_n hx hb dX5_changed_143 rfl (lv_at hl 3 rfl) ?_
          obtain rfl := Option.some.inj hf
          exact hret trivial _ _ _ _ hP hD hS dX5_changed_144
        · have hf := zk_t c17 hf
          refine lv_aload_n hx hb dX5_changed_51 rfl (lv_at hl 0 rfl) ?_
          refine va_get (ci := 5) (v := .long v_md_there) (C := RX5) (T := TX5) (N := 29) hx hb hts inX5 hown hK hP 0 rfl rfl 4 (by decide) lk3 (fun _ h9 => h9) rfl dX5_changed_52 ?_
          refine lv_aload_n hx hb dX5_changed_55 rfl (lv_at hl 0 rfl) ?_
          refine va_get (ci := 5) (v := .ref a_md_says) (C := RX5) (T := TX5) (N := 29) hx hb hts inX5 hown hK hP 0 rfl rfl 7 (by decide) lk1 (fun _ h9 => h9) rfl dX5_changed_56 ?_
          refine lv_iload_n hx hb dX5_changed_59 rfl (lv_at hl 1 rfl) ?_
          obtain ⟨g15, hf⟩ := zk_gd_s hf
          refine va_lald hx hb hK hP 1 1 rfl rfl (zk_in_s g15) dX5_changed_60 ?_
          refine lv_land hx hb dX5_changed_61 ?_
          refine lv_aload_n hx hb dX5_changed_62 rfl (lv_at hl 0 rfl) ?_
          refine lv_aload_n hx hb dX5_changed_63 rfl (lv_at hl 0 rfl) ?_
          refine va_get (ci := 5) (v := .long v_md_there) (C := RX5) (T := TX5) (N := 29) hx hb hts inX5 hown hK hP 0 rfl rfl 4 (by decide) lk3 (fun _ h9 => h9) rfl dX5_changed_64 ?_
          refine lv_aload_n hx hb dX5_changed_67 rfl (lv_at hl 0 rfl) ?_
          refine va_get (ci := 5) (v := .long v_md_question) (C := RX5) (T := TX5) (N := 29) hx hb hts inX5 hown hK hP 0 rfl rfl 5 (by decide) lk4 (fun _ h9 => h9) rfl dX5_changed_68 ?_
          refine lv_ldc2 hx hb hown lk5 dX5_changed_71 ?_
          refine lv_lxor hx hb dX5_changed_74 ?_
          refine lv_land hx hb dX5_changed_75 ?_
          refine lv_aload_n hx hb dX5_changed_76 rfl (lv_at hl 0 rfl) ?_
          refine va_get (ci := 5) (v := .ref a_md_says) (C := RX5) (T := TX5) (N := 29) hx hb hts inX5 hown hK hP 0 rfl rfl 7 (by decide) lk1 (fun _ h9 => h9) rfl dX5_changed_77 ?_
          refine lv_iload_n hx hb dX5_changed_80 rfl (lv_at hl 1 rfl) ?_
          refine va_lald hx hb hK hP 1 1 rfl rfl (zk_in_s g15) dX5_changed_81 ?_
          obtain ⟨v16, hv16, hf⟩ := zk_ob hf
          refine zk_goR (zk_V (As := [.long (v_md_there &&& (v_md_question ^^^ (-1 : Int64))), .long (f_md_says x0.toNatClampNeg)]) (rest := [.long (v_md_there &&& (f_md_says x0.toNatClampNeg))]) hx hb hml hown hts hK hG hP hD hS hA gX5_changed_X5_nearest rfl hd_X5_nearest (Nat.le_trans (Nat.le_of_ble_eq_true rfl) hRf) (Nat.le_trans (Nat.le_of_ble_eq_true rfl) hRl) hcs (zc_X5_nearest l D tL tO cI cJ cB cQ a_md a_md_text a_md_weight a_md_says a_md_cost a_md_readWeight a_md_readSays a_md_opened a_md_any a_md_all a_md_burdens a_md_best a_md_own a_md_truth (v_md_there &&& (v_md_question ^^^ (-1 : Int64))) (f_md_says x0.toNatClampNeg) v_md_length v_md_laws v_md_sayers v_md_there v_md_question v_md_measure v_md_trace v_md_readLaws v_md_readSayers v_md_readThere v_md_begin v_md_end v_md_sort v_md_open v_md_level v_md_said f_md_cost v16 hv16) rfl rfl 0 rfl hl.1 rfl rfl (Nat.le_of_ble_eq_true rfl) dX5_changed_82 [0, 2] rfl rfl) hP hD hS hA [0, 2] rfl (fun H locs hP hS => ?_)
          refine lv_lor hx hb dX5_changed_85 ?_
          obtain rfl := Option.some.inj hf
          exact hret trivial _ _ _ _ hP hD hS dX5_changed_86
      · have hf := zk_t c20 hf
        refine lv_aload_n hx hb dX5_changed_26 rfl (lv_at hl 0 rfl) ?_
        refine lv_aload_n hx hb dX5_changed_27 rfl (lv_at hl 0 rfl) ?_
        refine va_get (ci := 5) (v := .long v_md_there) (C := RX5) (T := TX5) (N := 29) hx hb hts inX5 hown hK hP 0 rfl rfl 4 (by decide) lk3 (fun _ h9 => h9) rfl dX5_changed_28 ?_
        refine lv_aload_n hx hb dX5_changed_31 rfl (lv_at hl 0 rfl) ?_
        refine va_get (ci := 5) (v := .long v_md_question) (C := RX5) (T := TX5) (N := 29) hx hb hts inX5 hown hK hP 0 rfl rfl 5 (by decide) lk4 (fun _ h9 => h9) rfl dX5_changed_32 ?_
        refine lv_land hx hb dX5_changed_35 ?_
        refine lv_aload_n hx hb dX5_changed_36 rfl (lv_at hl 0 rfl) ?_
        refine va_get (ci := 5) (v := .ref a_md_says) (C := RX5) (T := TX5) (N := 29) hx hb hts inX5 hown hK hP 0 rfl rfl 7 (by decide) lk1 (fun _ h9 => h9) rfl dX5_changed_37 ?_
        refine lv_iload_n hx hb dX5_changed_40 rfl (lv_at hl 1 rfl) ?_
        obtain ⟨g18, hf⟩ := zk_gd_s hf
        refine va_lald hx hb hK hP 1 1 rfl rfl (zk_in_s g18) dX5_changed_41 ?_
        obtain ⟨v19, hv19, hf⟩ := zk_ob hf
        refine zk_goR (zk_V (As := [.long (v_md_there &&& v_md_question), .long (f_md_says x0.toNatClampNeg)]) (rest := []) hx hb hml hown hts hK hG hP hD hS hA gX5_changed_X5_nearest rfl hd_X5_nearest (Nat.le_trans (Nat.le_of_ble_eq_true rfl) hRf) (Nat.le_trans (Nat.le_of_ble_eq_true rfl) hRl) hcs (zc_X5_nearest l D tL tO cI cJ cB cQ a_md a_md_text a_md_weight a_md_says a_md_cost a_md_readWeight a_md_readSays a_md_opened a_md_any a_md_all a_md_burdens a_md_best a_md_own a_md_truth (v_md_there &&& v_md_question) (f_md_says x0.toNatClampNeg) v_md_length v_md_laws v_md_sayers v_md_there v_md_question v_md_measure v_md_trace v_md_readLaws v_md_readSayers v_md_readThere v_md_begin v_md_end v_md_sort v_md_open v_md_level v_md_said f_md_cost v19 hv19) rfl rfl 0 rfl hl.1 rfl rfl (Nat.le_of_ble_eq_true rfl) dX5_changed_42 [0, 2] rfl rfl) hP hD hS hA [0, 2] rfl (fun H locs hP hS => ?_)
        obtain rfl := Option.some.inj hf
        exact hret trivial _ _ _ _ hP hD hS dX5_changed_45
    · have hf := zk_t c21 hf
      refine lv_lconst (v := (0 : Int64)) hx hb dX5_changed_20 (by decide) ?_
      obtain rfl := Option.some.inj hf
      exact hret trivial _ _ _ _ hP hD hS dX5_changed_21
def zl_X5_isQuarrel_8 (x0 : Int32) (v_md_sayers : Int32) (f_md_says : Nat → Int64) : Nat → (Int64) → (Int32) → Option (Int64 × Int32)
  | 0, _, _ => none
  | n + 1, w1, w2 =>
    if v_md_sayers ≤ w2 then
    some (w1, w2)
    else
    (zf_X5_has x0.toInt64 w2).bind (fun v3 =>
    if v3 = 0 then
    zk_lt (w1 &&& (-1 : Int64)) (fun y4 =>
    zk_lt (w2 + 1) (fun y5 =>
    zl_X5_isQuarrel_8 x0 v_md_sayers f_md_says n y4 y5))
    else
    zk_gd (zk_in w2 7)
    (zk_lt (w1 &&& (f_md_says w2.toNatClampNeg)) (fun y7 =>
    zk_lt (w2 + 1) (fun y8 =>
    zl_X5_isQuarrel_8 x0 v_md_sayers f_md_says n y7 y8))))
def zf_X5_isQuarrel (x0 : Int32) (v_md_sayers : Int32) (v_md_there : Int64) (f_md_says : Nat → Int64) : Option (Int32) :=
  (zl_X5_isQuarrel_8 x0 v_md_sayers f_md_says zk_F v_md_there (0 : Int32)).bind (fun v11 =>
  if (lg_cmp v11.1 (0 : Int64)) = 0 then
  some (1 : Int32)
  else
  some (0 : Int32))
theorem hd_X5_isQuarrel : yX5_isQuarrel.cls = RX5 ∧ yX5_isQuarrel.cls ≠ "java/lang/invoke/MethodHandle" ∧ yX5_isQuarrel.cls ≠ "java/lang/invoke/VarHandle" ∧ (parseMethodDescriptor yX5_isQuarrel.desc).map (fun d => d.parameters.length) = some 1 := by decide +kernel
set_option maxHeartbeats 4000000 in
set_option maxRecDepth 100000 in
theorem zc_X5_isQuarrel (l : Launch) (D : va_G) (tL tO : Nat) (cI cJ cB cQ : ClassId) (a_md a_md_text a_md_weight a_md_says a_md_cost a_md_readWeight a_md_readSays a_md_opened a_md_any a_md_all a_md_burdens a_md_best a_md_own a_md_truth : Nat) (x0 : Int32) (v_md_length : Int32) (v_md_laws : Int32) (v_md_sayers : Int32) (v_md_there : Int64) (v_md_question : Int64) (v_md_measure : Int32) (v_md_trace : Int64) (v_md_readLaws : Int32) (v_md_readSayers : Int32) (v_md_readThere : Int64) (v_md_begin : Int32) (v_md_end : Int32) (v_md_sort : Int32) (v_md_open : Int32) (v_md_level : Int32) (v_md_said : Int64) (f_md_says : Nat → Int64) (z : Int32) (hf : zf_X5_isQuarrel x0 v_md_sayers v_md_there f_md_says = some z) : zk_CT l D tL tO (zk_ty cI cJ cB cQ) yX5_isQuarrel wsX5_isQuarrel 1 22 [.ref a_md, .int x0] (some (.int z)) [(a_md, .inr (5, [.int v_md_length, .ref a_md_text, .int v_md_laws, .int v_md_sayers, .long v_md_there, .long v_md_question, .ref a_md_weight, .ref a_md_says, .ref a_md_cost, .int v_md_measure, .long v_md_trace, .int v_md_readLaws, .int v_md_readSayers, .long v_md_readThere, .ref a_md_readWeight, .ref a_md_readSays, .int v_md_begin, .int v_md_end, .int v_md_sort, .int v_md_open, .ref a_md_opened, .int v_md_level, .ref a_md_any, .ref a_md_all, .long v_md_said, .ref a_md_burdens, .ref a_md_best, .ref a_md_own, .ref a_md_truth])), (a_md_says, .inl (cJ, 7, .inr (.inl f_md_says)))] [(a_md, .inr (5, [.int v_md_length, .ref a_md_text, .int v_md_laws, .int v_md_sayers, .long v_md_there, .long v_md_question, .ref a_md_weight, .ref a_md_says, .ref a_md_cost, .int v_md_measure, .long v_md_trace, .int v_md_readLaws, .int v_md_readSayers, .long v_md_readThere, .ref a_md_readWeight, .ref a_md_readSays, .int v_md_begin, .int v_md_end, .int v_md_sort, .int v_md_open, .ref a_md_opened, .int v_md_level, .ref a_md_any, .ref a_md_all, .long v_md_said, .ref a_md_burdens, .ref a_md_best, .ref a_md_own, .ref a_md_truth])), (a_md_says, .inl (cJ, 7, .inr (.inl f_md_says)))] := by
  refine zk_of_z (cc := cX5_isQuarrel) (maxL := 5) (by decide) rfl (Nat.le_of_ble_eq_true rfl) ?_
  intro p e R s m args below meth c A Q ls hx hb hml hRf hRl hts hown hP hK hD hA hS hG hl hret
  have hl : lv_has ls 5 [(0, .ref a_md), (1, .int x0)] := hl
  have hown : s.vm.findClass RX5 = some m.cls := hown
  have hcs : 0 ≤ R.cells ∧ 0 ≤ R.slots := ⟨Nat.zero_le _, Nat.zero_le _⟩
  have lk0 := hts (.fieldLink RX5 15 "SayingsMergedModel" "there" "J") (by decide +kernel)
  have inX5 : ∀ w ∈ wsX50, w ∈ wsX5_isQuarrel := by decide +kernel
  have lk2 := hts (.fieldLink RX5 142 "SayingsMergedModel" "sayers" "I") (by decide +kernel)
  have lk3 := hts (.constantLong RX5 13 (-1)) (by decide +kernel)
  have lk4 := hts (.fieldLink RX5 26 "SayingsMergedModel" "says" "[J") (by decide +kernel)
  unfold zf_X5_isQuarrel at hf
  refine lv_aload_n hx hb dX5_isQuarrel_0 rfl (lv_at hl 0 rfl) ?_
  refine va_get (ci := 5) (v := .long v_md_there) (C := RX5) (T := TX5) (N := 29) hx hb hts inX5 hown hK hP 0 rfl rfl 4 (by decide) lk0 (fun _ h9 => h9) rfl dX5_isQuarrel_1 ?_
  refine lv_lstore_n (lv' := [(2, .long v_md_there), (0, .ref a_md), (1, .int x0)]) hx hb dX5_isQuarrel_4 rfl hl (by decide) rfl (fun ls hl => ?_)
  refine lv_iconst (v := (0 : Int32)) hx hb dX5_isQuarrel_5 (by decide) ?_
  refine lv_istore (lv' := [(4, .int (0 : Int32)), (2, .long v_md_there), (0, .ref a_md), (1, .int x0)]) hx hb dX5_isQuarrel_6 hl (by decide) rfl (fun ls hl => ?_)
  have lp8 : ∀ (n : Nat) (w1 : Int64) (w2 : Int32) (z8 : Int64 × Int32) (H : Heap) (locs : List Loc) (ls : Array Slot), zl_X5_isQuarrel_8 x0 v_md_sayers f_md_says n w1 w2 = some z8 → va_P D vwCl [(a_md, .inr (5, [.int v_md_length, .ref a_md_text, .int v_md_laws, .int v_md_sayers, .long v_md_there, .long v_md_question, .ref a_md_weight, .ref a_md_says, .ref a_md_cost, .int v_md_measure, .long v_md_trace, .int v_md_readLaws, .int v_md_readSayers, .long v_md_readThere, .ref a_md_readWeight, .ref a_md_readSays, .int v_md_begin, .int v_md_end, .int v_md_sort, .int v_md_open, .ref a_md_opened, .int v_md_level, .ref a_md_any, .ref a_md_all, .long v_md_said, .ref a_md_burdens, .ref a_md_best, .ref a_md_own, .ref a_md_truth])), (a_md_says, .inl (cJ, 7, .inr (.inl f_md_says)))] H → va_D A [(a_md, .inr (5, [.int v_md_length, .ref a_md_text, .int v_md_laws, .int v_md_sayers, .long v_md_there, .long v_md_question, .ref a_md_weight, .ref a_md_says, .ref a_md_cost, .int v_md_measure, .long v_md_trace, .int v_md_readLaws, .int v_md_readSayers, .long v_md_readThere, .ref a_md_readWeight, .ref a_md_readSays, .int v_md_begin, .int v_md_end, .int v_md_sort, .int v_md_open, .ref a_md_opened, .int v_md_level, .ref a_md_any, .ref a_md_all, .long v_md_said, .ref a_md_burdens, .ref a_md_best, .ref a_md_own, .ref a_md_truth])), (a_md_says, .inl (cJ, 7, .inr (.inl f_md_says)))] → va_S A s.heap H locs → lv_has ls 5 [(0, .ref a_md), (1, .int x0), (2, .long w1), (4, .int w2)] → (∀ (H : Heap) (locs : List Loc) (ls : Array Slot), va_P D vwCl [(a_md, .inr (5, [.int v_md_length, .ref a_md_text, .int v_md_laws, .int v_md_sayers, .long v_md_there, .long v_md_question, .ref a_md_weight, .ref a_md_says, .ref a_md_cost, .int v_md_measure, .long v_md_trace, .int v_md_readLaws, .int v_md_readSayers, .long v_md_readThere, .ref a_md_readWeight, .ref a_md_readSays, .int v_md_begin, .int v_md_end, .int v_md_sort, .int v_md_open, .ref a_md_opened, .int v_md_level, .ref a_md_any, .ref a_md_all, .long v_md_said, .ref a_md_burdens, .ref a_md_best, .ref a_md_own, .ref a_md_truth])), (a_md_says, .inl (cJ, 7, .inr (.inl f_md_says)))] H → va_D A [(a_md, .inr (5, [.int v_md_length, .ref a_md_text, .int v_md_laws, .int v_md_sayers, .long v_md_there, .long v_md_question, .ref a_md_weight, .ref a_md_says, .ref a_md_cost, .int v_md_measure, .long v_md_trace, .int v_md_readLaws, .int v_md_readSayers, .long v_md_readThere, .ref a_md_readWeight, .ref a_md_readSays, .int v_md_begin, .int v_md_end, .int v_md_sort, .int v_md_open, .ref a_md_opened, .int v_md_level, .ref a_md_any, .ref a_md_all, .long v_md_said, .ref a_md_burdens, .ref a_md_best, .ref a_md_own, .ref a_md_truth])), (a_md_says, .inl (cJ, 7, .inr (.inl f_md_says)))] → va_S A s.heap H locs → lv_has ls 5 [(0, .ref a_md), (1, .int x0), (2, .long z8.1), (4, .int z8.2)] → W p l e R s m args below meth c H locs 0 0 Q (F0 m 49 ls [])) → W p l e R s m args below meth c H locs 0 0 Q (F0 m 8 ls []) := by
    intro n
    induction n with
    | zero => intro w1 w2 z8 H locs ls hf; exact absurd (show none = some z8 from hf) (by simp)
    | succ n ih =>
      intro w1 w2 z8 H locs ls hf hP hD hS hl hk
      rw [zl_X5_isQuarrel_8] at hf
      refine lv_iload hx hb dX5_isQuarrel_8 (lv_at hl 3 rfl) ?_
      refine lv_aload_n hx hb dX5_isQuarrel_10 rfl (lv_at hl 0 rfl) ?_
      refine va_get (ci := 5) (v := .int v_md_sayers) (C := RX5) (T := TX5) (N := 29) hx hb hts inX5 hown hK hP 0 rfl rfl 3 (by decide) lk2 (fun _ h9 => h9) rfl dX5_isQuarrel_11 ?_
      refine lv_icmp_ge (tgt := 49) hx hb dX5_isQuarrel_14 (by decide) (fun c10 => ?_) (fun c10 => ?_)
      · have hf := zk_t c10 hf
        obtain rfl := Option.some.inj hf
        exact hk _ _ _ hP hD hS (lv_sub hl [0, 1, 2, 3] rfl)
      · have hf := zk_f c10 hf
        refine lv_lload_n hx hb dX5_isQuarrel_17 rfl (lv_at hl 2 rfl) ?_
        refine lv_iload_n hx hb dX5_isQuarrel_18 rfl (lv_at hl 1 rfl) ?_
        refine lv_i2l hx hb dX5_isQuarrel_19 rfl ?_
        refine lv_iload hx hb dX5_isQuarrel_20 (lv_at hl 3 rfl) ?_
        obtain ⟨v3, hv3, hf⟩ := zk_ob hf
        refine zk_goR (zk_S (As := [.long x0.toInt64, .int w2]) (rest := [.long w1]) hx hb hml hown hts hK hG hP hD hS hA gX5_isQuarrel_X5_has rfl hd_X5_has (Nat.le_trans (Nat.le_of_ble_eq_true rfl) hRf) (Nat.le_trans (Nat.le_of_ble_eq_true rfl) hRl) hcs (zc_X5_has l D tL tO cI cJ cB cQ x0.toInt64 w2 v3 hv3) hl.1 rfl rfl (Nat.le_of_ble_eq_true rfl) dX5_isQuarrel_22 [] rfl rfl) hP hD hS hA [] rfl (fun H locs hP hS => ?_)
        refine lv_if_eq (tgt := 38) hx hb dX5_isQuarrel_25 (by decide) (fun c9 => ?_) (fun c9 => ?_)
        · have hf := zk_t c9 hf
          refine lv_ldc2 hx hb hown lk3 dX5_isQuarrel_38 ?_
          refine lv_land hx hb dX5_isQuarrel_41 ?_
          obtain ⟨y4, ey4, hf⟩ := zk_lt_s hf
          refine zk_topl ey4 ?_
          refine lv_lstore_n (lv' := [(2, .long y4), (0, .ref a_md), (1, .int x0), (4, .int w2)]) hx hb dX5_isQuarrel_42 rfl hl (by decide) rfl (fun ls hl => ?_)
          obtain ⟨y5, ey5, hf⟩ := zk_lt_s hf
          refine lv_iinc (v := y5) (lv' := [(4, .int y5), (2, .long y4), (0, .ref a_md), (1, .int x0)]) hx hb dX5_isQuarrel_43 hl (k := 3) rfl (by rw [ey5]; rfl) (by decide) rfl (fun ls hl => ?_)
          refine lv_goto (tgt := 8) hx hb dX5_isQuarrel_46 (by decide) ?_
          exact ih y4 y5 _ _ _ _ hf hP hD hS (lv_sub hl [2, 3, 1, 0] rfl) hk
        · have hf := zk_f c9 hf
          refine lv_aload_n hx hb dX5_isQuarrel_28 rfl (lv_at hl 0 rfl) ?_
          refine va_get (ci := 5) (v := .ref a_md_says) (C := RX5) (T := TX5) (N := 29) hx hb hts inX5 hown hK hP 0 rfl rfl 7 (by decide) lk4 (fun _ h9 => h9) rfl dX5_isQuarrel_29 ?_
          refine lv_iload hx hb dX5_isQuarrel_32 (lv_at hl 3 rfl) ?_
          obtain ⟨g6, hf⟩ := zk_gd_s hf
          refine va_lald hx hb hK hP 1 1 rfl rfl (zk_in_s g6) dX5_isQuarrel_34 ?_
          refine lv_goto (tgt := 41) hx hb dX5_isQuarrel_35 (by decide) ?_
          refine lv_land hx hb dX5_isQuarrel_41 ?_
          obtain ⟨y7, ey7, hf⟩ := zk_lt_s hf
          refine zk_topl ey7 ?_
          refine lv_lstore_n (lv' := [(2, .long y7), (0, .ref a_md), (1, .int x0), (4, .int w2)]) hx hb dX5_isQuarrel_42 rfl hl (by decide) rfl (fun ls hl => ?_)
          obtain ⟨y8, ey8, hf⟩ := zk_lt_s hf
          refine lv_iinc (v := y8) (lv' := [(4, .int y8), (2, .long y7), (0, .ref a_md), (1, .int x0)]) hx hb dX5_isQuarrel_43 hl (k := 3) rfl (by rw [ey8]; rfl) (by decide) rfl (fun ls hl => ?_)
          refine lv_goto (tgt := 8) hx hb dX5_isQuarrel_46 (by decide) ?_
          exact ih y7 y8 _ _ _ _ hf hP hD hS (lv_sub hl [2, 3, 1, 0] rfl) hk
  obtain ⟨v11, hv11, hf⟩ := zk_ob hf
  refine lp8 zk_F v_md_there (0 : Int32) v11 _ _ _ hv11 hP hD hS (lv_sub hl [2, 3, 1, 0] rfl) ?_
  intro H locs ls hP hD hS hl
  refine lv_lload_n hx hb dX5_isQuarrel_49 rfl (lv_at hl 2 rfl) ?_
  refine lv_lconst (v := (0 : Int64)) hx hb dX5_isQuarrel_50 (by decide) ?_
  refine W.lcmp hx hb dX5_isQuarrel_51 ?_
  refine lv_if_ne (tgt := 59) hx hb dX5_isQuarrel_52 (by decide) (fun c12 => ?_) (fun c12 => ?_)
  · have hf := zk_f c12 hf
    refine lv_iconst (v := (0 : Int32)) hx hb dX5_isQuarrel_59 (by decide) ?_
    obtain rfl := Option.some.inj hf
    exact hret rfl _ _ _ _ hP hD hS dX5_isQuarrel_60
  · have hf := zk_t c12 hf
    refine lv_iconst (v := (1 : Int32)) hx hb dX5_isQuarrel_55 (by decide) ?_
    refine lv_goto (tgt := 60) hx hb dX5_isQuarrel_56 (by decide) ?_
    obtain rfl := Option.some.inj hf
    exact hret rfl _ _ _ _ hP hD hS dX5_isQuarrel_60
def zf_X5_isSet (x0 : Int32) (v_md_sayers : Int32) : Option (Int32) :=
  (zf_X5_in x0.toInt64 (0 : Int64) ((((1 : Int32) <<< (v_md_sayers &&& 31)) - (1 : Int32)).toInt64)).bind (fun v1 =>
  zk_gd (zk_b v1) (some v1))
theorem hd_X5_isSet : yX5_isSet.cls = RX5 ∧ yX5_isSet.cls ≠ "java/lang/invoke/MethodHandle" ∧ yX5_isSet.cls ≠ "java/lang/invoke/VarHandle" ∧ (parseMethodDescriptor yX5_isSet.desc).map (fun d => d.parameters.length) = some 1 := by decide +kernel
set_option maxHeartbeats 4000000 in
set_option maxRecDepth 100000 in
theorem zc_X5_isSet (l : Launch) (D : va_G) (tL tO : Nat) (cI cJ cB cQ : ClassId) (a_md a_md_text a_md_weight a_md_says a_md_cost a_md_readWeight a_md_readSays a_md_opened a_md_any a_md_all a_md_burdens a_md_best a_md_own a_md_truth : Nat) (x0 : Int32) (v_md_length : Int32) (v_md_laws : Int32) (v_md_sayers : Int32) (v_md_there : Int64) (v_md_question : Int64) (v_md_measure : Int32) (v_md_trace : Int64) (v_md_readLaws : Int32) (v_md_readSayers : Int32) (v_md_readThere : Int64) (v_md_begin : Int32) (v_md_end : Int32) (v_md_sort : Int32) (v_md_open : Int32) (v_md_level : Int32) (v_md_said : Int64) (z : Int32) (hf : zf_X5_isSet x0 v_md_sayers = some z) : zk_CT l D tL tO (zk_ty cI cJ cB cQ) yX5_isSet wsX5_isSet 1 25 [.ref a_md, .int x0] (some (.int z)) [(a_md, .inr (5, [.int v_md_length, .ref a_md_text, .int v_md_laws, .int v_md_sayers, .long v_md_there, .long v_md_question, .ref a_md_weight, .ref a_md_says, .ref a_md_cost, .int v_md_measure, .long v_md_trace, .int v_md_readLaws, .int v_md_readSayers, .long v_md_readThere, .ref a_md_readWeight, .ref a_md_readSays, .int v_md_begin, .int v_md_end, .int v_md_sort, .int v_md_open, .ref a_md_opened, .int v_md_level, .ref a_md_any, .ref a_md_all, .long v_md_said, .ref a_md_burdens, .ref a_md_best, .ref a_md_own, .ref a_md_truth]))] [(a_md, .inr (5, [.int v_md_length, .ref a_md_text, .int v_md_laws, .int v_md_sayers, .long v_md_there, .long v_md_question, .ref a_md_weight, .ref a_md_says, .ref a_md_cost, .int v_md_measure, .long v_md_trace, .int v_md_readLaws, .int v_md_readSayers, .long v_md_readThere, .ref a_md_readWeight, .ref a_md_readSays, .int v_md_begin, .int v_md_end, .int v_md_sort, .int v_md_open, .ref a_md_opened, .int v_md_level, .ref a_md_any, .ref a_md_all, .long v_md_said, .ref a_md_burdens, .ref a_md_best, .ref a_md_own, .ref a_md_truth]))] := by
  refine zk_of_z (cc := cX5_isSet) (maxL := 2) (by decide) rfl (Nat.le_of_ble_eq_true rfl) ?_
  intro p e R s m args below meth c A Q ls hx hb hml hRf hRl hts hown hP hK hD hA hS hG hl hret
  have hl : lv_has ls 2 [(0, .ref a_md), (1, .int x0)] := hl
  have hown : s.vm.findClass RX5 = some m.cls := hown
  have hcs : 0 ≤ R.cells ∧ 0 ≤ R.slots := ⟨Nat.zero_le _, Nat.zero_le _⟩
  have lk0 := hts (.fieldLink RX5 142 "SayingsMergedModel" "sayers" "I") (by decide +kernel)
  have inX5 : ∀ w ∈ wsX50, w ∈ wsX5_isSet := by decide +kernel
  unfold zf_X5_isSet at hf
  refine lv_iload_n hx hb dX5_isSet_0 rfl (lv_at hl 1 rfl) ?_
  refine lv_i2l hx hb dX5_isSet_1 rfl ?_
  refine lv_lconst (v := (0 : Int64)) hx hb dX5_isSet_2 (by decide) ?_
  refine lv_iconst (v := (1 : Int32)) hx hb dX5_isSet_3 (by decide) ?_
  refine lv_aload_n hx hb dX5_isSet_4 rfl (lv_at hl 0 rfl) ?_
  refine va_get (ci := 5) (v := .int v_md_sayers) (C := RX5) (T := TX5) (N := 29) hx hb hts inX5 hown hK hP 0 rfl rfl 3 (by decide) lk0 (fun _ h9 => h9) rfl dX5_isSet_5 ?_
  refine lv_ishl hx hb dX5_isSet_8 ?_
  refine lv_iconst (v := (1 : Int32)) hx hb dX5_isSet_9 (by decide) ?_
  refine lv_isub hx hb dX5_isSet_10 ?_
  refine lv_i2l hx hb dX5_isSet_11 rfl ?_
  obtain ⟨v1, hv1, hf⟩ := zk_ob hf
  refine zk_goR (zk_S (As := [.long x0.toInt64, .long (0 : Int64), .long ((((1 : Int32) <<< (v_md_sayers &&& 31)) - (1 : Int32)).toInt64)]) (rest := []) hx hb hml hown hts hK hG hP hD hS hA gX5_isSet_X5_in rfl hd_X5_in (Nat.le_trans (Nat.le_of_ble_eq_true rfl) hRf) (Nat.le_trans (Nat.le_of_ble_eq_true rfl) hRl) hcs (zc_X5_in l D tL tO cI cJ cB cQ x0.toInt64 (0 : Int64) ((((1 : Int32) <<< (v_md_sayers &&& 31)) - (1 : Int32)).toInt64) v1 hv1) hl.1 rfl rfl (Nat.le_of_ble_eq_true rfl) dX5_isSet_12 [] rfl rfl) hP hD hS hA [] rfl (fun H locs hP hS => ?_)
  obtain ⟨g2, hf⟩ := zk_gd_s hf
  obtain rfl := Option.some.inj hf
  exact hret (zk_b_s g2).1 _ _ _ _ hP hD hS dX5_isSet_15
def zf_X5_quarrels (x0 : Int32) (v_md_sayers : Int32) (v_md_there : Int64) (f_md_says : Nat → Int64) : Option (Int32) :=
  (zf_X5_isSet x0 v_md_sayers).bind (fun v1 =>
  if v1 = 0 then
  some (-1 : Int32)
  else
  (zf_X5_isQuarrel x0 v_md_sayers v_md_there f_md_says).bind (fun v2 =>
  if v2 = 0 then
  some (0 : Int32)
  else
  some (1 : Int32)))
theorem hd_X5_quarrels : yX5_quarrels.cls = RX5 ∧ yX5_quarrels.cls ≠ "java/lang/invoke/MethodHandle" ∧ yX5_quarrels.cls ≠ "java/lang/invoke/VarHandle" ∧ (parseMethodDescriptor yX5_quarrels.desc).map (fun d => d.parameters.length) = some 1 := by decide +kernel
set_option maxHeartbeats 4000000 in
set_option maxRecDepth 100000 in
theorem zc_X5_quarrels (l : Launch) (D : va_G) (tL tO : Nat) (cI cJ cB cQ : ClassId) (a_md a_md_text a_md_weight a_md_says a_md_cost a_md_readWeight a_md_readSays a_md_opened a_md_any a_md_all a_md_burdens a_md_best a_md_own a_md_truth : Nat) (x0 : Int32) (v_md_length : Int32) (v_md_laws : Int32) (v_md_sayers : Int32) (v_md_there : Int64) (v_md_question : Int64) (v_md_measure : Int32) (v_md_trace : Int64) (v_md_readLaws : Int32) (v_md_readSayers : Int32) (v_md_readThere : Int64) (v_md_begin : Int32) (v_md_end : Int32) (v_md_sort : Int32) (v_md_open : Int32) (v_md_level : Int32) (v_md_said : Int64) (f_md_says : Nat → Int64) (z : Int32) (hf : zf_X5_quarrels x0 v_md_sayers v_md_there f_md_says = some z) : zk_CT l D tL tO (zk_ty cI cJ cB cQ) yX5_quarrels wsX5_quarrels 2 46 [.ref a_md, .int x0] (some (.int z)) [(a_md, .inr (5, [.int v_md_length, .ref a_md_text, .int v_md_laws, .int v_md_sayers, .long v_md_there, .long v_md_question, .ref a_md_weight, .ref a_md_says, .ref a_md_cost, .int v_md_measure, .long v_md_trace, .int v_md_readLaws, .int v_md_readSayers, .long v_md_readThere, .ref a_md_readWeight, .ref a_md_readSays, .int v_md_begin, .int v_md_end, .int v_md_sort, .int v_md_open, .ref a_md_opened, .int v_md_level, .ref a_md_any, .ref a_md_all, .long v_md_said, .ref a_md_burdens, .ref a_md_best, .ref a_md_own, .ref a_md_truth])), (a_md_says, .inl (cJ, 7, .inr (.inl f_md_says)))] [(a_md, .inr (5, [.int v_md_length, .ref a_md_text, .int v_md_laws, .int v_md_sayers, .long v_md_there, .long v_md_question, .ref a_md_weight, .ref a_md_says, .ref a_md_cost, .int v_md_measure, .long v_md_trace, .int v_md_readLaws, .int v_md_readSayers, .long v_md_readThere, .ref a_md_readWeight, .ref a_md_readSays, .int v_md_begin, .int v_md_end, .int v_md_sort, .int v_md_open, .ref a_md_opened, .int v_md_level, .ref a_md_any, .ref a_md_all, .long v_md_said, .ref a_md_burdens, .ref a_md_best, .ref a_md_own, .ref a_md_truth])), (a_md_says, .inl (cJ, 7, .inr (.inl f_md_says)))] := by
  refine zk_of_i (cc := cX5_quarrels) (maxL := 2) (by decide) rfl (Nat.le_of_ble_eq_true rfl) ?_
  intro p e R s m args below meth c A Q ls hx hb hml hRf hRl hts hown hP hK hD hA hS hG hl hret
  have hl : lv_has ls 2 [(0, .ref a_md), (1, .int x0)] := hl
  have hown : s.vm.findClass RX5 = some m.cls := hown
  have hcs : 0 ≤ R.cells ∧ 0 ≤ R.slots := ⟨Nat.zero_le _, Nat.zero_le _⟩
  unfold zf_X5_quarrels at hf
  refine lv_aload_n hx hb dX5_quarrels_0 rfl (lv_at hl 0 rfl) ?_
  refine lv_iload_n hx hb dX5_quarrels_1 rfl (lv_at hl 1 rfl) ?_
  obtain ⟨v1, hv1, hf⟩ := zk_ob hf
  refine zk_goR (zk_V (As := [.int x0]) (rest := []) hx hb hml hown hts hK hG hP hD hS hA gX5_quarrels_X5_isSet rfl hd_X5_isSet (Nat.le_trans (Nat.le_of_ble_eq_true rfl) hRf) (Nat.le_trans (Nat.le_of_ble_eq_true rfl) hRl) hcs (zc_X5_isSet l D tL tO cI cJ cB cQ a_md a_md_text a_md_weight a_md_says a_md_cost a_md_readWeight a_md_readSays a_md_opened a_md_any a_md_all a_md_burdens a_md_best a_md_own a_md_truth x0 v_md_length v_md_laws v_md_sayers v_md_there v_md_question v_md_measure v_md_trace v_md_readLaws v_md_readSayers v_md_readThere v_md_begin v_md_end v_md_sort v_md_open v_md_level v_md_said v1 hv1) rfl rfl 0 rfl hl.1 rfl rfl (Nat.le_of_ble_eq_true rfl) dX5_quarrels_2 [0] rfl rfl) hP hD hS hA [0] rfl (fun H locs hP hS => ?_)
  refine lv_if_ne (tgt := 12) hx hb dX5_quarrels_5 (by decide) (fun c4 => ?_) (fun c4 => ?_)
  · have hf := zk_f c4 hf
    refine lv_aload_n hx hb dX5_quarrels_12 rfl (lv_at hl 0 rfl) ?_
    refine lv_iload_n hx hb dX5_quarrels_13 rfl (lv_at hl 1 rfl) ?_
    obtain ⟨v2, hv2, hf⟩ := zk_ob hf
    refine zk_goR (zk_V (As := [.int x0]) (rest := []) hx hb hml hown hts hK hG hP hD hS hA gX5_quarrels_X5_isQuarrel rfl hd_X5_isQuarrel (Nat.le_trans (Nat.le_of_ble_eq_true rfl) hRf) (Nat.le_trans (Nat.le_of_ble_eq_true rfl) hRl) hcs (zc_X5_isQuarrel l D tL tO cI cJ cB cQ a_md a_md_text a_md_weight a_md_says a_md_cost a_md_readWeight a_md_readSays a_md_opened a_md_any a_md_all a_md_burdens a_md_best a_md_own a_md_truth x0 v_md_length v_md_laws v_md_sayers v_md_there v_md_question v_md_measure v_md_trace v_md_readLaws v_md_readSayers v_md_readThere v_md_begin v_md_end v_md_sort v_md_open v_md_level v_md_said f_md_says v2 hv2) rfl rfl 0 rfl hl.1 rfl rfl (Nat.le_of_ble_eq_true rfl) dX5_quarrels_14 [0, 1] rfl rfl) hP hD hS hA [0, 1] rfl (fun H locs hP hS => ?_)
    refine lv_if_eq (tgt := 24) hx hb dX5_quarrels_17 (by decide) (fun c3 => ?_) (fun c3 => ?_)
    · have hf := zk_t c3 hf
      refine lv_iconst (v := (0 : Int32)) hx hb dX5_quarrels_24 (by decide) ?_
      obtain rfl := Option.some.inj hf
      exact hret trivial _ _ _ _ hP hD hS dX5_quarrels_25
    · have hf := zk_f c3 hf
      refine lv_iconst (v := (1 : Int32)) hx hb dX5_quarrels_20 (by decide) ?_
      refine lv_goto (tgt := 25) hx hb dX5_quarrels_21 (by decide) ?_
      obtain rfl := Option.some.inj hf
      exact hret trivial _ _ _ _ hP hD hS dX5_quarrels_25
  · have hf := zk_t c4 hf
    refine lv_iconst (v := (-1 : Int32)) hx hb dX5_quarrels_8 (by decide) ?_
    refine lv_goto (tgt := 25) hx hb dX5_quarrels_9 (by decide) ?_
    obtain rfl := Option.some.inj hf
    exact hret trivial _ _ _ _ hP hD hS dX5_quarrels_25
def zl_X5_isTold_26 (x0 : Int32) (x1 : Int32) (v_md_sayers : Int32) (v_md_there : Int64) (f_md_says : Nat → Int64) : Nat → (Int32) → (Int32) → Option (Int32 × Int32)
  | 0, _, _ => none
  | n + 1, w4, w5 =>
    if v_md_sayers ≤ w5 then
    some (w4, w5)
    else
    (zf_X5_has x1.toInt64 w5).bind (fun v6 =>
    (if x0 = 0 then
    some (1 : Int32)
    else
    some (0 : Int32)).bind (fun v7 =>
    (if v6 = v7 then
    some (1 : Int32)
    else
    some (0 : Int32)).bind (fun v8 =>
    if w4 = 0 then
    zk_lt (w5 + 1) (fun y9 =>
    zl_X5_isTold_26 x0 x1 v_md_sayers v_md_there f_md_says n (0 : Int32) y9)
    else
    if v8 = 0 then
    zk_lt (w5 + 1) (fun y10 =>
    zl_X5_isTold_26 x0 x1 v_md_sayers v_md_there f_md_says n (1 : Int32) y10)
    else
    (zf_X5_isQuarrel (x1 ^^^ ((1 : Int32) <<< (w5 &&& 31))) v_md_sayers v_md_there f_md_says).bind (fun v11 =>
    if x0 = 0 then
    if v11 = (1 : Int32) then
    zk_lt (w5 + 1) (fun y15 =>
    zl_X5_isTold_26 x0 x1 v_md_sayers v_md_there f_md_says n (0 : Int32) y15)
    else
    zk_lt (w5 + 1) (fun y16 =>
    zl_X5_isTold_26 x0 x1 v_md_sayers v_md_there f_md_says n (1 : Int32) y16)
    else
    if v11 = (0 : Int32) then
    zk_lt (w5 + 1) (fun y12 =>
    zl_X5_isTold_26 x0 x1 v_md_sayers v_md_there f_md_says n (0 : Int32) y12)
    else
    zk_lt (w5 + 1) (fun y13 =>
    zl_X5_isTold_26 x0 x1 v_md_sayers v_md_there f_md_says n (1 : Int32) y13)))))
def zf_X5_isTold (x0 : Int32) (x1 : Int32) (v_md_sayers : Int32) (v_md_there : Int64) (f_md_says : Nat → Int64) : Option (Int32) :=
  (zf_X5_isQuarrel x1 v_md_sayers v_md_there f_md_says).bind (fun v1 =>
  (if x0 = 0 then
  some (1 : Int32)
  else
  some (0 : Int32)).bind (fun v2 =>
  (if v1 = v2 then
  some (1 : Int32)
  else
  some (0 : Int32)).bind (fun v3 =>
  (zl_X5_isTold_26 x0 x1 v_md_sayers v_md_there f_md_says zk_F v3 (0 : Int32)).bind (fun v24 =>
  zk_gd (zk_b v24.1) (some v24.1)))))
theorem hd_X5_isTold : yX5_isTold.cls = RX5 ∧ yX5_isTold.cls ≠ "java/lang/invoke/MethodHandle" ∧ yX5_isTold.cls ≠ "java/lang/invoke/VarHandle" ∧ (parseMethodDescriptor yX5_isTold.desc).map (fun d => d.parameters.length) = some 2 := by decide +kernel
set_option maxHeartbeats 4000000 in
set_option maxRecDepth 100000 in
theorem zc_X5_isTold (l : Launch) (D : va_G) (tL tO : Nat) (cI cJ cB cQ : ClassId) (a_md a_md_text a_md_weight a_md_says a_md_cost a_md_readWeight a_md_readSays a_md_opened a_md_any a_md_all a_md_burdens a_md_best a_md_own a_md_truth : Nat) (x0 : Int32) (x1 : Int32) (v_md_length : Int32) (v_md_laws : Int32) (v_md_sayers : Int32) (v_md_there : Int64) (v_md_question : Int64) (v_md_measure : Int32) (v_md_trace : Int64) (v_md_readLaws : Int32) (v_md_readSayers : Int32) (v_md_readThere : Int64) (v_md_begin : Int32) (v_md_end : Int32) (v_md_sort : Int32) (v_md_open : Int32) (v_md_level : Int32) (v_md_said : Int64) (f_md_says : Nat → Int64) (z : Int32) (hf : zf_X5_isTold x0 x1 v_md_sayers v_md_there f_md_says = some z) : zk_CT l D tL tO (zk_ty cI cJ cB cQ) yX5_isTold wsX5_isTold 2 46 [.ref a_md, .int x0, .int x1] (some (.int z)) [(a_md, .inr (5, [.int v_md_length, .ref a_md_text, .int v_md_laws, .int v_md_sayers, .long v_md_there, .long v_md_question, .ref a_md_weight, .ref a_md_says, .ref a_md_cost, .int v_md_measure, .long v_md_trace, .int v_md_readLaws, .int v_md_readSayers, .long v_md_readThere, .ref a_md_readWeight, .ref a_md_readSays, .int v_md_begin, .int v_md_end, .int v_md_sort, .int v_md_open, .ref a_md_opened, .int v_md_level, .ref a_md_any, .ref a_md_all, .long v_md_said, .ref a_md_burdens, .ref a_md_best, .ref a_md_own, .ref a_md_truth])), (a_md_says, .inl (cJ, 7, .inr (.inl f_md_says)))] [(a_md, .inr (5, [.int v_md_length, .ref a_md_text, .int v_md_laws, .int v_md_sayers, .long v_md_there, .long v_md_question, .ref a_md_weight, .ref a_md_says, .ref a_md_cost, .int v_md_measure, .long v_md_trace, .int v_md_readLaws, .int v_md_readSayers, .long v_md_readThere, .ref a_md_readWeight, .ref a_md_readSays, .int v_md_begin, .int v_md_end, .int v_md_sort, .int v_md_open, .ref a_md_opened, .int v_md_level, .ref a_md_any, .ref a_md_all, .long v_md_said, .ref a_md_burdens, .ref a_md_best, .ref a_md_own, .ref a_md_truth])), (a_md_says, .inl (cJ, 7, .inr (.inl f_md_says)))] := by
  refine zk_of_z (cc := cX5_isTold) (maxL := 6) (by decide) rfl (Nat.le_of_ble_eq_true rfl) ?_
  intro p e R s m args below meth c A Q ls hx hb hml hRf hRl hts hown hP hK hD hA hS hG hl hret
  have hl : lv_has ls 6 [(0, .ref a_md), (1, .int x0), (2, .int x1)] := hl
  have hown : s.vm.findClass RX5 = some m.cls := hown
  have hcs : 0 ≤ R.cells ∧ 0 ≤ R.slots := ⟨Nat.zero_le _, Nat.zero_le _⟩
  have lk0 := hts (.fieldLink RX5 142 "SayingsMergedModel" "sayers" "I") (by decide +kernel)
  have inX5 : ∀ w ∈ wsX50, w ∈ wsX5_isTold := by decide +kernel
  unfold zf_X5_isTold at hf
  refine lv_aload_n hx hb dX5_isTold_0 rfl (lv_at hl 0 rfl) ?_
  refine lv_iload_n hx hb dX5_isTold_1 rfl (lv_at hl 2 rfl) ?_
  obtain ⟨v1, hv1, hf⟩ := zk_ob hf
  refine zk_goR (zk_V (As := [.int x1]) (rest := []) hx hb hml hown hts hK hG hP hD hS hA gX5_isTold_X5_isQuarrel rfl hd_X5_isQuarrel (Nat.le_trans (Nat.le_of_ble_eq_true rfl) hRf) (Nat.le_trans (Nat.le_of_ble_eq_true rfl) hRl) hcs (zc_X5_isQuarrel l D tL tO cI cJ cB cQ a_md a_md_text a_md_weight a_md_says a_md_cost a_md_readWeight a_md_readSays a_md_opened a_md_any a_md_all a_md_burdens a_md_best a_md_own a_md_truth x1 v_md_length v_md_laws v_md_sayers v_md_there v_md_question v_md_measure v_md_trace v_md_readLaws v_md_readSayers v_md_readThere v_md_begin v_md_end v_md_sort v_md_open v_md_level v_md_said f_md_says v1 hv1) rfl rfl 0 rfl hl.1 rfl rfl (Nat.le_of_ble_eq_true rfl) dX5_isTold_2 [0, 1] rfl rfl) hP hD hS hA [0, 1] rfl (fun H locs hP hS => ?_)
  refine lv_iload_n hx hb dX5_isTold_5 rfl (lv_at hl 1 rfl) ?_
  obtain ⟨v2, hv2, hf⟩ := zk_ob hf
  have kv2 : ∀ (H : Heap) (locs : List Loc) (ls : Array Slot), va_P D vwCl [(a_md, .inr (5, [.int v_md_length, .ref a_md_text, .int v_md_laws, .int v_md_sayers, .long v_md_there, .long v_md_question, .ref a_md_weight, .ref a_md_says, .ref a_md_cost, .int v_md_measure, .long v_md_trace, .int v_md_readLaws, .int v_md_readSayers, .long v_md_readThere, .ref a_md_readWeight, .ref a_md_readSays, .int v_md_begin, .int v_md_end, .int v_md_sort, .int v_md_open, .ref a_md_opened, .int v_md_level, .ref a_md_any, .ref a_md_all, .long v_md_said, .ref a_md_burdens, .ref a_md_best, .ref a_md_own, .ref a_md_truth])), (a_md_says, .inl (cJ, 7, .inr (.inl f_md_says)))] H → va_D A [(a_md, .inr (5, [.int v_md_length, .ref a_md_text, .int v_md_laws, .int v_md_sayers, .long v_md_there, .long v_md_question, .ref a_md_weight, .ref a_md_says, .ref a_md_cost, .int v_md_measure, .long v_md_trace, .int v_md_readLaws, .int v_md_readSayers, .long v_md_readThere, .ref a_md_readWeight, .ref a_md_readSays, .int v_md_begin, .int v_md_end, .int v_md_sort, .int v_md_open, .ref a_md_opened, .int v_md_level, .ref a_md_any, .ref a_md_all, .long v_md_said, .ref a_md_burdens, .ref a_md_best, .ref a_md_own, .ref a_md_truth])), (a_md_says, .inl (cJ, 7, .inr (.inl f_md_says)))] → va_S A s.heap H locs → lv_has ls 6 [(0, .ref a_md), (1, .int x0), (2, .int x1)] → W p l e R s m args below meth c H locs 0 0 Q (F0 m 14 ls [.int v2, .int v1]) := by
    intro H locs ls hP hD hS hl
    obtain ⟨v3, hv3, hf⟩ := zk_ob hf
    have kv3 : ∀ (H : Heap) (locs : List Loc) (ls : Array Slot), va_P D vwCl [(a_md, .inr (5, [.int v_md_length, .ref a_md_text, .int v_md_laws, .int v_md_sayers, .long v_md_there, .long v_md_question, .ref a_md_weight, .ref a_md_says, .ref a_md_cost, .int v_md_measure, .long v_md_trace, .int v_md_readLaws, .int v_md_readSayers, .long v_md_readThere, .ref a_md_readWeight, .ref a_md_readSays, .int v_md_begin, .int v_md_end, .int v_md_sort, .int v_md_open, .ref a_md_opened, .int v_md_level, .ref a_md_any, .ref a_md_all, .long v_md_said, .ref a_md_burdens, .ref a_md_best, .ref a_md_own, .ref a_md_truth])), (a_md_says, .inl (cJ, 7, .inr (.inl f_md_says)))] H → va_D A [(a_md, .inr (5, [.int v_md_length, .ref a_md_text, .int v_md_laws, .int v_md_sayers, .long v_md_there, .long v_md_question, .ref a_md_weight, .ref a_md_says, .ref a_md_cost, .int v_md_measure, .long v_md_trace, .int v_md_readLaws, .int v_md_readSayers, .long v_md_readThere, .ref a_md_readWeight, .ref a_md_readSays, .int v_md_begin, .int v_md_end, .int v_md_sort, .int v_md_open, .ref a_md_opened, .int v_md_level, .ref a_md_any, .ref a_md_all, .long v_md_said, .ref a_md_burdens, .ref a_md_best, .ref a_md_own, .ref a_md_truth])), (a_md_says, .inl (cJ, 7, .inr (.inl f_md_says)))] → va_S A s.heap H locs → lv_has ls 6 [(0, .ref a_md), (1, .int x0), (2, .int x1)] → W p l e R s m args below meth c H locs 0 0 Q (F0 m 22 ls [.int v3]) := by
      intro H locs ls hP hD hS hl
      refine lv_istore_n (lv' := [(3, .int v3), (0, .ref a_md), (1, .int x0), (2, .int x1)]) hx hb dX5_isTold_22 rfl hl (by decide) rfl (fun ls hl => ?_)
      refine lv_iconst (v := (0 : Int32)) hx hb dX5_isTold_23 (by decide) ?_
      refine lv_istore (lv' := [(4, .int (0 : Int32)), (3, .int v3), (0, .ref a_md), (1, .int x0), (2, .int x1)]) hx hb dX5_isTold_24 hl (by decide) rfl (fun ls hl => ?_)
      have lp26 : ∀ (n : Nat) (w4 : Int32) (w5 : Int32) (z26 : Int32 × Int32) (H : Heap) (locs : List Loc) (ls : Array Slot), zl_X5_isTold_26 x0 x1 v_md_sayers v_md_there f_md_says n w4 w5 = some z26 → va_P D vwCl [(a_md, .inr (5, [.int v_md_length, .ref a_md_text, .int v_md_laws, .int v_md_sayers, .long v_md_there, .long v_md_question, .ref a_md_weight, .ref a_md_says, .ref a_md_cost, .int v_md_measure, .long v_md_trace, .int v_md_readLaws, .int v_md_readSayers, .long v_md_readThere, .ref a_md_readWeight, .ref a_md_readSays, .int v_md_begin, .int v_md_end, .int v_md_sort, .int v_md_open, .ref a_md_opened, .int v_md_level, .ref a_md_any, .ref a_md_all, .long v_md_said, .ref a_md_burdens, .ref a_md_best, .ref a_md_own, .ref a_md_truth])), (a_md_says, .inl (cJ, 7, .inr (.inl f_md_says)))] H → va_D A [(a_md, .inr (5, [.int v_md_length, .ref a_md_text, .int v_md_laws, .int v_md_sayers, .long v_md_there, .long v_md_question, .ref a_md_weight, .ref a_md_says, .ref a_md_cost, .int v_md_measure, .long v_md_trace, .int v_md_readLaws, .int v_md_readSayers, .long v_md_readThere, .ref a_md_readWeight, .ref a_md_readSays, .int v_md_begin, .int v_md_end, .int v_md_sort, .int v_md_open, .ref a_md_opened, .int v_md_level, .ref a_md_any, .ref a_md_all, .long v_md_said, .ref a_md_burdens, .ref a_md_best, .ref a_md_own, .ref a_md_truth])), (a_md_says, .inl (cJ, 7, .inr (.inl f_md_says)))] → va_S A s.heap H locs → lv_has ls 6 [(0, .ref a_md), (1, .int x0), (2, .int x1), (3, .int w4), (4, .int w5)] → (∀ (H : Heap) (locs : List Loc) (ls : Array Slot), va_P D vwCl [(a_md, .inr (5, [.int v_md_length, .ref a_md_text, .int v_md_laws, .int v_md_sayers, .long v_md_there, .long v_md_question, .ref a_md_weight, .ref a_md_says, .ref a_md_cost, .int v_md_measure, .long v_md_trace, .int v_md_readLaws, .int v_md_readSayers, .long v_md_readThere, .ref a_md_readWeight, .ref a_md_readSays, .int v_md_begin, .int v_md_end, .int v_md_sort, .int v_md_open, .ref a_md_opened, .int v_md_level, .ref a_md_any, .ref a_md_all, .long v_md_said, .ref a_md_burdens, .ref a_md_best, .ref a_md_own, .ref a_md_truth])), (a_md_says, .inl (cJ, 7, .inr (.inl f_md_says)))] H → va_D A [(a_md, .inr (5, [.int v_md_length, .ref a_md_text, .int v_md_laws, .int v_md_sayers, .long v_md_there, .long v_md_question, .ref a_md_weight, .ref a_md_says, .ref a_md_cost, .int v_md_measure, .long v_md_trace, .int v_md_readLaws, .int v_md_readSayers, .long v_md_readThere, .ref a_md_readWeight, .ref a_md_readSays, .int v_md_begin, .int v_md_end, .int v_md_sort, .int v_md_open, .ref a_md_opened, .int v_md_level, .ref a_md_any, .ref a_md_all, .long v_md_said, .ref a_md_burdens, .ref a_md_best, .ref a_md_own, .ref a_md_truth])), (a_md_says, .inl (cJ, 7, .inr (.inl f_md_says)))] → va_S A s.heap H locs → lv_has ls 6 [(0, .ref a_md), (1, .int x0), (2, .int x1), (3, .int z26.1), (4, .int z26.2)] → W p l e R s m args below meth c H locs 0 0 Q (F0 m 104 ls [])) → W p l e R s m args below meth c H locs 0 0 Q (F0 m 26 ls []) := by
        intro n
        induction n with
        | zero => intro w4 w5 z26 H locs ls hf; exact absurd (show none = some z26 from hf) (by simp)
        | succ n ih =>
          intro w4 w5 z26 H locs ls hf hP hD hS hl hk
          rw [zl_X5_isTold_26] at hf
          refine lv_iload hx hb dX5_isTold_26 (lv_at hl 4 rfl) ?_
          refine lv_aload_n hx hb dX5_isTold_28 rfl (lv_at hl 0 rfl) ?_
          refine va_get (ci := 5) (v := .int v_md_sayers) (C := RX5) (T := TX5) (N := 29) hx hb hts inX5 hown hK hP 0 rfl rfl 3 (by decide) lk0 (fun _ h9 => h9) rfl dX5_isTold_29 ?_
          refine lv_icmp_ge (tgt := 104) hx hb dX5_isTold_32 (by decide) (fun c23 => ?_) (fun c23 => ?_)
          · have hf := zk_t c23 hf
            obtain rfl := Option.some.inj hf
            exact hk _ _ _ hP hD hS (lv_sub hl [0, 1, 2, 3, 4] rfl)
          · have hf := zk_f c23 hf
            refine lv_iload_n hx hb dX5_isTold_35 rfl (lv_at hl 2 rfl) ?_
            refine lv_i2l hx hb dX5_isTold_36 rfl ?_
            refine lv_iload hx hb dX5_isTold_37 (lv_at hl 4 rfl) ?_
            obtain ⟨v6, hv6, hf⟩ := zk_ob hf
            refine zk_goR (zk_S (As := [.long x1.toInt64, .int w5]) (rest := []) hx hb hml hown hts hK hG hP hD hS hA gX5_isTold_X5_has rfl hd_X5_has (Nat.le_trans (Nat.le_of_ble_eq_true rfl) hRf) (Nat.le_trans (Nat.le_of_ble_eq_true rfl) hRl) hcs (zc_X5_has l D tL tO cI cJ cB cQ x1.toInt64 w5 v6 hv6) hl.1 rfl rfl (Nat.le_of_ble_eq_true rfl) dX5_isTold_39 [] rfl rfl) hP hD hS hA [] rfl (fun H locs hP hS => ?_)
            refine lv_iload_n hx hb dX5_isTold_42 rfl (lv_at hl 1 rfl) ?_
            obtain ⟨v7, hv7, hf⟩ := zk_ob hf
            have kv7 : ∀ (H : Heap) (locs : List Loc) (ls : Array Slot), va_P D vwCl [(a_md, .inr (5, [.int v_md_length, .ref a_md_text, .int v_md_laws, .int v_md_sayers, .long v_md_there, .long v_md_question, .ref a_md_weight, .ref a_md_says, .ref a_md_cost, .int v_md_measure, .long v_md_trace, .int v_md_readLaws, .int v_md_readSayers, .long v_md_readThere, .ref a_md_readWeight, .ref a_md_readSays, .int v_md_begin, .int v_md_end, .int v_md_sort, .int v_md_open, .ref a_md_opened, .int v_md_level, .ref a_md_any, .ref a_md_all, .long v_md_said, .ref a_md_burdens, .ref a_md_best, .ref a_md_own, .ref a_md_truth])), (a_md_says, .inl (cJ, 7, .inr (.inl f_md_says)))] H → va_D A [(a_md, .inr (5, [.int v_md_length, .ref a_md_text, .int v_md_laws, .int v_md_sayers, .long v_md_there, .long v_md_question, .ref a_md_weight, .ref a_md_says, .ref a_md_cost, .int v_md_measure, .long v_md_trace, .int v_md_readLaws, .int v_md_readSayers, .long v_md_readThere, .ref a_md_readWeight, .ref a_md_readSays, .int v_md_begin, .int v_md_end, .int v_md_sort, .int v_md_open, .ref a_md_opened, .int v_md_level, .ref a_md_any, .ref a_md_all, .long v_md_said, .ref a_md_burdens, .ref a_md_best, .ref a_md_own, .ref a_md_truth])), (a_md_says, .inl (cJ, 7, .inr (.inl f_md_says)))] → va_S A s.heap H locs → lv_has ls 6 [(0, .ref a_md), (1, .int x0), (2, .int x1), (3, .int w4), (4, .int w5)] → W p l e R s m args below meth c H locs 0 0 Q (F0 m 51 ls [.int v7, .int v6]) := by
              intro H locs ls hP hD hS hl
              obtain ⟨v8, hv8, hf⟩ := zk_ob hf
              have kv8 : ∀ (H : Heap) (locs : List Loc) (ls : Array Slot), va_P D vwCl [(a_md, .inr (5, [.int v_md_length, .ref a_md_text, .int v_md_laws, .int v_md_sayers, .long v_md_there, .long v_md_question, .ref a_md_weight, .ref a_md_says, .ref a_md_cost, .int v_md_measure, .long v_md_trace, .int v_md_readLaws, .int v_md_readSayers, .long v_md_readThere, .ref a_md_readWeight, .ref a_md_readSays, .int v_md_begin, .int v_md_end, .int v_md_sort, .int v_md_open, .ref a_md_opened, .int v_md_level, .ref a_md_any, .ref a_md_all, .long v_md_said, .ref a_md_burdens, .ref a_md_best, .ref a_md_own, .ref a_md_truth])), (a_md_says, .inl (cJ, 7, .inr (.inl f_md_says)))] H → va_D A [(a_md, .inr (5, [.int v_md_length, .ref a_md_text, .int v_md_laws, .int v_md_sayers, .long v_md_there, .long v_md_question, .ref a_md_weight, .ref a_md_says, .ref a_md_cost, .int v_md_measure, .long v_md_trace, .int v_md_readLaws, .int v_md_readSayers, .long v_md_readThere, .ref a_md_readWeight, .ref a_md_readSays, .int v_md_begin, .int v_md_end, .int v_md_sort, .int v_md_open, .ref a_md_opened, .int v_md_level, .ref a_md_any, .ref a_md_all, .long v_md_said, .ref a_md_burdens, .ref a_md_best, .ref a_md_own, .ref a_md_truth])), (a_md_says, .inl (cJ, 7, .inr (.inl f_md_says)))] → va_S A s.heap H locs → lv_has ls 6 [(0, .ref a_md), (1, .int x0), (2, .int x1), (3, .int w4), (4, .int w5)] → W p l e R s m args below meth c H locs 0 0 Q (F0 m 59 ls [.int v8]) := by
                intro H locs ls hP hD hS hl
                refine lv_istore (lv' := [(5, .int v8), (0, .ref a_md), (1, .int x0), (2, .int x1), (3, .int w4), (4, .int w5)]) hx hb dX5_isTold_59 hl (by decide) rfl (fun ls hl => ?_)
                refine lv_iload_n hx hb dX5_isTold_61 rfl (lv_at hl 4 rfl) ?_
                refine lv_if_eq (tgt := 96) hx hb dX5_isTold_62 (by decide) (fun c20 => ?_) (fun c20 => ?_)
                · have hf := zk_t c20 hf
                  refine lv_iconst (v := (0 : Int32)) hx hb dX5_isTold_96 (by decide) ?_
                  refine lv_istore_n (lv' := [(3, .int (0 : Int32)), (5, .int v8), (0, .ref a_md), (1, .int x0), (2, .int x1), (4, .int w5)]) hx hb dX5_isTold_97 rfl hl (by decide) rfl (fun ls hl => ?_)
                  obtain ⟨y9, ey9, hf⟩ := zk_lt_s hf
                  refine lv_iinc (v := y9) (lv' := [(4, .int y9), (3, .int (0 : Int32)), (5, .int v8), (0, .ref a_md), (1, .int x0), (2, .int x1)]) hx hb dX5_isTold_98 hl (k := 5) rfl (by rw [ey9]; rfl) (by decide) rfl (fun ls hl => ?_)
                  refine lv_goto (tgt := 26) hx hb dX5_isTold_101 (by decide) ?_
                  exact ih (0 : Int32) y9 _ _ _ _ hf hP hD hS (lv_sub hl [3, 4, 5, 1, 0] rfl) hk
                · have hf := zk_f c20 hf
                  refine lv_iload hx hb dX5_isTold_65 (lv_at hl 0 rfl) ?_
                  refine lv_if_eq (tgt := 92) hx hb dX5_isTold_67 (by decide) (fun c19 => ?_) (fun c19 => ?_)
                  · have hf := zk_t c19 hf
                    refine lv_iconst (v := (1 : Int32)) hx hb dX5_isTold_92 (by decide) ?_
                    refine lv_goto (tgt := 97) hx hb dX5_isTold_93 (by decide) ?_
                    refine lv_istore_n (lv' := [(3, .int (1 : Int32)), (5, .int v8), (0, .ref a_md), (1, .int x0), (2, .int x1), (4, .int w5)]) hx hb dX5_isTold_97 rfl hl (by decide) rfl (fun ls hl => ?_)
                    obtain ⟨y10, ey10, hf⟩ := zk_lt_s hf
                    refine lv_iinc (v := y10) (lv' := [(4, .int y10), (3, .int (1 : Int32)), (5, .int v8), (0, .ref a_md), (1, .int x0), (2, .int x1)]) hx hb dX5_isTold_98 hl (k := 5) rfl (by rw [ey10]; rfl) (by decide) rfl (fun ls hl => ?_)
                    refine lv_goto (tgt := 26) hx hb dX5_isTold_101 (by decide) ?_
                    exact ih (1 : Int32) y10 _ _ _ _ hf hP hD hS (lv_sub hl [3, 4, 5, 1, 0] rfl) hk
                  · have hf := zk_f c19 hf
                    refine lv_aload_n hx hb dX5_isTold_70 rfl (lv_at hl 1 rfl) ?_
                    refine lv_iload_n hx hb dX5_isTold_71 rfl (lv_at hl 3 rfl) ?_
                    refine lv_iconst (v := (1 : Int32)) hx hb dX5_isTold_72 (by decide) ?_
                    refine lv_iload hx hb dX5_isTold_73 (lv_at hl 5 rfl) ?_
                    refine lv_ishl hx hb dX5_isTold_75 ?_
                    refine lv_ixor hx hb dX5_isTold_76 ?_
                    obtain ⟨v11, hv11, hf⟩ := zk_ob hf
                    refine zk_goR (zk_V (As := [.int (x1 ^^^ ((1 : Int32) <<< (w5 &&& 31)))]) (rest := []) hx hb hml hown hts hK hG hP hD hS hA gX5_isTold_X5_isQuarrel rfl hd_X5_isQuarrel (Nat.le_trans (Nat.le_of_ble_eq_true rfl) hRf) (Nat.le_trans (Nat.le_of_ble_eq_true rfl) hRl) hcs (zc_X5_isQuarrel l D tL tO cI cJ cB cQ a_md a_md_text a_md_weight a_md_says a_md_cost a_md_readWeight a_md_readSays a_md_opened a_md_any a_md_all a_md_burdens a_md_best a_md_own a_md_truth (x1 ^^^ ((1 : Int32) <<< (w5 &&& 31))) v_md_length v_md_laws v_md_sayers v_md_there v_md_question v_md_measure v_md_trace v_md_readLaws v_md_readSayers v_md_readThere v_md_begin v_md_end v_md_sort v_md_open v_md_level v_md_said f_md_says v11 hv11) rfl rfl 0 rfl hl.1 rfl rfl (Nat.le_of_ble_eq_true rfl) dX5_isTold_77 [0, 1] rfl rfl) hP hD hS hA [0, 1] rfl (fun H locs hP hS => ?_)
                    refine lv_iload_n hx hb dX5_isTold_80 rfl (lv_at hl 2 rfl) ?_
                    refine lv_if_ne (tgt := 88) hx hb dX5_isTold_81 (by decide) (fun c18 => ?_) (fun c18 => ?_)
                    · have hf := zk_f c18 hf
                      refine lv_iconst (v := (0 : Int32)) hx hb dX5_isTold_88 (by decide) ?_
                      refine lv_icmp_eq (tgt := 96) hx hb dX5_isTold_89 (by decide) (fun c14 => ?_) (fun c14 => ?_)
                      · have hf := zk_t c14 hf
                        refine lv_iconst (v := (0 : Int32)) hx hb dX5_isTold_96 (by decide) ?_
                        refine lv_istore_n (lv' := [(3, .int (0 : Int32)), (5, .int v8), (0, .ref a_md), (1, .int x0), (2, .int x1), (4, .int w5)]) hx hb dX5_isTold_97 rfl hl (by decide) rfl (fun ls hl => ?_)
                        obtain ⟨y12, ey12, hf⟩ := zk_lt_s hf
                        refine lv_iinc (v := y12) (lv' := [(4, .int y12), (3, .int (0 : Int32)), (5, .int v8), (0, .ref a_md), (1, .int x0), (2, .int x1)]) hx hb dX5_isTold_98 hl (k := 5) rfl (by rw [ey12]; rfl) (by decide) rfl (fun ls hl => ?_)
                        refine lv_goto (tgt := 26) hx hb dX5_isTold_101 (by decide) ?_
                        exact ih (0 : Int32) y12 _ _ _ _ hf hP hD hS (lv_sub hl [3, 4, 5, 1, 0] rfl) hk
                      · have hf := zk_f c14 hf
                        refine lv_iconst (v := (1 : Int32)) hx hb dX5_isTold_92 (by decide) ?_
                        refine lv_goto (tgt := 97) hx hb dX5_isTold_93 (by decide) ?_
                        refine lv_istore_n (lv' := [(3, .int (1 : Int32)), (5, .int v8), (0, .ref a_md), (1, .int x0), (2, .int x1), (4, .int w5)]) hx hb dX5_isTold_97 rfl hl (by decide) rfl (fun ls hl => ?_)
                        obtain ⟨y13, ey13, hf⟩ := zk_lt_s hf
                        refine lv_iinc (v := y13) (lv' := [(4, .int y13), (3, .int (1 : Int32)), (5, .int v8), (0, .ref a_md), (1, .int x0), (2, .int x1)]) hx hb dX5_isTold_98 hl (k := 5) rfl (by rw [ey13]; rfl) (by decide) rfl (fun ls hl => ?_)
                        refine lv_goto (tgt := 26) hx hb dX5_isTold_101 (by decide) ?_
                        exact ih (1 : Int32) y13 _ _ _ _ hf hP hD hS (lv_sub hl [3, 4, 5, 1, 0] rfl) hk
                    · have hf := zk_t c18 hf
                      refine lv_iconst (v := (1 : Int32)) hx hb dX5_isTold_84 (by decide) ?_
                      refine lv_goto (tgt := 89) hx hb dX5_isTold_85 (by decide) ?_
                      refine lv_icmp_eq (tgt := 96) hx hb dX5_isTold_89 (by decide) (fun c17 => ?_) (fun c17 => ?_)
                      · have hf := zk_t c17 hf
                        refine lv_iconst (v := (0 : Int32)) hx hb dX5_isTold_96 (by decide) ?_
                        refine lv_istore_n (lv' := [(3, .int (0 : Int32)), (5, .int v8), (0, .ref a_md), (1, .int x0), (2, .int x1), (4, .int w5)]) hx hb dX5_isTold_97 rfl hl (by decide) rfl (fun ls hl => ?_)
                        obtain ⟨y15, ey15, hf⟩ := zk_lt_s hf
                        refine lv_iinc (v := y15) (lv' := [(4, .int y15), (3, .int (0 : Int32)), (5, .int v8), (0, .ref a_md), (1, .int x0), (2, .int x1)]) hx hb dX5_isTold_98 hl (k := 5) rfl (by rw [ey15]; rfl) (by decide) rfl (fun ls hl => ?_)
                        refine lv_goto (tgt := 26) hx hb dX5_isTold_101 (by decide) ?_
                        exact ih (0 : Int32) y15 _ _ _ _ hf hP hD hS (lv_sub hl [3, 4, 5, 1, 0] rfl) hk
                      · have hf := zk_f c17 hf
                        refine lv_iconst (v := (1 : Int32)) hx hb dX5_isTold_92 (by decide) ?_
                        refine lv_goto (tgt := 97) hx hb dX5_isTold_93 (by decide) ?_
                        refine lv_istore_n (lv' := [(3, .int (1 : Int32)), (5, .int v8), (0, .ref a_md), (1, .int x0), (2, .int x1), (4, .int w5)]) hx hb dX5_isTold_97 rfl hl (by decide) rfl (fun ls hl => ?_)
                        obtain ⟨y16, ey16, hf⟩ := zk_lt_s hf
                        refine lv_iinc (v := y16) (lv' := [(4, .int y16), (3, .int (1 : Int32)), (5, .int v8), (0, .ref a_md), (1, .int x0), (2, .int x1)]) hx hb dX5_isTold_98 hl (k := 5) rfl (by rw [ey16]; rfl) (by decide) rfl (fun ls hl => ?_)
                        refine lv_goto (tgt := 26) hx hb dX5_isTold_101 (by decide) ?_
                        exact ih (1 : Int32) y16 _ _ _ _ hf hP hD hS (lv_sub hl [3, 4, 5, 1, 0] rfl) hk
              replace hf := hv8
              refine lv_icmp_ne (tgt := 58) hx hb dX5_isTold_51 (by decide) (fun c21 => ?_) (fun c21 => ?_)
              · have hf := zk_f c21 hf
                refine lv_iconst (v := (0 : Int32)) hx hb dX5_isTold_58 (by decide) ?_
                obtain rfl := Option.some.inj hf
                exact kv8 _ _ _ hP hD hS (lv_sub hl [0, 1, 2, 3, 4] rfl)
              · have hf := zk_t c21 hf
                refine lv_iconst (v := (1 : Int32)) hx hb dX5_isTold_54 (by decide) ?_
                refine lv_goto (tgt := 59) hx hb dX5_isTold_55 (by decide) ?_
                obtain rfl := Option.some.inj hf
                exact kv8 _ _ _ hP hD hS (lv_sub hl [0, 1, 2, 3, 4] rfl)
            replace hf := hv7
            refine lv_if_ne (tgt := 50) hx hb dX5_isTold_43 (by decide) (fun c22 => ?_) (fun c22 => ?_)
            · have hf := zk_f c22 hf
              refine lv_iconst (v := (0 : Int32)) hx hb dX5_isTold_50 (by decide) ?_
              obtain rfl := Option.some.inj hf
              exact kv7 _ _ _ hP hD hS (lv_sub hl [0, 1, 2, 3, 4] rfl)
            · have hf := zk_t c22 hf
              refine lv_iconst (v := (1 : Int32)) hx hb dX5_isTold_46 (by decide) ?_
              refine lv_goto (tgt := 51) hx hb dX5_isTold_47 (by decide) ?_
              obtain rfl := Option.some.inj hf
              exact kv7 _ _ _ hP hD hS (lv_sub hl [0, 1, 2, 3, 4] rfl)
      obtain ⟨v24, hv24, hf⟩ := zk_ob hf
      refine lp26 zk_F v3 (0 : Int32) v24 _ _ _ hv24 hP hD hS (lv_sub hl [2, 3, 4, 1, 0] rfl) ?_
      intro H locs ls hP hD hS hl
      refine lv_iload_n hx hb dX5_isTold_104 rfl (lv_at hl 3 rfl) ?_
      obtain ⟨g25, hf⟩ := zk_gd_s hf
      obtain rfl := Option.some.inj hf
      exact hret (zk_b_s g25).1 _ _ _ _ hP hD hS dX5_isTold_105
    replace hf := hv3
    refine lv_icmp_ne (tgt := 21) hx hb dX5_isTold_14 (by decide) (fun c26 => ?_) (fun c26 => ?_)
    · have hf := zk_f c26 hf
      refine lv_iconst (v := (0 : Int32)) hx hb dX5_isTold_21 (by decide) ?_
      obtain rfl := Option.some.inj hf
      exact kv3 _ _ _ hP hD hS (lv_sub hl [0, 1, 2] rfl)
    · have hf := zk_t c26 hf
      refine lv_iconst (v := (1 : Int32)) hx hb dX5_isTold_17 (by decide) ?_
      refine lv_goto (tgt := 22) hx hb dX5_isTold_18 (by decide) ?_
      obtain rfl := Option.some.inj hf
      exact kv3 _ _ _ hP hD hS (lv_sub hl [0, 1, 2] rfl)
  replace hf := hv2
  refine lv_if_ne (tgt := 13) hx hb dX5_isTold_6 (by decide) (fun c27 => ?_) (fun c27 => ?_)
  · have hf := zk_f c27 hf
    refine lv_iconst (v := (0 : Int32)) hx hb dX5_isTold_13 (by decide) ?_
    obtain rfl := Option.some.inj hf
    exact kv2 _ _ _ hP hD hS (lv_sub hl [0, 1, 2] rfl)
  · have hf := zk_t c27 hf
    refine lv_iconst (v := (1 : Int32)) hx hb dX5_isTold_9 (by decide) ?_
    refine lv_goto (tgt := 14) hx hb dX5_isTold_10 (by decide) ?_
    obtain rfl := Option.some.inj hf
    exact kv2 _ _ _ hP hD hS (lv_sub hl [0, 1, 2] rfl)
def zl_X5_sets_52 (x0 : Int32) (x1 : Int32) (v_md_sayers : Int32) (v_md_there : Int64) (f_md_says : Nat → Int64) (v4 : Int32) : Nat → (Int32) → (Int32) → Option ((Int32 × Int32) ⊕ (Int32))
  | 0, _, _ => none
  | n + 1, w5, w6 =>
    if ((1 : Int32) <<< (v_md_sayers &&& 31)) ≤ w6 then
    some (Sum.inl (w5, w6))
    else
    (zf_X5_many w6.toInt64).bind (fun v7 =>
    if v7 = v4 then
    (zf_X5_isTold x0 w6 v_md_sayers v_md_there f_md_says).bind (fun v9 =>
    if v9 = 0 then
    zk_lt (w6 + 1) (fun y10 =>
    zl_X5_sets_52 x0 x1 v_md_sayers v_md_there f_md_says v4 n w5 y10)
    else
    if w5 = x1 then
    some (Sum.inr w6)
    else
    zk_lt (w5 + 1) (fun y11 =>
    zk_lt (w6 + 1) (fun y12 =>
    zl_X5_sets_52 x0 x1 v_md_sayers v_md_there f_md_says v4 n y11 y12)))
    else
    zk_lt (w6 + 1) (fun y8 =>
    zl_X5_sets_52 x0 x1 v_md_sayers v_md_there f_md_says v4 n w5 y8))
def zl_X5_sets_22 (x0 : Int32) (x1 : Int32) (v_md_sayers : Int32) (v_md_there : Int64) (f_md_says : Nat → Int64) : Nat → (Int32) → (Int32) → Option ((Int32 × Int32) ⊕ (Int32))
  | 0, _, _ => none
  | n + 1, w2, w3 =>
    if v_md_sayers < w3 then
    some (Sum.inl (w2, w3))
    else
    (if x0 = 0 then
    some w3
    else
    some (v_md_sayers - w3)).bind (fun v4 =>
    (zl_X5_sets_52 x0 x1 v_md_sayers v_md_there f_md_says v4 zk_F w2 (0 : Int32)).bind (fun v17 =>
    zk_su v17
    (fun u19 =>
    zk_lt (w3 + 1) (fun y20 =>
    zl_X5_sets_22 x0 x1 v_md_sayers v_md_there f_md_says n u19.1 y20))
    (fun r21 => some (Sum.inr r21))))
def zf_X5_sets (x0 : Int32) (x1 : Int32) (v_md_sayers : Int32) (v_md_there : Int64) (f_md_says : Nat → Int64) : Option (Int32) :=
  (zf_X5_in x0.toInt64 (0 : Int64) (1 : Int64)).bind (fun v1 =>
  if v1 = 0 then
  some (-1 : Int32)
  else
  if (-1 : Int32) ≤ x1 then
  (zl_X5_sets_22 x0 x1 v_md_sayers v_md_there f_md_says zk_F (0 : Int32) (0 : Int32)).bind (fun v24 =>
  zk_su v24
  (fun u25 =>
  if 0 ≤ x1 then
  some (-1 : Int32)
  else
  some u25.1)
  (fun r27 => some r27))
  else
  some (-1 : Int32))
theorem hd_X5_sets : yX5_sets.cls = RX5 ∧ yX5_sets.cls ≠ "java/lang/invoke/MethodHandle" ∧ yX5_sets.cls ≠ "java/lang/invoke/VarHandle" ∧ (parseMethodDescriptor yX5_sets.desc).map (fun d => d.parameters.length) = some 2 := by decide +kernel
set_option maxHeartbeats 4000000 in
set_option maxRecDepth 100000 in
theorem zc_X5_sets (l : Launch) (D : va_G) (tL tO : Nat) (cI cJ cB cQ : ClassId) (a_md a_md_text a_md_weight a_md_says a_md_cost a_md_readWeight a_md_readSays a_md_opened a_md_any a_md_all a_md_burdens a_md_best a_md_own a_md_truth : Nat) (x0 : Int32) (x1 : Int32) (v_md_length : Int32) (v_md_laws : Int32) (v_md_sayers : Int32) (v_md_there : Int64) (v_md_question : Int64) (v_md_measure : Int32) (v_md_trace : Int64) (v_md_readLaws : Int32) (v_md_readSayers : Int32) (v_md_readThere : Int64) (v_md_begin : Int32) (v_md_end : Int32) (v_md_sort : Int32) (v_md_open : Int32) (v_md_level : Int32) (v_md_said : Int64) (f_md_says : Nat → Int64) (z : Int32) (hf : zf_X5_sets x0 x1 v_md_sayers v_md_there f_md_says = some z) : zk_CT l D tL tO (zk_ty cI cJ cB cQ) yX5_sets wsX5_sets 3 71 [.ref a_md, .int x0, .int x1] (some (.int z)) [(a_md, .inr (5, [.int v_md_length, .ref a_md_text, .int v_md_laws, .int v_md_sayers, .long v_md_there, .long v_md_question, .ref a_md_weight, .ref a_md_says, .ref a_md_cost, .int v_md_measure, .long v_md_trace, .int v_md_readLaws, .int v_md_readSayers, .long v_md_readThere, .ref a_md_readWeight, .ref a_md_readSays, .int v_md_begin, .int v_md_end, .int v_md_sort, .int v_md_open, .ref a_md_opened, .int v_md_level, .ref a_md_any, .ref a_md_all, .long v_md_said, .ref a_md_burdens, .ref a_md_best, .ref a_md_own, .ref a_md_truth])), (a_md_says, .inl (cJ, 7, .inr (.inl f_md_says)))] [(a_md, .inr (5, [.int v_md_length, .ref a_md_text, .int v_md_laws, .int v_md_sayers, .long v_md_there, .long v_md_question, .ref a_md_weight, .ref a_md_says, .ref a_md_cost, .int v_md_measure, .long v_md_trace, .int v_md_readLaws, .int v_md_readSayers, .long v_md_readThere, .ref a_md_readWeight, .ref a_md_readSays, .int v_md_begin, .int v_md_end, .int v_md_sort, .int v_md_open, .ref a_md_opened, .int v_md_level, .ref a_md_any, .ref a_md_all, .long v_md_said, .ref a_md_burdens, .ref a_md_best, .ref a_md_own, .ref a_md_truth])), (a_md_says, .inl (cJ, 7, .inr (.inl f_md_says)))] := by
  refine zk_of_i (cc := cX5_sets) (maxL := 7) (by decide) rfl (Nat.le_of_ble_eq_true rfl) ?_
  intro p e R s m args below meth c A Q ls hx hb hml hRf hRl hts hown hP hK hD hA hS hG hl hret
  have hl : lv_has ls 7 [(0, .ref a_md), (1, .int x0), (2, .int x1)] := hl
  have hown : s.vm.findClass RX5 = some m.cls := hown
  have hcs : 0 ≤ R.cells ∧ 0 ≤ R.slots := ⟨Nat.zero_le _, Nat.zero_le _⟩
  have lk0 := hts (.fieldLink RX5 142 "SayingsMergedModel" "sayers" "I") (by decide +kernel)
  have inX5 : ∀ w ∈ wsX50, w ∈ wsX5_sets := by decide +kernel
  unfold zf_X5_sets at hf
  refine lv_iload_n hx hb dX5_sets_0 rfl (lv_at hl 1 rfl) ?_
  refine lv_i2l hx hb dX5_sets_1 rfl ?_
  refine lv_lconst (v := (0 : Int64)) hx hb dX5_sets_2 (by decide) ?_
  refine lv_lconst (v := (1 : Int64)) hx hb dX5_sets_3 (by decide) ?_
  obtain ⟨v1, hv1, hf⟩ := zk_ob hf
  refine zk_goR (zk_S (As := [.long x0.toInt64, .long (0 : Int64), .long (1 : Int64)]) (rest := []) hx hb hml hown hts hK hG hP hD hS hA gX5_sets_X5_in rfl hd_X5_in (Nat.le_trans (Nat.le_of_ble_eq_true rfl) hRf) (Nat.le_trans (Nat.le_of_ble_eq_true rfl) hRl) hcs (zc_X5_in l D tL tO cI cJ cB cQ x0.toInt64 (0 : Int64) (1 : Int64) v1 hv1) hl.1 rfl rfl (Nat.le_of_ble_eq_true rfl) dX5_sets_4 [] rfl rfl) hP hD hS hA [] rfl (fun H locs hP hS => ?_)
  refine lv_if_eq (tgt := 15) hx hb dX5_sets_7 (by decide) (fun c29 => ?_) (fun c29 => ?_)
  · have hf := zk_t c29 hf
    refine lv_iconst (v := (-1 : Int32)) hx hb dX5_sets_15 (by decide) ?_
    obtain rfl := Option.some.inj hf
    exact hret trivial _ _ _ _ hP hD hS dX5_sets_16
  · have hf := zk_f c29 hf
    refine lv_iload_n hx hb dX5_sets_10 rfl (lv_at hl 2 rfl) ?_
    refine lv_iconst (v := (-1 : Int32)) hx hb dX5_sets_11 (by decide) ?_
    refine lv_icmp_ge (tgt := 17) hx hb dX5_sets_12 (by decide) (fun c28 => ?_) (fun c28 => ?_)
    · have hf := zk_t c28 hf
      refine lv_iconst (v := (0 : Int32)) hx hb dX5_sets_17 (by decide) ?_
      refine lv_istore_n (lv' := [(3, .int (0 : Int32)), (0, .ref a_md), (1, .int x0), (2, .int x1)]) hx hb dX5_sets_18 rfl hl (by decide) rfl (fun ls hl => ?_)
      refine lv_iconst (v := (0 : Int32)) hx hb dX5_sets_19 (by decide) ?_
      refine lv_istore (lv' := [(4, .int (0 : Int32)), (3, .int (0 : Int32)), (0, .ref a_md), (1, .int x0), (2, .int x1)]) hx hb dX5_sets_20 hl (by decide) rfl (fun ls hl => ?_)
      have lp22 : ∀ (n : Nat) (w2 : Int32) (w3 : Int32) (z22 : (Int32 × Int32) ⊕ (Int32)) (H : Heap) (locs : List Loc) (ls : Array Slot), zl_X5_sets_22 x0 x1 v_md_sayers v_md_there f_md_says n w2 w3 = some z22 → va_P D vwCl [(a_md, .inr (5, [.int v_md_length, .ref a_md_text, .int v_md_laws, .int v_md_sayers, .long v_md_there, .long v_md_question, .ref a_md_weight, .ref a_md_says, .ref a_md_cost, .int v_md_measure, .long v_md_trace, .int v_md_readLaws, .int v_md_readSayers, .long v_md_readThere, .ref a_md_readWeight, .ref a_md_readSays, .int v_md_begin, .int v_md_end, .int v_md_sort, .int v_md_open, .ref a_md_opened, .int v_md_level, .ref a_md_any, .ref a_md_all, .long v_md_said, .ref a_md_burdens, .ref a_md_best, .ref a_md_own, .ref a_md_truth])), (a_md_says, .inl (cJ, 7, .inr (.inl f_md_says)))] H → va_D A [(a_md, .inr (5, [.int v_md_length, .ref a_md_text, .int v_md_laws, .int v_md_sayers, .long v_md_there, .long v_md_question, .ref a_md_weight, .ref a_md_says, .ref a_md_cost, .int v_md_measure, .long v_md_trace, .int v_md_readLaws, .int v_md_readSayers, .long v_md_readThere, .ref a_md_readWeight, .ref a_md_readSays, .int v_md_begin, .int v_md_end, .int v_md_sort, .int v_md_open, .ref a_md_opened, .int v_md_level, .ref a_md_any, .ref a_md_all, .long v_md_said, .ref a_md_burdens, .ref a_md_best, .ref a_md_own, .ref a_md_truth])), (a_md_says, .inl (cJ, 7, .inr (.inl f_md_says)))] → va_S A s.heap H locs → lv_has ls 7 [(0, .ref a_md), (1, .int x0), (2, .int x1), (3, .int w2), (4, .int w3)] → (∀ u : Int32 × Int32, z22 = Sum.inl u → ∀ (H : Heap) (locs : List Loc) (ls : Array Slot), va_P D vwCl [(a_md, .inr (5, [.int v_md_length, .ref a_md_text, .int v_md_laws, .int v_md_sayers, .long v_md_there, .long v_md_question, .ref a_md_weight, .ref a_md_says, .ref a_md_cost, .int v_md_measure, .long v_md_trace, .int v_md_readLaws, .int v_md_readSayers, .long v_md_readThere, .ref a_md_readWeight, .ref a_md_readSays, .int v_md_begin, .int v_md_end, .int v_md_sort, .int v_md_open, .ref a_md_opened, .int v_md_level, .ref a_md_any, .ref a_md_all, .long v_md_said, .ref a_md_burdens, .ref a_md_best, .ref a_md_own, .ref a_md_truth])), (a_md_says, .inl (cJ, 7, .inr (.inl f_md_says)))] H → va_D A [(a_md, .inr (5, [.int v_md_length, .ref a_md_text, .int v_md_laws, .int v_md_sayers, .long v_md_there, .long v_md_question, .ref a_md_weight, .ref a_md_says, .ref a_md_cost, .int v_md_measure, .long v_md_trace, .int v_md_readLaws, .int v_md_readSayers, .long v_md_readThere, .ref a_md_readWeight, .ref a_md_readSays, .int v_md_begin, .int v_md_end, .int v_md_sort, .int v_md_open, .ref a_md_opened, .int v_md_level, .ref a_md_any, .ref a_md_all, .long v_md_said, .ref a_md_burdens, .ref a_md_best, .ref a_md_own, .ref a_md_truth])), (a_md_says, .inl (cJ, 7, .inr (.inl f_md_says)))] → va_S A s.heap H locs → lv_has ls 7 [(0, .ref a_md), (1, .int x0), (2, .int x1), (3, .int u.1), (4, .int u.2)] → W p l e R s m args below meth c H locs 0 0 Q (F0 m 107 ls [])) → (∀ r : Int32, z22 = Sum.inr r → r = z) → W p l e R s m args below meth c H locs 0 0 Q (F0 m 22 ls []) := by
        intro n
        induction n with
        | zero => intro w2 w3 z22 H locs ls hf; exact absurd (show none = some z22 from hf) (by simp)
        | succ n ih =>
          intro w2 w3 z22 H locs ls hf hP hD hS hl hk hkr
          rw [zl_X5_sets_22] at hf
          refine lv_iload hx hb dX5_sets_22 (lv_at hl 4 rfl) ?_
          refine lv_aload_n hx hb dX5_sets_24 rfl (lv_at hl 0 rfl) ?_
          refine va_get (ci := 5) (v := .int v_md_sayers) (C := RX5) (T := TX5) (N := 29) hx hb hts inX5 hown hK hP 0 rfl rfl 3 (by decide) lk0 (fun _ h9 => h9) rfl dX5_sets_25 ?_
          refine lv_icmp_gt (tgt := 107) hx hb dX5_sets_28 (by decide) (fun c23 => ?_) (fun c23 => ?_)
          · have hf := zk_t c23 hf
            exact hk _ (Option.some.inj hf).symm _ _ _ hP hD hS (lv_sub hl [0, 1, 2, 3, 4] rfl)
          · have hf := zk_f c23 hf
            refine lv_iload_n hx hb dX5_sets_31 rfl (lv_at hl 1 rfl) ?_
            obtain ⟨v4, hv4, hf⟩ := zk_ob hf
            have kv4 : ∀ (H : Heap) (locs : List Loc) (ls : Array Slot), va_P D vwCl [(a_md, .inr (5, [.int v_md_length, .ref a_md_text, .int v_md_laws, .int v_md_sayers, .long v_md_there, .long v_md_question, .ref a_md_weight, .ref a_md_says, .ref a_md_cost, .int v_md_measure, .long v_md_trace, .int v_md_readLaws, .int v_md_readSayers, .long v_md_readThere, .ref a_md_readWeight, .ref a_md_readSays, .int v_md_begin, .int v_md_end, .int v_md_sort, .int v_md_open, .ref a_md_opened, .int v_md_level, .ref a_md_any, .ref a_md_all, .long v_md_said, .ref a_md_burdens, .ref a_md_best, .ref a_md_own, .ref a_md_truth])), (a_md_says, .inl (cJ, 7, .inr (.inl f_md_says)))] H → va_D A [(a_md, .inr (5, [.int v_md_length, .ref a_md_text, .int v_md_laws, .int v_md_sayers, .long v_md_there, .long v_md_question, .ref a_md_weight, .ref a_md_says, .ref a_md_cost, .int v_md_measure, .long v_md_trace, .int v_md_readLaws, .int v_md_readSayers, .long v_md_readThere, .ref a_md_readWeight, .ref a_md_readSays, .int v_md_begin, .int v_md_end, .int v_md_sort, .int v_md_open, .ref a_md_opened, .int v_md_level, .ref a_md_any, .ref a_md_all, .long v_md_said, .ref a_md_burdens, .ref a_md_best, .ref a_md_own, .ref a_md_truth])), (a_md_says, .inl (cJ, 7, .inr (.inl f_md_says)))] → va_S A s.heap H locs → lv_has ls 7 [(0, .ref a_md), (1, .int x0), (2, .int x1), (3, .int w2), (4, .int w3)] → W p l e R s m args below meth c H locs 0 0 Q (F0 m 47 ls [.int v4]) := by
              intro H locs ls hP hD hS hl
              refine lv_istore (lv' := [(5, .int v4), (0, .ref a_md), (1, .int x0), (2, .int x1), (3, .int w2), (4, .int w3)]) hx hb dX5_sets_47 hl (by decide) rfl (fun ls hl => ?_)
              refine lv_iconst (v := (0 : Int32)) hx hb dX5_sets_49 (by decide) ?_
              refine lv_istore (lv' := [(6, .int (0 : Int32)), (5, .int v4), (0, .ref a_md), (1, .int x0), (2, .int x1), (3, .int w2), (4, .int w3)]) hx hb dX5_sets_50 hl (by decide) rfl (fun ls hl => ?_)
              have lp52_18 : ∀ (n : Nat) (w5 : Int32) (w6 : Int32) (z52 : (Int32 × Int32) ⊕ (Int32)) (H : Heap) (locs : List Loc) (ls : Array Slot), zl_X5_sets_52 x0 x1 v_md_sayers v_md_there f_md_says v4 n w5 w6 = some z52 → va_P D vwCl [(a_md, .inr (5, [.int v_md_length, .ref a_md_text, .int v_md_laws, .int v_md_sayers, .long v_md_there, .long v_md_question, .ref a_md_weight, .ref a_md_says, .ref a_md_cost, .int v_md_measure, .long v_md_trace, .int v_md_readLaws, .int v_md_readSayers, .long v_md_readThere, .ref a_md_readWeight, .ref a_md_readSays, .int v_md_begin, .int v_md_end, .int v_md_sort, .int v_md_open, .ref a_md_opened, .int v_md_level, .ref a_md_any, .ref a_md_all, .long v_md_said, .ref a_md_burdens, .ref a_md_best, .ref a_md_own, .ref a_md_truth])), (a_md_says, .inl (cJ, 7, .inr (.inl f_md_says)))] H → va_D A [(a_md, .inr (5, [.int v_md_length, .ref a_md_text, .int v_md_laws, .int v_md_sayers, .long v_md_there, .long v_md_question, .ref a_md_weight, .ref a_md_says, .ref a_md_cost, .int v_md_measure, .long v_md_trace, .int v_md_readLaws, .int v_md_readSayers, .long v_md_readThere, .ref a_md_readWeight, .ref a_md_readSays, .int v_md_begin, .int v_md_end, .int v_md_sort, .int v_md_open, .ref a_md_opened, .int v_md_level, .ref a_md_any, .ref a_md_all, .long v_md_said, .ref a_md_burdens, .ref a_md_best, .ref a_md_own, .ref a_md_truth])), (a_md_says, .inl (cJ, 7, .inr (.inl f_md_says)))] → va_S A s.heap H locs → lv_has ls 7 [(0, .ref a_md), (1, .int x0), (2, .int x1), (3, .int w5), (4, .int w3), (5, .int v4), (6, .int w6)] → (∀ u : Int32 × Int32, z52 = Sum.inl u → ∀ (H : Heap) (locs : List Loc) (ls : Array Slot), va_P D vwCl [(a_md, .inr (5, [.int v_md_length, .ref a_md_text, .int v_md_laws, .int v_md_sayers, .long v_md_there, .long v_md_question, .ref a_md_weight, .ref a_md_says, .ref a_md_cost, .int v_md_measure, .long v_md_trace, .int v_md_readLaws, .int v_md_readSayers, .long v_md_readThere, .ref a_md_readWeight, .ref a_md_readSays, .int v_md_begin, .int v_md_end, .int v_md_sort, .int v_md_open, .ref a_md_opened, .int v_md_level, .ref a_md_any, .ref a_md_all, .long v_md_said, .ref a_md_burdens, .ref a_md_best, .ref a_md_own, .ref a_md_truth])), (a_md_says, .inl (cJ, 7, .inr (.inl f_md_says)))] H → va_D A [(a_md, .inr (5, [.int v_md_length, .ref a_md_text, .int v_md_laws, .int v_md_sayers, .long v_md_there, .long v_md_question, .ref a_md_weight, .ref a_md_says, .ref a_md_cost, .int v_md_measure, .long v_md_trace, .int v_md_readLaws, .int v_md_readSayers, .long v_md_readThere, .ref a_md_readWeight, .ref a_md_readSays, .int v_md_begin, .int v_md_end, .int v_md_sort, .int v_md_open, .ref a_md_opened, .int v_md_level, .ref a_md_any, .ref a_md_all, .long v_md_said, .ref a_md_burdens, .ref a_md_best, .ref a_md_own, .ref a_md_truth])), (a_md_says, .inl (cJ, 7, .inr (.inl f_md_says)))] → va_S A s.heap H locs → lv_has ls 7 [(0, .ref a_md), (1, .int x0), (2, .int x1), (3, .int u.1), (4, .int w3), (5, .int v4), (6, .int u.2)] → W p l e R s m args below meth c H locs 0 0 Q (F0 m 101 ls [])) → (∀ r : Int32, z52 = Sum.inr r → r = z) → W p l e R s m args below meth c H locs 0 0 Q (F0 m 52 ls []) := by
                intro n
                induction n with
                | zero => intro w5 w6 z52 H locs ls hf; exact absurd (show none = some z52 from hf) (by simp)
                | succ n ih =>
                  intro w5 w6 z52 H locs ls hf hP hD hS hl hk hkr
                  rw [zl_X5_sets_52] at hf
                  refine lv_iload hx hb dX5_sets_52 (lv_at hl 6 rfl) ?_
                  refine lv_iconst (v := (1 : Int32)) hx hb dX5_sets_54 (by decide) ?_
                  refine lv_aload_n hx hb dX5_sets_55 rfl (lv_at hl 0 rfl) ?_
                  refine va_get (ci := 5) (v := .int v_md_sayers) (C := RX5) (T := TX5) (N := 29) hx hb hts inX5 hown hK hP 0 rfl rfl 3 (by decide) lk0 (fun _ h9 => h9) rfl dX5_sets_56 ?_
                  refine lv_ishl hx hb dX5_sets_59 ?_
                  refine lv_icmp_ge (tgt := 101) hx hb dX5_sets_60 (by decide) (fun c16 => ?_) (fun c16 => ?_)
                  · have hf := zk_t c16 hf
                    exact hk _ (Option.some.inj hf).symm _ _ _ hP hD hS (lv_sub hl [0, 1, 2, 3, 4, 5, 6] rfl)
                  · have hf := zk_f c16 hf
                    refine lv_iload hx hb dX5_sets_63 (lv_at hl 6 rfl) ?_
                    refine lv_i2l hx hb dX5_sets_65 rfl ?_
                    obtain ⟨v7, hv7, hf⟩ := zk_ob hf
                    refine zk_goR (zk_S (As := [.long w6.toInt64]) (rest := []) hx hb hml hown hts hK hG hP hD hS hA gX5_sets_X5_many rfl hd_X5_many (Nat.le_trans (Nat.le_of_ble_eq_true rfl) hRf) (Nat.le_trans (Nat.le_of_ble_eq_true rfl) hRl) hcs (zc_X5_many l D tL tO cI cJ cB cQ w6.toInt64 v7 hv7) hl.1 rfl rfl (Nat.le_of_ble_eq_true rfl) dX5_sets_66 [] rfl rfl) hP hD hS hA [] rfl (fun H locs hP hS => ?_)
                    refine lv_iload hx hb dX5_sets_69 (lv_at hl 5 rfl) ?_
                    refine lv_icmp_ne (tgt := 95) hx hb dX5_sets_71 (by decide) (fun c15 => ?_) (fun c15 => ?_)
                    · have hf := zk_f c15 hf
                      obtain ⟨y8, ey8, hf⟩ := zk_lt_s hf
                      refine lv_iinc (v := y8) (lv' := [(6, .int y8), (0, .ref a_md), (1, .int x0), (2, .int x1), (3, .int w5), (4, .int w3), (5, .int v4)]) hx hb dX5_sets_95 hl (k := 6) rfl (by rw [ey8]; rfl) (by decide) rfl (fun ls hl => ?_)
                      refine lv_goto (tgt := 52) hx hb dX5_sets_98 (by decide) ?_
                      exact ih w5 y8 _ _ _ _ hf hP hD hS (lv_sub hl [1, 2, 3, 4, 5, 6, 0] rfl) hk hkr
                    · have hf := zk_t c15 hf
                      refine lv_aload_n hx hb dX5_sets_74 rfl (lv_at hl 0 rfl) ?_
                      refine lv_iload_n hx hb dX5_sets_75 rfl (lv_at hl 1 rfl) ?_
                      refine lv_iload hx hb dX5_sets_76 (lv_at hl 6 rfl) ?_
                      obtain ⟨v9, hv9, hf⟩ := zk_ob hf
                      refine zk_goR (zk_V (As := [.int x0, .int w6]) (rest := []) hx hb hml hown hts hK hG hP hD hS hA gX5_sets_X5_isTold rfl hd_X5_isTold (Nat.le_trans (Nat.le_of_ble_eq_true rfl) hRf) (Nat.le_trans (Nat.le_of_ble_eq_true rfl) hRl) hcs (zc_X5_isTold l D tL tO cI cJ cB cQ a_md a_md_text a_md_weight a_md_says a_md_cost a_md_readWeight a_md_readSays a_md_opened a_md_any a_md_all a_md_burdens a_md_best a_md_own a_md_truth x0 w6 v_md_length v_md_laws v_md_sayers v_md_there v_md_question v_md_measure v_md_trace v_md_readLaws v_md_readSayers v_md_readThere v_md_begin v_md_end v_md_sort v_md_open v_md_level v_md_said f_md_says v9 hv9) rfl rfl 0 rfl hl.1 rfl rfl (Nat.le_of_ble_eq_true rfl) dX5_sets_78 [0, 1] rfl rfl) hP hD hS hA [0, 1] rfl (fun H locs hP hS => ?_)
                      refine lv_if_eq (tgt := 95) hx hb dX5_sets_81 (by decide) (fun c14 => ?_) (fun c14 => ?_)
                      · have hf := zk_t c14 hf
                        obtain ⟨y10, ey10, hf⟩ := zk_lt_s hf
                        refine lv_iinc (v := y10) (lv' := [(6, .int y10), (0, .ref a_md), (1, .int x0), (2, .int x1), (3, .int w5), (4, .int w3), (5, .int v4)]) hx hb dX5_sets_95 hl (k := 6) rfl (by rw [ey10]; rfl) (by decide) rfl (fun ls hl => ?_)
                        refine lv_goto (tgt := 52) hx hb dX5_sets_98 (by decide) ?_
                        exact ih w5 y10 _ _ _ _ hf hP hD hS (lv_sub hl [1, 2, 3, 4, 5, 6, 0] rfl) hk hkr
                      · have hf := zk_f c14 hf
                        refine lv_iload_n hx hb dX5_sets_84 rfl (lv_at hl 3 rfl) ?_
                        refine lv_iload_n hx hb dX5_sets_85 rfl (lv_at hl 2 rfl) ?_
                        refine lv_icmp_ne (tgt := 92) hx hb dX5_sets_86 (by decide) (fun c13 => ?_) (fun c13 => ?_)
                        · have hf := zk_f c13 hf
                          obtain ⟨y11, ey11, hf⟩ := zk_lt_s hf
                          refine lv_iinc (v := y11) (lv' := [(3, .int y11), (0, .ref a_md), (1, .int x0), (2, .int x1), (4, .int w3), (5, .int v4), (6, .int w6)]) hx hb dX5_sets_92 hl (k := 3) rfl (by rw [ey11]; rfl) (by decide) rfl (fun ls hl => ?_)
                          obtain ⟨y12, ey12, hf⟩ := zk_lt_s hf
                          refine lv_iinc (v := y12) (lv' := [(6, .int y12), (3, .int y11), (0, .ref a_md), (1, .int x0), (2, .int x1), (4, .int w3), (5, .int v4)]) hx hb dX5_sets_95 hl (k := 6) rfl (by rw [ey12]; rfl) (by decide) rfl (fun ls hl => ?_)
                          refine lv_goto (tgt := 52) hx hb dX5_sets_98 (by decide) ?_
                          exact ih y11 y12 _ _ _ _ hf hP hD hS (lv_sub hl [2, 3, 4, 1, 5, 6, 0] rfl) hk hkr
                        · have hf := zk_t c13 hf
                          refine lv_iload hx hb dX5_sets_89 (lv_at hl 6 rfl) ?_
                          obtain rfl := hkr _ (Option.some.inj hf).symm
                          exact hret trivial _ _ _ _ hP hD hS dX5_sets_91
              obtain ⟨v17, hv17, hf⟩ := zk_ob hf
              refine lp52_18 zk_F w2 (0 : Int32) v17 _ _ _ hv17 hP hD hS (lv_sub hl [2, 3, 4, 5, 6, 1, 0] rfl) ?_ ?_
              · intro u19 hu19 H locs ls hP hD hS hl
                subst hu19
                have hf := zk_su_l hf
                obtain ⟨y20, ey20, hf⟩ := zk_lt_s hf
                refine lv_iinc (v := y20) (lv' := [(4, .int y20), (0, .ref a_md), (1, .int x0), (2, .int x1), (3, .int u19.1), (5, .int v4), (6, .int u19.2)]) hx hb dX5_sets_101 hl (k := 4) rfl (by rw [ey20]; rfl) (by decide) rfl (fun ls hl => ?_)
                refine lv_goto (tgt := 22) hx hb dX5_sets_104 (by decide) ?_
                exact ih u19.1 y20 _ _ _ _ hf hP hD hS (lv_sub hl [1, 2, 3, 4, 0] rfl) hk hkr
              · intro r21 hr21
                subst hr21
                have hf := zk_su_r hf
                exact hkr _ (Option.some.inj hf).symm
            replace hf := hv4
            refine lv_if_ne (tgt := 40) hx hb dX5_sets_32 (by decide) (fun c22 => ?_) (fun c22 => ?_)
            · have hf := zk_f c22 hf
              refine lv_aload_n hx hb dX5_sets_40 rfl (lv_at hl 0 rfl) ?_
              refine va_get (ci := 5) (v := .int v_md_sayers) (C := RX5) (T := TX5) (N := 29) hx hb hts inX5 hown hK hP 0 rfl rfl 3 (by decide) lk0 (fun _ h9 => h9) rfl dX5_sets_41 ?_
              refine lv_iload hx hb dX5_sets_44 (lv_at hl 4 rfl) ?_
              refine lv_isub hx hb dX5_sets_46 ?_
              obtain rfl := Option.some.inj hf
              exact kv4 _ _ _ hP hD hS (lv_sub hl [0, 1, 2, 3, 4] rfl)
            · have hf := zk_t c22 hf
              refine lv_iload hx hb dX5_sets_35 (lv_at hl 4 rfl) ?_
              refine lv_goto (tgt := 47) hx hb dX5_sets_37 (by decide) ?_
              obtain rfl := Option.some.inj hf
              exact kv4 _ _ _ hP hD hS (lv_sub hl [0, 1, 2, 3, 4] rfl)
      obtain ⟨v24, hv24, hf⟩ := zk_ob hf
      refine lp22 zk_F (0 : Int32) (0 : Int32) v24 _ _ _ hv24 hP hD hS (lv_sub hl [2, 3, 4, 1, 0] rfl) ?_ ?_
      · intro u25 hu25 H locs ls hP hD hS hl
        subst hu25
        have hf := zk_su_l hf
        refine lv_iload_n hx hb dX5_sets_107 rfl (lv_at hl 2 rfl) ?_
        refine lv_if_ge (tgt := 115) hx hb dX5_sets_108 (by decide) (fun c26 => ?_) (fun c26 => ?_)
        · have hf := zk_t c26 hf
          refine lv_iconst (v := (-1 : Int32)) hx hb dX5_sets_115 (by decide) ?_
          obtain rfl := Option.some.inj hf
          exact hret trivial _ _ _ _ hP hD hS dX5_sets_116
        · have hf := zk_f c26 hf
          refine lv_iload_n hx hb dX5_sets_111 rfl (lv_at hl 3 rfl) ?_
          refine lv_goto (tgt := 116) hx hb dX5_sets_112 (by decide) ?_
          obtain rfl := Option.some.inj hf
          exact hret trivial _ _ _ _ hP hD hS dX5_sets_116
      · intro r27 hr27
        subst hr27
        have hf := zk_su_r hf
        exact Option.some.inj hf
    · have hf := zk_f c28 hf
      refine lv_iconst (v := (-1 : Int32)) hx hb dX5_sets_15 (by decide) ?_
      obtain rfl := Option.some.inj hf
      exact hret trivial _ _ _ _ hP hD hS dX5_sets_16
def zl_X5_free_4 (v_md_sayers : Int32) (v_md_there : Int64) (f_md_says : Nat → Int64) : Nat → (Int32) → (Int32) → Option (Int32 × Int32)
  | 0, _, _ => none
  | n + 1, w1, w2 =>
    if ((1 : Int32) <<< (v_md_sayers &&& 31)) ≤ w2 then
    some (w1, w2)
    else
    (zf_X5_isTold (0 : Int32) w2 v_md_sayers v_md_there f_md_says).bind (fun v3 =>
    if v3 = 0 then
    zk_lt (w1 ||| (0 : Int32)) (fun y4 =>
    zk_lt (w2 + 1) (fun y5 =>
    zl_X5_free_4 v_md_sayers v_md_there f_md_says n y4 y5))
    else
    zk_lt (w1 ||| w2) (fun y6 =>
    zk_lt (w2 + 1) (fun y7 =>
    zl_X5_free_4 v_md_sayers v_md_there f_md_says n y6 y7)))
def zf_X5_free (v_md_sayers : Int32) (v_md_there : Int64) (f_md_says : Nat → Int64) : Option (Int32) :=
  (zl_X5_free_4 v_md_sayers v_md_there f_md_says zk_F (0 : Int32) (0 : Int32)).bind (fun v10 =>
  some ((((1 : Int32) <<< (v_md_sayers &&& 31)) - (1 : Int32)) &&& (v10.1 ^^^ (-1 : Int32))))
theorem hd_X5_free : yX5_free.cls = RX5 ∧ yX5_free.cls ≠ "java/lang/invoke/MethodHandle" ∧ yX5_free.cls ≠ "java/lang/invoke/VarHandle" ∧ (parseMethodDescriptor yX5_free.desc).map (fun d => d.parameters.length) = some 0 := by decide +kernel
set_option maxHeartbeats 4000000 in
set_option maxRecDepth 100000 in
theorem zc_X5_free (l : Launch) (D : va_G) (tL tO : Nat) (cI cJ cB cQ : ClassId) (a_md a_md_text a_md_weight a_md_says a_md_cost a_md_readWeight a_md_readSays a_md_opened a_md_any a_md_all a_md_burdens a_md_best a_md_own a_md_truth : Nat) (v_md_length : Int32) (v_md_laws : Int32) (v_md_sayers : Int32) (v_md_there : Int64) (v_md_question : Int64) (v_md_measure : Int32) (v_md_trace : Int64) (v_md_readLaws : Int32) (v_md_readSayers : Int32) (v_md_readThere : Int64) (v_md_begin : Int32) (v_md_end : Int32) (v_md_sort : Int32) (v_md_open : Int32) (v_md_level : Int32) (v_md_said : Int64) (f_md_says : Nat → Int64) (z : Int32) (hf : zf_X5_free v_md_sayers v_md_there f_md_says = some z) : zk_CT l D tL tO (zk_ty cI cJ cB cQ) yX5_free wsX5_free 3 71 [.ref a_md] (some (.int z)) [(a_md, .inr (5, [.int v_md_length, .ref a_md_text, .int v_md_laws, .int v_md_sayers, .long v_md_there, .long v_md_question, .ref a_md_weight, .ref a_md_says, .ref a_md_cost, .int v_md_measure, .long v_md_trace, .int v_md_readLaws, .int v_md_readSayers, .long v_md_readThere, .ref a_md_readWeight, .ref a_md_readSays, .int v_md_begin, .int v_md_end, .int v_md_sort, .int v_md_open, .ref a_md_opened, .int v_md_level, .ref a_md_any, .ref a_md_all, .long v_md_said, .ref a_md_burdens, .ref a_md_best, .ref a_md_own, .ref a_md_truth])), (a_md_says, .inl (cJ, 7, .inr (.inl f_md_says)))] [(a_md, .inr (5, [.int v_md_length, .ref a_md_text, .int v_md_laws, .int v_md_sayers, .long v_md_there, .long v_md_question, .ref a_md_weight, .ref a_md_says, .ref a_md_cost, .int v_md_measure, .long v_md_trace, .int v_md_readLaws, .int v_md_readSayers, .long v_md_readThere, .ref a_md_readWeight, .ref a_md_readSays, .int v_md_begin, .int v_md_end, .int v_md_sort, .int v_md_open, .ref a_md_opened, .int v_md_level, .ref a_md_any, .ref a_md_all, .long v_md_said, .ref a_md_burdens, .ref a_md_best, .ref a_md_own, .ref a_md_truth])), (a_md_says, .inl (cJ, 7, .inr (.inl f_md_says)))] := by
  refine zk_of_i (cc := cX5_free) (maxL := 3) (by decide) rfl (Nat.le_of_ble_eq_true rfl) ?_
  intro p e R s m args below meth c A Q ls hx hb hml hRf hRl hts hown hP hK hD hA hS hG hl hret
  have hl : lv_has ls 3 [(0, .ref a_md)] := hl
  have hown : s.vm.findClass RX5 = some m.cls := hown
  have hcs : 0 ≤ R.cells ∧ 0 ≤ R.slots := ⟨Nat.zero_le _, Nat.zero_le _⟩
  have lk0 := hts (.fieldLink RX5 142 "SayingsMergedModel" "sayers" "I") (by decide +kernel)
  have inX5 : ∀ w ∈ wsX50, w ∈ wsX5_free := by decide +kernel
  unfold zf_X5_free at hf
  refine lv_iconst (v := (0 : Int32)) hx hb dX5_free_0 (by decide) ?_
  refine lv_istore_n (lv' := [(1, .int (0 : Int32)), (0, .ref a_md)]) hx hb dX5_free_1 rfl hl (by decide) rfl (fun ls hl => ?_)
  refine lv_iconst (v := (0 : Int32)) hx hb dX5_free_2 (by decide) ?_
  refine lv_istore_n (lv' := [(2, .int (0 : Int32)), (1, .int (0 : Int32)), (0, .ref a_md)]) hx hb dX5_free_3 rfl hl (by decide) rfl (fun ls hl => ?_)
  have lp4 : ∀ (n : Nat) (w1 : Int32) (w2 : Int32) (z4 : Int32 × Int32) (H : Heap) (locs : List Loc) (ls : Array Slot), zl_X5_free_4 v_md_sayers v_md_there f_md_says n w1 w2 = some z4 → va_P D vwCl [(a_md, .inr (5, [.int v_md_length, .ref a_md_text, .int v_md_laws, .int v_md_sayers, .long v_md_there, .long v_md_question, .ref a_md_weight, .ref a_md_says, .ref a_md_cost, .int v_md_measure, .long v_md_trace, .int v_md_readLaws, .int v_md_readSayers, .long v_md_readThere, .ref a_md_readWeight, .ref a_md_readSays, .int v_md_begin, .int v_md_end, .int v_md_sort, .int v_md_open, .ref a_md_opened, .int v_md_level, .ref a_md_any, .ref a_md_all, .long v_md_said, .ref a_md_burdens, .ref a_md_best, .ref a_md_own, .ref a_md_truth])), (a_md_says, .inl (cJ, 7, .inr (.inl f_md_says)))] H → va_D A [(a_md, .inr (5, [.int v_md_length, .ref a_md_text, .int v_md_laws, .int v_md_sayers, .long v_md_there, .long v_md_question, .ref a_md_weight, .ref a_md_says, .ref a_md_cost, .int v_md_measure, .long v_md_trace, .int v_md_readLaws, .int v_md_readSayers, .long v_md_readThere, .ref a_md_readWeight, .ref a_md_readSays, .int v_md_begin, .int v_md_end, .int v_md_sort, .int v_md_open, .ref a_md_opened, .int v_md_level, .ref a_md_any, .ref a_md_all, .long v_md_said, .ref a_md_burdens, .ref a_md_best, .ref a_md_own, .ref a_md_truth])), (a_md_says, .inl (cJ, 7, .inr (.inl f_md_says)))] → va_S A s.heap H locs → lv_has ls 3 [(0, .ref a_md), (1, .int w1), (2, .int w2)] → (∀ (H : Heap) (locs : List Loc) (ls : Array Slot), va_P D vwCl [(a_md, .inr (5, [.int v_md_length, .ref a_md_text, .int v_md_laws, .int v_md_sayers, .long v_md_there, .long v_md_question, .ref a_md_weight, .ref a_md_says, .ref a_md_cost, .int v_md_measure, .long v_md_trace, .int v_md_readLaws, .int v_md_readSayers, .long v_md_readThere, .ref a_md_readWeight, .ref a_md_readSays, .int v_md_begin, .int v_md_end, .int v_md_sort, .int v_md_open, .ref a_md_opened, .int v_md_level, .ref a_md_any, .ref a_md_all, .long v_md_said, .ref a_md_burdens, .ref a_md_best, .ref a_md_own, .ref a_md_truth])), (a_md_says, .inl (cJ, 7, .inr (.inl f_md_says)))] H → va_D A [(a_md, .inr (5, [.int v_md_length, .ref a_md_text, .int v_md_laws, .int v_md_sayers, .long v_md_there, .long v_md_question, .ref a_md_weight, .ref a_md_says, .ref a_md_cost, .int v_md_measure, .long v_md_trace, .int v_md_readLaws, .int v_md_readSayers, .long v_md_readThere, .ref a_md_readWeight, .ref a_md_readSays, .int v_md_begin, .int v_md_end, .int v_md_sort, .int v_md_open, .ref a_md_opened, .int v_md_level, .ref a_md_any, .ref a_md_all, .long v_md_said, .ref a_md_burdens, .ref a_md_best, .ref a_md_own, .ref a_md_truth])), (a_md_says, .inl (cJ, 7, .inr (.inl f_md_says)))] → va_S A s.heap H locs → lv_has ls 3 [(0, .ref a_md), (1, .int z4.1), (2, .int z4.2)] → W p l e R s m args below meth c H locs 0 0 Q (F0 m 37 ls [])) → W p l e R s m args below meth c H locs 0 0 Q (F0 m 4 ls []) := by
    intro n
    induction n with
    | zero => intro w1 w2 z4 H locs ls hf; exact absurd (show none = some z4 from hf) (by simp)
    | succ n ih =>
      intro w1 w2 z4 H locs ls hf hP hD hS hl hk
      rw [zl_X5_free_4] at hf
      refine lv_iload_n hx hb dX5_free_4 rfl (lv_at hl 2 rfl) ?_
      refine lv_iconst (v := (1 : Int32)) hx hb dX5_free_5 (by decide) ?_
      refine lv_aload_n hx hb dX5_free_6 rfl (lv_at hl 0 rfl) ?_
      refine va_get (ci := 5) (v := .int v_md_sayers) (C := RX5) (T := TX5) (N := 29) hx hb hts inX5 hown hK hP 0 rfl rfl 3 (by decide) lk0 (fun _ h9 => h9) rfl dX5_free_7 ?_
      refine lv_ishl hx hb dX5_free_10 ?_
      refine lv_icmp_ge (tgt := 37) hx hb dX5_free_11 (by decide) (fun c9 => ?_) (fun c9 => ?_)
      · have hf := zk_t c9 hf
        obtain rfl := Option.some.inj hf
        exact hk _ _ _ hP hD hS (lv_sub hl [0, 1, 2] rfl)
      · have hf := zk_f c9 hf
        refine lv_iload_n hx hb dX5_free_14 rfl (lv_at hl 1 rfl) ?_
        refine lv_aload_n hx hb dX5_free_15 rfl (lv_at hl 0 rfl) ?_
        refine lv_iconst (v := (0 : Int32)) hx hb dX5_free_16 (by decide) ?_
        refine lv_iload_n hx hb dX5_free_17 rfl (lv_at hl 2 rfl) ?_
        obtain ⟨v3, hv3, hf⟩ := zk_ob hf
        refine zk_goR (zk_V (As := [.int (0 : Int32), .int w2]) (rest := [.int w1]) hx hb hml hown hts hK hG hP hD hS hA gX5_free_X5_isTold rfl hd_X5_isTold (Nat.le_trans (Nat.le_of_ble_eq_true rfl) hRf) (Nat.le_trans (Nat.le_of_ble_eq_true rfl) hRl) hcs (zc_X5_isTold l D tL tO cI cJ cB cQ a_md a_md_text a_md_weight a_md_says a_md_cost a_md_readWeight a_md_readSays a_md_opened a_md_any a_md_all a_md_burdens a_md_best a_md_own a_md_truth (0 : Int32) w2 v_md_length v_md_laws v_md_sayers v_md_there v_md_question v_md_measure v_md_trace v_md_readLaws v_md_readSayers v_md_readThere v_md_begin v_md_end v_md_sort v_md_open v_md_level v_md_said f_md_says v3 hv3) rfl rfl 0 rfl hl.1 rfl rfl (Nat.le_of_ble_eq_true rfl) dX5_free_18 [0, 1] rfl rfl) hP hD hS hA [0, 1] rfl (fun H locs hP hS => ?_)
        refine lv_if_eq (tgt := 28) hx hb dX5_free_21 (by decide) (fun c8 => ?_) (fun c8 => ?_)
        · have hf := zk_t c8 hf
          refine lv_iconst (v := (0 : Int32)) hx hb dX5_free_28 (by decide) ?_
          refine lv_ior hx hb dX5_free_29 ?_
          obtain ⟨y4, ey4, hf⟩ := zk_lt_s hf
          refine zk_topi ey4 ?_
          refine lv_istore_n (lv' := [(1, .int y4), (0, .ref a_md), (2, .int w2)]) hx hb dX5_free_30 rfl hl (by decide) rfl (fun ls hl => ?_)
          obtain ⟨y5, ey5, hf⟩ := zk_lt_s hf
          refine lv_iinc (v := y5) (lv' := [(2, .int y5), (1, .int y4), (0, .ref a_md)]) hx hb dX5_free_31 hl (k := 2) rfl (by rw [ey5]; rfl) (by decide) rfl (fun ls hl => ?_)
          refine lv_goto (tgt := 4) hx hb dX5_free_34 (by decide) ?_
          exact ih y4 y5 _ _ _ _ hf hP hD hS (lv_sub hl [2, 1, 0] rfl) hk
        · have hf := zk_f c8 hf
          refine lv_iload_n hx hb dX5_free_24 rfl (lv_at hl 2 rfl) ?_
          refine lv_goto (tgt := 29) hx hb dX5_free_25 (by decide) ?_
          refine lv_ior hx hb dX5_free_29 ?_
          obtain ⟨y6, ey6, hf⟩ := zk_lt_s hf
          refine zk_topi ey6 ?_
          refine lv_istore_n (lv' := [(1, .int y6), (0, .ref a_md), (2, .int w2)]) hx hb dX5_free_30 rfl hl (by decide) rfl (fun ls hl => ?_)
          obtain ⟨y7, ey7, hf⟩ := zk_lt_s hf
          refine lv_iinc (v := y7) (lv' := [(2, .int y7), (1, .int y6), (0, .ref a_md)]) hx hb dX5_free_31 hl (k := 2) rfl (by rw [ey7]; rfl) (by decide) rfl (fun ls hl => ?_)
          refine lv_goto (tgt := 4) hx hb dX5_free_34 (by decide) ?_
          exact ih y6 y7 _ _ _ _ hf hP hD hS (lv_sub hl [2, 1, 0] rfl) hk
  obtain ⟨v10, hv10, hf⟩ := zk_ob hf
  refine lp4 zk_F (0 : Int32) (0 : Int32) v10 _ _ _ hv10 hP hD hS (lv_sub hl [2, 1, 0] rfl) ?_
  intro H locs ls hP hD hS hl
  refine lv_iconst (v := (1 : Int32)) hx hb dX5_free_37 (by decide) ?_
  refine lv_aload_n hx hb dX5_free_38 rfl (lv_at hl 0 rfl) ?_
  refine va_get (ci := 5) (v := .int v_md_sayers) (C := RX5) (T := TX5) (N := 29) hx hb hts inX5 hown hK hP 0 rfl rfl 3 (by decide) lk0 (fun _ h9 => h9) rfl dX5_free_39 ?_
  refine lv_ishl hx hb dX5_free_42 ?_
  refine lv_iconst (v := (1 : Int32)) hx hb dX5_free_43 (by decide) ?_
  refine lv_isub hx hb dX5_free_44 ?_
  refine lv_iload_n hx hb dX5_free_45 rfl (lv_at hl 1 rfl) ?_
  refine lv_iconst (v := (-1 : Int32)) hx hb dX5_free_46 (by decide) ?_
  refine lv_ixor hx hb dX5_free_47 ?_
  refine lv_iand hx hb dX5_free_48 ?_
  obtain rfl := Option.some.inj hf
  exact hret trivial _ _ _ _ hP hD hS dX5_free_49
def zl_X5_share_25 (x0 : Int32) (v_md_sayers : Int32) (v_md_there : Int64) (f_md_says : Nat → Int64) : Nat → (Int32) → (Int32) → Option (Int32 × Int32)
  | 0, _, _ => none
  | n + 1, w3, w4 =>
    if ((1 : Int32) <<< (v_md_sayers &&& 31)) ≤ w4 then
    some (w3, w4)
    else
    (zf_X5_has w4.toInt64 x0).bind (fun v5 =>
    if v5 = 0 then
    (zf_X5_isQuarrel w4 v_md_sayers v_md_there f_md_says).bind (fun v7 =>
    if v7 = 0 then
    (zf_X5_isQuarrel (w4 ||| ((1 : Int32) <<< (x0 &&& 31))) v_md_sayers v_md_there f_md_says).bind (fun v9 =>
    if v9 = 0 then
    zk_lt (w4 + 1) (fun y10 =>
    zl_X5_share_25 x0 v_md_sayers v_md_there f_md_says n w3 y10)
    else
    (zf_X5_many w4.toInt64).bind (fun v11 =>
    (zf_X5_orders v11).bind (fun v12 =>
    (zf_X5_many w4.toInt64).bind (fun v13 =>
    (zf_X5_orders ((v_md_sayers - (1 : Int32)) - v13)).bind (fun v14 =>
    zk_lt (w3 + (v12 * v14)) (fun y15 =>
    zk_lt (w4 + 1) (fun y16 =>
    zl_X5_share_25 x0 v_md_sayers v_md_there f_md_says n y15 y16)))))))
    else
    zk_lt (w4 + 1) (fun y8 =>
    zl_X5_share_25 x0 v_md_sayers v_md_there f_md_says n w3 y8))
    else
    zk_lt (w4 + 1) (fun y6 =>
    zl_X5_share_25 x0 v_md_sayers v_md_there f_md_says n w3 y6))
def zl_X5_share_119  : Nat → (Int32) → (Int32) → Option (Int32 × Int32)
  | 0, _, _ => none
  | n + 1, w23, w24 =>
    if w24 = 0 then
    some (w23, w24)
    else
    zk_gd (zk_nz w24)
    (zk_lt (w23 - w23 / w24 * w24) (fun y26 =>
    zl_X5_share_119 n w24 y26))
def zf_X5_share (x0 : Int32) (x1 : Int32) (v_md_sayers : Int32) (v_md_there : Int64) (f_md_says : Nat → Int64) : Option (Int32) :=
  (zf_X5_isSayer x0 v_md_sayers).bind (fun v1 =>
  if v1 = 0 then
  some (-1 : Int32)
  else
  (zf_X5_in x1.toInt64 (0 : Int64) (1 : Int64)).bind (fun v2 =>
  if v2 = 0 then
  some (-1 : Int32)
  else
  (zl_X5_share_25 x0 v_md_sayers v_md_there f_md_says zk_F (0 : Int32) (0 : Int32)).bind (fun v21 =>
  (zf_X5_orders v_md_sayers).bind (fun v22 =>
  (zl_X5_share_119 zk_F v21.1 v22).bind (fun v28 =>
  if x1 = 0 then
  zk_gd (zk_nz v28.1)
  (some (v21.1 / v28.1))
  else
  zk_gd (zk_nz v28.1)
  (some (v22 / v28.1)))))))
theorem hd_X5_share : yX5_share.cls = RX5 ∧ yX5_share.cls ≠ "java/lang/invoke/MethodHandle" ∧ yX5_share.cls ≠ "java/lang/invoke/VarHandle" ∧ (parseMethodDescriptor yX5_share.desc).map (fun d => d.parameters.length) = some 2 := by decide +kernel
set_option maxHeartbeats 4000000 in
set_option maxRecDepth 100000 in
theorem zc_X5_share (l : Launch) (D : va_G) (tL tO : Nat) (cI cJ cB cQ : ClassId) (a_md a_md_text a_md_weight a_md_says a_md_cost a_md_readWeight a_md_readSays a_md_opened a_md_any a_md_all a_md_burdens a_md_best a_md_own a_md_truth : Nat) (x0 : Int32) (x1 : Int32) (v_md_length : Int32) (v_md_laws : Int32) (v_md_sayers : Int32) (v_md_there : Int64) (v_md_question : Int64) (v_md_measure : Int32) (v_md_trace : Int64) (v_md_readLaws : Int32) (v_md_readSayers : Int32) (v_md_readThere : Int64) (v_md_begin : Int32) (v_md_end : Int32) (v_md_sort : Int32) (v_md_open : Int32) (v_md_level : Int32) (v_md_said : Int64) (f_md_says : Nat → Int64) (z : Int32) (hf : zf_X5_share x0 x1 v_md_sayers v_md_there f_md_says = some z) : zk_CT l D tL tO (zk_ty cI cJ cB cQ) yX5_share wsX5_share 2 46 [.ref a_md, .int x0, .int x1] (some (.int z)) [(a_md, .inr (5, [.int v_md_length, .ref a_md_text, .int v_md_laws, .int v_md_sayers, .long v_md_there, .long v_md_question, .ref a_md_weight, .ref a_md_says, .ref a_md_cost, .int v_md_measure, .long v_md_trace, .int v_md_readLaws, .int v_md_readSayers, .long v_md_readThere, .ref a_md_readWeight, .ref a_md_readSays, .int v_md_begin, .int v_md_end, .int v_md_sort, .int v_md_open, .ref a_md_opened, .int v_md_level, .ref a_md_any, .ref a_md_all, .long v_md_said, .ref a_md_burdens, .ref a_md_best, .ref a_md_own, .ref a_md_truth])), (a_md_says, .inl (cJ, 7, .inr (.inl f_md_says)))] [(a_md, .inr (5, [.int v_md_length, .ref a_md_text, .int v_md_laws, .int v_md_sayers, .long v_md_there, .long v_md_question, .ref a_md_weight, .ref a_md_says, .ref a_md_cost, .int v_md_measure, .long v_md_trace, .int v_md_readLaws, .int v_md_readSayers, .long v_md_readThere, .ref a_md_readWeight, .ref a_md_readSays, .int v_md_begin, .int v_md_end, .int v_md_sort, .int v_md_open, .ref a_md_opened, .int v_md_level, .ref a_md_any, .ref a_md_all, .long v_md_said, .ref a_md_burdens, .ref a_md_best, .ref a_md_own, .ref a_md_truth])), (a_md_says, .inl (cJ, 7, .inr (.inl f_md_says)))] := by
  refine zk_of_i (cc := cX5_share) (maxL := 8) (by decide) rfl (Nat.le_of_ble_eq_true rfl) ?_
  intro p e R s m args below meth c A Q ls hx hb hml hRf hRl hts hown hP hK hD hA hS hG hl hret
  have hl : lv_has ls 8 [(0, .ref a_md), (1, .int x0), (2, .int x1)] := hl
  have hown : s.vm.findClass RX5 = some m.cls := hown
  have hcs : 0 ≤ R.cells ∧ 0 ≤ R.slots := ⟨Nat.zero_le _, Nat.zero_le _⟩
  have lk0 := hts (.fieldLink RX5 142 "SayingsMergedModel" "sayers" "I") (by decide +kernel)
  have inX5 : ∀ w ∈ wsX50, w ∈ wsX5_share := by decide +kernel
  unfold zf_X5_share at hf
  refine lv_aload_n hx hb dX5_share_0 rfl (lv_at hl 0 rfl) ?_
  refine lv_iload_n hx hb dX5_share_1 rfl (lv_at hl 1 rfl) ?_
  obtain ⟨v1, hv1, hf⟩ := zk_ob hf
  refine zk_goR (zk_V (As := [.int x0]) (rest := []) hx hb hml hown hts hK hG hP hD hS hA gX5_share_X5_isSayer rfl hd_X5_isSayer (Nat.le_trans (Nat.le_of_ble_eq_true rfl) hRf) (Nat.le_trans (Nat.le_of_ble_eq_true rfl) hRl) hcs (zc_X5_isSayer l D tL tO cI cJ cB cQ a_md a_md_text a_md_weight a_md_says a_md_cost a_md_readWeight a_md_readSays a_md_opened a_md_any a_md_all a_md_burdens a_md_best a_md_own a_md_truth x0 v_md_length v_md_laws v_md_sayers v_md_there v_md_question v_md_measure v_md_trace v_md_readLaws v_md_readSayers v_md_readThere v_md_begin v_md_end v_md_sort v_md_open v_md_level v_md_said v1 hv1) rfl rfl 0 rfl hl.1 rfl rfl (Nat.le_of_ble_eq_true rfl) dX5_share_2 [0] rfl rfl) hP hD hS hA [0] rfl (fun H locs hP hS => ?_)
  refine lv_if_eq (tgt := 18) hx hb dX5_share_5 (by decide) (fun c33 => ?_) (fun c33 => ?_)
  · have hf := zk_t c33 hf
    refine lv_iconst (v := (-1 : Int32)) hx hb dX5_share_18 (by decide) ?_
    obtain rfl := Option.some.inj hf
    exact hret trivial _ _ _ _ hP hD hS dX5_share_19
  · have hf := zk_f c33 hf
    refine lv_iload_n hx hb dX5_share_8 rfl (lv_at hl 2 rfl) ?_
    refine lv_i2l hx hb dX5_share_9 rfl ?_
    refine lv_lconst (v := (0 : Int64)) hx hb dX5_share_10 (by decide) ?_
    refine lv_lconst (v := (1 : Int64)) hx hb dX5_share_11 (by decide) ?_
    obtain ⟨v2, hv2, hf⟩ := zk_ob hf
    refine zk_goR (zk_S (As := [.long x1.toInt64, .long (0 : Int64), .long (1 : Int64)]) (rest := []) hx hb hml hown hts hK hG hP hD hS hA gX5_share_X5_in rfl hd_X5_in (Nat.le_trans (Nat.le_of_ble_eq_true rfl) hRf) (Nat.le_trans (Nat.le_of_ble_eq_true rfl) hRl) hcs (zc_X5_in l D tL tO cI cJ cB cQ x1.toInt64 (0 : Int64) (1 : Int64) v2 hv2) hl.1 rfl rfl (Nat.le_of_ble_eq_true rfl) dX5_share_12 [] rfl rfl) hP hD hS hA [] rfl (fun H locs hP hS => ?_)
    refine lv_if_ne (tgt := 20) hx hb dX5_share_15 (by decide) (fun c32 => ?_) (fun c32 => ?_)
    · have hf := zk_f c32 hf
      refine lv_iconst (v := (0 : Int32)) hx hb dX5_share_20 (by decide) ?_
      refine lv_istore_n (lv' := [(3, .int (0 : Int32)), (0, .ref a_md), (1, .int x0), (2, .int x1)]) hx hb dX5_share_21 rfl hl (by decide) rfl (fun ls hl => ?_)
      refine lv_iconst (v := (0 : Int32)) hx hb dX5_share_22 (by decide) ?_
      refine lv_istore (lv' := [(4, .int (0 : Int32)), (3, .int (0 : Int32)), (0, .ref a_md), (1, .int x0), (2, .int x1)]) hx hb dX5_share_23 hl (by decide) rfl (fun ls hl => ?_)
      have lp25 : ∀ (n : Nat) (w3 : Int32) (w4 : Int32) (z25 : Int32 × Int32) (H : Heap) (locs : List Loc) (ls : Array Slot), zl_X5_share_25 x0 v_md_sayers v_md_there f_md_says n w3 w4 = some z25 → va_P D vwCl [(a_md, .inr (5, [.int v_md_length, .ref a_md_text, .int v_md_laws, .int v_md_sayers, .long v_md_there, .long v_md_question, .ref a_md_weight, .ref a_md_says, .ref a_md_cost, .int v_md_measure, .long v_md_trace, .int v_md_readLaws, .int v_md_readSayers, .long v_md_readThere, .ref a_md_readWeight, .ref a_md_readSays, .int v_md_begin, .int v_md_end, .int v_md_sort, .int v_md_open, .ref a_md_opened, .int v_md_level, .ref a_md_any, .ref a_md_all, .long v_md_said, .ref a_md_burdens, .ref a_md_best, .ref a_md_own, .ref a_md_truth])), (a_md_says, .inl (cJ, 7, .inr (.inl f_md_says)))] H → va_D A [(a_md, .inr (5, [.int v_md_length, .ref a_md_text, .int v_md_laws, .int v_md_sayers, .long v_md_there, .long v_md_question, .ref a_md_weight, .ref a_md_says, .ref a_md_cost, .int v_md_measure, .long v_md_trace, .int v_md_readLaws, .int v_md_readSayers, .long v_md_readThere, .ref a_md_readWeight, .ref a_md_readSays, .int v_md_begin, .int v_md_end, .int v_md_sort, .int v_md_open, .ref a_md_opened, .int v_md_level, .ref a_md_any, .ref a_md_all, .long v_md_said, .ref a_md_burdens, .ref a_md_best, .ref a_md_own, .ref a_md_truth])), (a_md_says, .inl (cJ, 7, .inr (.inl f_md_says)))] → va_S A s.heap H locs → lv_has ls 8 [(0, .ref a_md), (1, .int x0), (2, .int x1), (3, .int w3), (4, .int w4)] → (∀ (H : Heap) (locs : List Loc) (ls : Array Slot), va_P D vwCl [(a_md, .inr (5, [.int v_md_length, .ref a_md_text, .int v_md_laws, .int v_md_sayers, .long v_md_there, .long v_md_question, .ref a_md_weight, .ref a_md_says, .ref a_md_cost, .int v_md_measure, .long v_md_trace, .int v_md_readLaws, .int v_md_readSayers, .long v_md_readThere, .ref a_md_readWeight, .ref a_md_readSays, .int v_md_begin, .int v_md_end, .int v_md_sort, .int v_md_open, .ref a_md_opened, .int v_md_level, .ref a_md_any, .ref a_md_all, .long v_md_said, .ref a_md_burdens, .ref a_md_best, .ref a_md_own, .ref a_md_truth])), (a_md_says, .inl (cJ, 7, .inr (.inl f_md_says)))] H → va_D A [(a_md, .inr (5, [.int v_md_length, .ref a_md_text, .int v_md_laws, .int v_md_sayers, .long v_md_there, .long v_md_question, .ref a_md_weight, .ref a_md_says, .ref a_md_cost, .int v_md_measure, .long v_md_trace, .int v_md_readLaws, .int v_md_readSayers, .long v_md_readThere, .ref a_md_readWeight, .ref a_md_readSays, .int v_md_begin, .int v_md_end, .int v_md_sort, .int v_md_open, .ref a_md_opened, .int v_md_level, .ref a_md_any, .ref a_md_all, .long v_md_said, .ref a_md_burdens, .ref a_md_best, .ref a_md_own, .ref a_md_truth])), (a_md_says, .inl (cJ, 7, .inr (.inl f_md_says)))] → va_S A s.heap H locs → lv_has ls 8 [(0, .ref a_md), (1, .int x0), (2, .int x1), (3, .int z25.1), (4, .int z25.2)] → W p l e R s m args below meth c H locs 0 0 Q (F0 m 103 ls [])) → W p l e R s m args below meth c H locs 0 0 Q (F0 m 25 ls []) := by
        intro n
        induction n with
        | zero => intro w3 w4 z25 H locs ls hf; exact absurd (show none = some z25 from hf) (by simp)
        | succ n ih =>
          intro w3 w4 z25 H locs ls hf hP hD hS hl hk
          rw [zl_X5_share_25] at hf
          refine lv_iload hx hb dX5_share_25 (lv_at hl 4 rfl) ?_
          refine lv_iconst (v := (1 : Int32)) hx hb dX5_share_27 (by decide) ?_
          refine lv_aload_n hx hb dX5_share_28 rfl (lv_at hl 0 rfl) ?_
          refine va_get (ci := 5) (v := .int v_md_sayers) (C := RX5) (T := TX5) (N := 29) hx hb hts inX5 hown hK hP 0 rfl rfl 3 (by decide) lk0 (fun _ h9 => h9) rfl dX5_share_29 ?_
          refine lv_ishl hx hb dX5_share_32 ?_
          refine lv_icmp_ge (tgt := 103) hx hb dX5_share_33 (by decide) (fun c20 => ?_) (fun c20 => ?_)
          · have hf := zk_t c20 hf
            obtain rfl := Option.some.inj hf
            exact hk _ _ _ hP hD hS (lv_sub hl [0, 1, 2, 3, 4] rfl)
          · have hf := zk_f c20 hf
            refine lv_iload hx hb dX5_share_36 (lv_at hl 4 rfl) ?_
            refine lv_i2l hx hb dX5_share_38 rfl ?_
            refine lv_iload_n hx hb dX5_share_39 rfl (lv_at hl 1 rfl) ?_
            obtain ⟨v5, hv5, hf⟩ := zk_ob hf
            refine zk_goR (zk_S (As := [.long w4.toInt64, .int x0]) (rest := []) hx hb hml hown hts hK hG hP hD hS hA gX5_share_X5_has rfl hd_X5_has (Nat.le_trans (Nat.le_of_ble_eq_true rfl) hRf) (Nat.le_trans (Nat.le_of_ble_eq_true rfl) hRl) hcs (zc_X5_has l D tL tO cI cJ cB cQ w4.toInt64 x0 v5 hv5) hl.1 rfl rfl (Nat.le_of_ble_eq_true rfl) dX5_share_40 [] rfl rfl) hP hD hS hA [] rfl (fun H locs hP hS => ?_)
            refine lv_if_ne (tgt := 97) hx hb dX5_share_43 (by decide) (fun c19 => ?_) (fun c19 => ?_)
            · have hf := zk_f c19 hf
              obtain ⟨y6, ey6, hf⟩ := zk_lt_s hf
              refine lv_iinc (v := y6) (lv' := [(4, .int y6), (0, .ref a_md), (1, .int x0), (2, .int x1), (3, .int w3)]) hx hb dX5_share_97 hl (k := 4) rfl (by rw [ey6]; rfl) (by decide) rfl (fun ls hl => ?_)
              refine lv_goto (tgt := 25) hx hb dX5_share_100 (by decide) ?_
              exact ih w3 y6 _ _ _ _ hf hP hD hS (lv_sub hl [1, 2, 3, 4, 0] rfl) hk
            · have hf := zk_t c19 hf
              refine lv_aload_n hx hb dX5_share_46 rfl (lv_at hl 0 rfl) ?_
              refine lv_iload hx hb dX5_share_47 (lv_at hl 4 rfl) ?_
              obtain ⟨v7, hv7, hf⟩ := zk_ob hf
              refine zk_goR (zk_V (As := [.int w4]) (rest := []) hx hb hml hown hts hK hG hP hD hS hA gX5_share_X5_isQuarrel rfl hd_X5_isQuarrel (Nat.le_trans (Nat.le_of_ble_eq_true rfl) hRf) (Nat.le_trans (Nat.le_of_ble_eq_true rfl) hRl) hcs (zc_X5_isQuarrel l D tL tO cI cJ cB cQ a_md a_md_text a_md_weight a_md_says a_md_cost a_md_readWeight a_md_readSays a_md_opened a_md_any a_md_all a_md_burdens a_md_best a_md_own a_md_truth w4 v_md_length v_md_laws v_md_sayers v_md_there v_md_question v_md_measure v_md_trace v_md_readLaws v_md_readSayers v_md_readThere v_md_begin v_md_end v_md_sort v_md_open v_md_level v_md_said f_md_says v7 hv7) rfl rfl 0 rfl hl.1 rfl rfl (Nat.le_of_ble_eq_true rfl) dX5_share_49 [0, 1] rfl rfl) hP hD hS hA [0, 1] rfl (fun H locs hP hS => ?_)
              refine lv_if_ne (tgt := 97) hx hb dX5_share_52 (by decide) (fun c18 => ?_) (fun c18 => ?_)
              · have hf := zk_f c18 hf
                obtain ⟨y8, ey8, hf⟩ := zk_lt_s hf
                refine lv_iinc (v := y8) (lv' := [(4, .int y8), (0, .ref a_md), (1, .int x0), (2, .int x1), (3, .int w3)]) hx hb dX5_share_97 hl (k := 4) rfl (by rw [ey8]; rfl) (by decide) rfl (fun ls hl => ?_)
                refine lv_goto (tgt := 25) hx hb dX5_share_100 (by decide) ?_
                exact ih w3 y8 _ _ _ _ hf hP hD hS (lv_sub hl [1, 2, 3, 4, 0] rfl) hk
              · have hf := zk_t c18 hf
                refine lv_aload_n hx hb dX5_share_55 rfl (lv_at hl 0 rfl) ?_
                refine lv_iload hx hb dX5_share_56 (lv_at hl 4 rfl) ?_
                refine lv_iconst (v := (1 : Int32)) hx hb dX5_share_58 (by decide) ?_
                refine lv_iload_n hx hb dX5_share_59 rfl (lv_at hl 1 rfl) ?_
                refine lv_ishl hx hb dX5_share_60 ?_
                refine lv_ior hx hb dX5_share_61 ?_
                obtain ⟨v9, hv9, hf⟩ := zk_ob hf
                refine zk_goR (zk_V (As := [.int (w4 ||| ((1 : Int32) <<< (x0 &&& 31)))]) (rest := []) hx hb hml hown hts hK hG hP hD hS hA gX5_share_X5_isQuarrel rfl hd_X5_isQuarrel (Nat.le_trans (Nat.le_of_ble_eq_true rfl) hRf) (Nat.le_trans (Nat.le_of_ble_eq_true rfl) hRl) hcs (zc_X5_isQuarrel l D tL tO cI cJ cB cQ a_md a_md_text a_md_weight a_md_says a_md_cost a_md_readWeight a_md_readSays a_md_opened a_md_any a_md_all a_md_burdens a_md_best a_md_own a_md_truth (w4 ||| ((1 : Int32) <<< (x0 &&& 31))) v_md_length v_md_laws v_md_sayers v_md_there v_md_question v_md_measure v_md_trace v_md_readLaws v_md_readSayers v_md_readThere v_md_begin v_md_end v_md_sort v_md_open v_md_level v_md_said f_md_says v9 hv9) rfl rfl 0 rfl hl.1 rfl rfl (Nat.le_of_ble_eq_true rfl) dX5_share_62 [0, 1] rfl rfl) hP hD hS hA [0, 1] rfl (fun H locs hP hS => ?_)
                refine lv_if_eq (tgt := 97) hx hb dX5_share_65 (by decide) (fun c17 => ?_) (fun c17 => ?_)
                · have hf := zk_t c17 hf
                  obtain ⟨y10, ey10, hf⟩ := zk_lt_s hf
                  refine lv_iinc (v := y10) (lv' := [(4, .int y10), (0, .ref a_md), (1, .int x0), (2, .int x1), (3, .int w3)]) hx hb dX5_share_97 hl (k := 4) rfl (by rw [ey10]; rfl) (by decide) rfl (fun ls hl => ?_)
                  refine lv_goto (tgt := 25) hx hb dX5_share_100 (by decide) ?_
                  exact ih w3 y10 _ _ _ _ hf hP hD hS (lv_sub hl [1, 2, 3, 4, 0] rfl) hk
                · have hf := zk_f c17 hf
                  refine lv_iload_n hx hb dX5_share_68 rfl (lv_at hl 3 rfl) ?_
                  refine lv_iload hx hb dX5_share_69 (lv_at hl 4 rfl) ?_
                  refine lv_i2l hx hb dX5_share_71 rfl ?_
                  obtain ⟨v11, hv11, hf⟩ := zk_ob hf
                  refine zk_goR (zk_S (As := [.long w4.toInt64]) (rest := [.int w3]) hx hb hml hown hts hK hG hP hD hS hA gX5_share_X5_many rfl hd_X5_many (Nat.le_trans (Nat.le_of_ble_eq_true rfl) hRf) (Nat.le_trans (Nat.le_of_ble_eq_true rfl) hRl) hcs (zc_X5_many l D tL tO cI cJ cB cQ w4.toInt64 v11 hv11) hl.1 rfl rfl (Nat.le_of_ble_eq_true rfl) dX5_share_72 [] rfl rfl) hP hD hS hA [] rfl (fun H locs hP hS => ?_)
                  obtain ⟨v12, hv12, hf⟩ := zk_ob hf
                  refine zk_goR (zk_S (As := [.int v11]) (rest := [.int w3]) hx hb hml hown hts hK hG hP hD hS hA gX5_share_X5_orders rfl hd_X5_orders (Nat.le_trans (Nat.le_of_ble_eq_true rfl) hRf) (Nat.le_trans (Nat.le_of_ble_eq_true rfl) hRl) hcs (zc_X5_orders l D tL tO cI cJ cB cQ v11 v12 hv12) hl.1 rfl rfl (Nat.le_of_ble_eq_true rfl) dX5_share_75 [] rfl rfl) hP hD hS hA [] rfl (fun H locs hP hS => ?_)
                  refine lv_aload_n hx hb dX5_share_78 rfl (lv_at hl 0 rfl) ?_
                  refine va_get (ci := 5) (v := .int v_md_sayers) (C := RX5) (T := TX5) (N := 29) hx hb hts inX5 hown hK hP 0 rfl rfl 3 (by decide) lk0 (fun _ h9 => h9) rfl dX5_share_79 ?_
                  refine lv_iconst (v := (1 : Int32)) hx hb dX5_share_82 (by decide) ?_
                  refine lv_isub hx hb dX5_share_83 ?_
                  refine lv_iload hx hb dX5_share_84 (lv_at hl 4 rfl) ?_
                  refine lv_i2l hx hb dX5_share_86 rfl ?_
                  obtain ⟨v13, hv13, hf⟩ := zk_ob hf
                  refine zk_goR (zk_S (As := [.long w4.toInt64]) (rest := [.int (v_md_sayers - (1 : Int32)), .int v12, .int w3]) hx hb hml hown hts hK hG hP hD hS hA gX5_share_X5_many rfl hd_X5_many (Nat.le_trans (Nat.le_of_ble_eq_true rfl) hRf) (Nat.le_trans (Nat.le_of_ble_eq_true rfl) hRl) hcs (zc_X5_many l D tL tO cI cJ cB cQ w4.toInt64 v13 hv13) hl.1 rfl rfl (Nat.le_of_ble_eq_true rfl) dX5_share_87 [] rfl rfl) hP hD hS hA [] rfl (fun H locs hP hS => ?_)
                  refine lv_isub hx hb dX5_share_90 ?_
                  obtain ⟨v14, hv14, hf⟩ := zk_ob hf
                  refine zk_goR (zk_S (As := [.int ((v_md_sayers - (1 : Int32)) - v13)]) (rest := [.int v12, .int w3]) hx hb hml hown hts hK hG hP hD hS hA gX5_share_X5_orders rfl hd_X5_orders (Nat.le_trans (Nat.le_of_ble_eq_true rfl) hRf) (Nat.le_trans (Nat.le_of_ble_eq_true rfl) hRl) hcs (zc_X5_orders l D tL tO cI cJ cB cQ ((v_md_sayers - (1 : Int32)) - v13) v14 hv14) hl.1 rfl rfl (Nat.le_of_ble_eq_true rfl) dX5_share_91 [] rfl rfl) hP hD hS hA [] rfl (fun H locs hP hS => ?_)
                  refine lv_imul hx hb dX5_share_94 ?_
                  refine lv_iadd hx hb dX5_share_95 ?_
                  obtain ⟨y15, ey15, hf⟩ := zk_lt_s hf
                  refine zk_topi ey15 ?_
                  refine lv_istore_n (lv' := [(3, .int y15), (0, .ref a_md), (1, .int x0), (2, .int x1), (4, .int w4)]) hx hb dX5_share_96 rfl hl (by decide) rfl (fun ls hl => ?_)
                  obtain ⟨y16, ey16, hf⟩ := zk_lt_s hf
                  refine lv_iinc (v := y16) (lv' := [(4, .int y16), (3, .int y15), (0, .ref a_md), (1, .int x0), (2, .int x1)]) hx hb dX5_share_97 hl (k := 4) rfl (by rw [ey16]; rfl) (by decide) rfl (fun ls hl => ?_)
                  refine lv_goto (tgt := 25) hx hb dX5_share_100 (by decide) ?_
                  exact ih y15 y16 _ _ _ _ hf hP hD hS (lv_sub hl [2, 3, 4, 1, 0] rfl) hk
      obtain ⟨v21, hv21, hf⟩ := zk_ob hf
      refine lp25 zk_F (0 : Int32) (0 : Int32) v21 _ _ _ hv21 hP hD hS (lv_sub hl [2, 3, 4, 1, 0] rfl) ?_
      intro H locs ls hP hD hS hl
      refine lv_aload_n hx hb dX5_share_103 rfl (lv_at hl 0 rfl) ?_
      refine va_get (ci := 5) (v := .int v_md_sayers) (C := RX5) (T := TX5) (N := 29) hx hb hts inX5 hown hK hP 0 rfl rfl 3 (by decide) lk0 (fun _ h9 => h9) rfl dX5_share_104 ?_
      obtain ⟨v22, hv22, hf⟩ := zk_ob hf
      refine zk_goR (zk_S (As := [.int v_md_sayers]) (rest := []) hx hb hml hown hts hK hG hP hD hS hA gX5_share_X5_orders rfl hd_X5_orders (Nat.le_trans (Nat.le_of_ble_eq_true rfl) hRf) (Nat.le_trans (Nat.le_of_ble_eq_true rfl) hRl) hcs (zc_X5_orders l D tL tO cI cJ cB cQ v_md_sayers v22 hv22) hl.1 rfl rfl (Nat.le_of_ble_eq_true rfl) dX5_share_107 [] rfl rfl) hP hD hS hA [] rfl (fun H locs hP hS => ?_)
      refine lv_istore (lv' := [(4, .int v22), (0, .ref a_md), (1, .int x0), (2, .int x1), (3, .int v21.1)]) hx hb dX5_share_110 hl (by decide) rfl (fun ls hl => ?_)
      refine lv_iload_n hx hb dX5_share_112 rfl (lv_at hl 4 rfl) ?_
      refine lv_istore (lv' := [(5, .int v21.1), (4, .int v22), (0, .ref a_md), (1, .int x0), (2, .int x1), (3, .int v21.1)]) hx hb dX5_share_113 hl (by decide) rfl (fun ls hl => ?_)
      refine lv_iload hx hb dX5_share_115 (lv_at hl 1 rfl) ?_
      refine lv_istore (lv' := [(6, .int v22), (5, .int v21.1), (4, .int v22), (0, .ref a_md), (1, .int x0), (2, .int x1), (3, .int v21.1)]) hx hb dX5_share_117 hl (by decide) rfl (fun ls hl => ?_)
      have lp119 : ∀ (n : Nat) (w23 : Int32) (w24 : Int32) (z119 : Int32 × Int32) (H : Heap) (locs : List Loc) (ls : Array Slot), zl_X5_share_119 n w23 w24 = some z119 → va_P D vwCl [(a_md, .inr (5, [.int v_md_length, .ref a_md_text, .int v_md_laws, .int v_md_sayers, .long v_md_there, .long v_md_question, .ref a_md_weight, .ref a_md_says, .ref a_md_cost, .int v_md_measure, .long v_md_trace, .int v_md_readLaws, .int v_md_readSayers, .long v_md_readThere, .ref a_md_readWeight, .ref a_md_readSays, .int v_md_begin, .int v_md_end, .int v_md_sort, .int v_md_open, .ref a_md_opened, .int v_md_level, .ref a_md_any, .ref a_md_all, .long v_md_said, .ref a_md_burdens, .ref a_md_best, .ref a_md_own, .ref a_md_truth])), (a_md_says, .inl (cJ, 7, .inr (.inl f_md_says)))] H → va_D A [(a_md, .inr (5, [.int v_md_length, .ref a_md_text, .int v_md_laws, .int v_md_sayers, .long v_md_there, .long v_md_question, .ref a_md_weight, .ref a_md_says, .ref a_md_cost, .int v_md_measure, .long v_md_trace, .int v_md_readLaws, .int v_md_readSayers, .long v_md_readThere, .ref a_md_readWeight, .ref a_md_readSays, .int v_md_begin, .int v_md_end, .int v_md_sort, .int v_md_open, .ref a_md_opened, .int v_md_level, .ref a_md_any, .ref a_md_all, .long v_md_said, .ref a_md_burdens, .ref a_md_best, .ref a_md_own, .ref a_md_truth])), (a_md_says, .inl (cJ, 7, .inr (.inl f_md_says)))] → va_S A s.heap H locs → lv_has ls 8 [(0, .ref a_md), (1, .int x0), (2, .int x1), (3, .int v21.1), (4, .int v22), (5, .int w23), (6, .int w24)] → (∀ (H : Heap) (locs : List Loc) (ls : Array Slot), va_P D vwCl [(a_md, .inr (5, [.int v_md_length, .ref a_md_text, .int v_md_laws, .int v_md_sayers, .long v_md_there, .long v_md_question, .ref a_md_weight, .ref a_md_says, .ref a_md_cost, .int v_md_measure, .long v_md_trace, .int v_md_readLaws, .int v_md_readSayers, .long v_md_readThere, .ref a_md_readWeight, .ref a_md_readSays, .int v_md_begin, .int v_md_end, .int v_md_sort, .int v_md_open, .ref a_md_opened, .int v_md_level, .ref a_md_any, .ref a_md_all, .long v_md_said, .ref a_md_burdens, .ref a_md_best, .ref a_md_own, .ref a_md_truth])), (a_md_says, .inl (cJ, 7, .inr (.inl f_md_says)))] H → va_D A [(a_md, .inr (5, [.int v_md_length, .ref a_md_text, .int v_md_laws, .int v_md_sayers, .long v_md_there, .long v_md_question, .ref a_md_weight, .ref a_md_says, .ref a_md_cost, .int v_md_measure, .long v_md_trace, .int v_md_readLaws, .int v_md_readSayers, .long v_md_readThere, .ref a_md_readWeight, .ref a_md_readSays, .int v_md_begin, .int v_md_end, .int v_md_sort, .int v_md_open, .ref a_md_opened, .int v_md_level, .ref a_md_any, .ref a_md_all, .long v_md_said, .ref a_md_burdens, .ref a_md_best, .ref a_md_own, .ref a_md_truth])), (a_md_says, .inl (cJ, 7, .inr (.inl f_md_says)))] → va_S A s.heap H locs → lv_has ls 8 [(0, .ref a_md), (1, .int x0), (2, .int x1), (3, .int v21.1), (4, .int v22), (5, .int z119.1), (6, .int z119.2)] → W p l e R s m args below meth c H locs 0 0 Q (F0 m 142 ls [])) → W p l e R s m args below meth c H locs 0 0 Q (F0 m 119 ls []) := by
        intro n
        induction n with
        | zero => intro w23 w24 z119 H locs ls hf; exact absurd (show none = some z119 from hf) (by simp)
        | succ n ih =>
          intro w23 w24 z119 H locs ls hf hP hD hS hl hk
          rw [zl_X5_share_119] at hf
          refine lv_iload hx hb dX5_share_119 (lv_at hl 6 rfl) ?_
          refine lv_if_eq (tgt := 142) hx hb dX5_share_121 (by decide) (fun c27 => ?_) (fun c27 => ?_)
          · have hf := zk_t c27 hf
            obtain rfl := Option.some.inj hf
            exact hk _ _ _ hP hD hS (lv_sub hl [0, 1, 2, 3, 4, 5, 6] rfl)
          · have hf := zk_f c27 hf
            refine lv_iload hx hb dX5_share_124 (lv_at hl 5 rfl) ?_
            refine lv_iload hx hb dX5_share_126 (lv_at hl 6 rfl) ?_
            obtain ⟨g25, hf⟩ := zk_gd_s hf
            refine lv_irem hx hb dX5_share_128 (zk_nz_s g25) ?_
            obtain ⟨y26, ey26, hf⟩ := zk_lt_s hf
            refine zk_topi ey26 ?_
            refine lv_istore (lv' := [(7, .int y26), (0, .ref a_md), (1, .int x0), (2, .int x1), (3, .int v21.1), (4, .int v22), (5, .int w23), (6, .int w24)]) hx hb dX5_share_129 hl (by decide) rfl (fun ls hl => ?_)
            refine lv_iload hx hb dX5_share_131 (lv_at hl 7 rfl) ?_
            refine lv_istore (lv' := [(5, .int w24), (7, .int y26), (0, .ref a_md), (1, .int x0), (2, .int x1), (3, .int v21.1), (4, .int v22), (6, .int w24)]) hx hb dX5_share_133 hl (by decide) rfl (fun ls hl => ?_)
            refine lv_iload hx hb dX5_share_135 (lv_at hl 1 rfl) ?_
            refine lv_istore (lv' := [(6, .int y26), (5, .int w24), (7, .int y26), (0, .ref a_md), (1, .int x0), (2, .int x1), (3, .int v21.1), (4, .int v22)]) hx hb dX5_share_137 hl (by decide) rfl (fun ls hl => ?_)
            refine lv_goto (tgt := 119) hx hb dX5_share_139 (by decide) ?_
            exact ih w24 y26 _ _ _ _ hf hP hD hS (lv_sub hl [3, 4, 5, 6, 7, 1, 0] rfl) hk
      obtain ⟨v28, hv28, hf⟩ := zk_ob hf
      refine lp119 zk_F v21.1 v22 v28 _ _ _ hv28 hP hD hS (lv_sub hl [3, 4, 5, 6, 2, 1, 0] rfl) ?_
      intro H locs ls hP hD hS hl
      refine lv_iload_n hx hb dX5_share_142 rfl (lv_at hl 2 rfl) ?_
      refine lv_if_ne (tgt := 153) hx hb dX5_share_143 (by decide) (fun c31 => ?_) (fun c31 => ?_)
      · have hf := zk_f c31 hf
        refine lv_iload hx hb dX5_share_153 (lv_at hl 4 rfl) ?_
        refine lv_iload hx hb dX5_share_155 (lv_at hl 5 rfl) ?_
        obtain ⟨g29, hf⟩ := zk_gd_s hf
        refine lv_idiv hx hb dX5_share_157 (zk_nz_s g29) ?_
        obtain rfl := Option.some.inj hf
        exact hret trivial _ _ _ _ hP hD hS dX5_share_158
      · have hf := zk_t c31 hf
        refine lv_iload_n hx hb dX5_share_146 rfl (lv_at hl 3 rfl) ?_
        refine lv_iload hx hb dX5_share_147 (lv_at hl 5 rfl) ?_
        obtain ⟨g30, hf⟩ := zk_gd_s hf
        refine lv_idiv hx hb dX5_share_149 (zk_nz_s g30) ?_
        refine lv_goto (tgt := 158) hx hb dX5_share_150 (by decide) ?_
        obtain rfl := Option.some.inj hf
        exact hret trivial _ _ _ _ hP hD hS dX5_share_158
    · have hf := zk_t c32 hf
      refine lv_iconst (v := (-1 : Int32)) hx hb dX5_share_18 (by decide) ?_
      obtain rfl := Option.some.inj hf
      exact hret trivial _ _ _ _ hP hD hS dX5_share_19
