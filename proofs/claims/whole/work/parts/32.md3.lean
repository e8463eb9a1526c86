def zl_X5_sumOf_4 (x0 : Int32) (v_md_sayers : Int32) (f_md_burdens : Nat → Int32) : Nat → (Int32) → (Int32) → Option (Int32 × Int32)
  | 0, _, _ => none
  | n + 1, w1, w2 =>
    if v_md_sayers ≤ w2 then
    some (w1, w2)
    else
    zk_gd (zk_in (((64 : Int32) * w2) + x0) 448)
    (zk_lt (w1 + (f_md_burdens (((64 : Int32) * w2) + x0).toNatClampNeg)) (fun y4 =>
    zk_lt (w2 + 1) (fun y5 =>
    zl_X5_sumOf_4 x0 v_md_sayers f_md_burdens n y4 y5)))
def zf_X5_sumOf (x0 : Int32) (v_md_sayers : Int32) (f_md_burdens : Nat → Int32) : Option (Int32) :=
  (zl_X5_sumOf_4 x0 v_md_sayers f_md_burdens zk_F (0 : Int32) (0 : Int32)).bind (fun v7 =>
  some v7.1)
theorem hd_X5_sumOf : yX5_sumOf.cls = RX5 ∧ yX5_sumOf.cls ≠ "java/lang/invoke/MethodHandle" ∧ yX5_sumOf.cls ≠ "java/lang/invoke/VarHandle" ∧ (parseMethodDescriptor yX5_sumOf.desc).map (fun d => d.parameters.length) = some 1 := by decide +kernel
set_option maxHeartbeats 4000000 in
set_option maxRecDepth 100000 in
theorem zc_X5_sumOf (l : Launch) (D : va_G) (tL tO : Nat) (cI cJ cB cQ : ClassId) (a_md a_md_text a_md_weight a_md_says a_md_cost a_md_readWeight a_md_readSays a_md_opened a_md_any a_md_all a_md_burdens a_md_best a_md_own a_md_truth : Nat) (x0 : Int32) (v_md_length : Int32) (v_md_laws : Int32) (v_md_sayers : Int32) (v_md_there : Int64) (v_md_question : Int64) (v_md_measure : Int32) (v_md_trace : Int64) (v_md_readLaws : Int32) (v_md_readSayers : Int32) (v_md_readThere : Int64) (v_md_begin : Int32) (v_md_end : Int32) (v_md_sort : Int32) (v_md_open : Int32) (v_md_level : Int32) (v_md_said : Int64) (f_md_burdens : Nat → Int32) (z : Int32) (hf : zf_X5_sumOf x0 v_md_sayers f_md_burdens = some z) : zk_CT l D tL tO (zk_ty cI cJ cB cQ) yX5_sumOf wsX5_sumOf 0 0 [.ref a_md, .int x0] (some (.int z)) [(a_md, .inr (5, [.int v_md_length, .ref a_md_text, .int v_md_laws, .int v_md_sayers, .long v_md_there, .long v_md_question, .ref a_md_weight, .ref a_md_says, .ref a_md_cost, .int v_md_measure, .long v_md_trace, .int v_md_readLaws, .int v_md_readSayers, .long v_md_readThere, .ref a_md_readWeight, .ref a_md_readSays, .int v_md_begin, .int v_md_end, .int v_md_sort, .int v_md_open, .ref a_md_opened, .int v_md_level, .ref a_md_any, .ref a_md_all, .long v_md_said, .ref a_md_burdens, .ref a_md_best, .ref a_md_own, .ref a_md_truth])), (a_md_burdens, .inl (cI, 448, .inl f_md_burdens))] [(a_md, .inr (5, [.int v_md_length, .ref a_md_text, .int v_md_laws, .int v_md_sayers, .long v_md_there, .long v_md_question, .ref a_md_weight, .ref a_md_says, .ref a_md_cost, .int v_md_measure, .long v_md_trace, .int v_md_readLaws, .int v_md_readSayers, .long v_md_readThere, .ref a_md_readWeight, .ref a_md_readSays, .int v_md_begin, .int v_md_end, .int v_md_sort, .int v_md_open, .ref a_md_opened, .int v_md_level, .ref a_md_any, .ref a_md_all, .long v_md_said, .ref a_md_burdens, .ref a_md_best, .ref a_md_own, .ref a_md_truth])), (a_md_burdens, .inl (cI, 448, .inl f_md_burdens))] := by
  refine zk_of_i (cc := cX5_sumOf) (maxL := 4) (by decide) rfl (Nat.le_of_ble_eq_true rfl) ?_
  intro p e R s m args below meth c A Q ls hx hb hml hRf hRl hts hown hP hK hD hA hS hG hl hret
  have hl : lv_has ls 4 [(0, .ref a_md), (1, .int x0)] := hl
  have hown : s.vm.findClass RX5 = some m.cls := hown
  have hcs : 0 ≤ R.cells ∧ 0 ≤ R.slots := ⟨Nat.zero_le _, Nat.zero_le _⟩
  have lk0 := hts (.fieldLink RX5 142 "SayingsMergedModel" "sayers" "I") (by decide +kernel)
  have inX5 : ∀ w ∈ wsX50, w ∈ wsX5_sumOf := by decide +kernel
  have lk2 := hts (.fieldLink RX5 48 "SayingsMergedModel" "burdens" "[I") (by decide +kernel)
  unfold zf_X5_sumOf at hf
  refine lv_iconst (v := (0 : Int32)) hx hb dX5_sumOf_0 (by decide) ?_
  refine lv_istore_n (lv' := [(2, .int (0 : Int32)), (0, .ref a_md), (1, .int x0)]) hx hb dX5_sumOf_1 rfl hl (by decide) rfl (fun ls hl => ?_)
  refine lv_iconst (v := (0 : Int32)) hx hb dX5_sumOf_2 (by decide) ?_
  refine lv_istore_n (lv' := [(3, .int (0 : Int32)), (2, .int (0 : Int32)), (0, .ref a_md), (1, .int x0)]) hx hb dX5_sumOf_3 rfl hl (by decide) rfl (fun ls hl => ?_)
  have lp4 : ∀ (n : Nat) (w1 : Int32) (w2 : Int32) (z4 : Int32 × Int32) (H : Heap) (locs : List Loc) (ls : Array Slot), zl_X5_sumOf_4 x0 v_md_sayers f_md_burdens n w1 w2 = some z4 → va_P D vwCl [(a_md, .inr (5, [.int v_md_length, .ref a_md_text, .int v_md_laws, .int v_md_sayers, .long v_md_there, .long v_md_question, .ref a_md_weight, .ref a_md_says, .ref a_md_cost, .int v_md_measure, .long v_md_trace, .int v_md_readLaws, .int v_md_readSayers, .long v_md_readThere, .ref a_md_readWeight, .ref a_md_readSays, .int v_md_begin, .int v_md_end, .int v_md_sort, .int v_md_open, .ref a_md_opened, .int v_md_level, .ref a_md_any, .ref a_md_all, .long v_md_said, .ref a_md_burdens, .ref a_md_best, .ref a_md_own, .ref a_md_truth])), (a_md_burdens, .inl (cI, 448, .inl f_md_burdens))] H → va_D A [(a_md, .inr (5, [.int v_md_length, .ref a_md_text, .int v_md_laws, .int v_md_sayers, .long v_md_there, .long v_md_question, .ref a_md_weight, .ref a_md_says, .ref a_md_cost, .int v_md_measure, .long v_md_trace, .int v_md_readLaws, .int v_md_readSayers, .long v_md_readThere, .ref a_md_readWeight, .ref a_md_readSays, .int v_md_begin, .int v_md_end, .int v_md_sort, .int v_md_open, .ref a_md_opened, .int v_md_level, .ref a_md_any, .ref a_md_all, .long v_md_said, .ref a_md_burdens, .ref a_md_best, .ref a_md_own, .ref a_md_truth])), (a_md_burdens, .inl (cI, 448, .inl f_md_burdens))] → va_S A s.heap H locs → lv_has ls 4 [(0, .ref a_md), (1, .int x0), (2, .int w1), (3, .int w2)] → (∀ (H : Heap) (locs : List Loc) (ls : Array Slot), va_P D vwCl [(a_md, .inr (5, [.int v_md_length, .ref a_md_text, .int v_md_laws, .int v_md_sayers, .long v_md_there, .long v_md_question, .ref a_md_weight, .ref a_md_says, .ref a_md_cost, .int v_md_measure, .long v_md_trace, .int v_md_readLaws, .int v_md_readSayers, .long v_md_readThere, .ref a_md_readWeight, .ref a_md_readSays, .int v_md_begin, .int v_md_end, .int v_md_sort, .int v_md_open, .ref a_md_opened, .int v_md_level, .ref a_md_any, .ref a_md_all, .long v_md_said, .ref a_md_burdens, .ref a_md_best, .ref a_md_own, .ref a_md_truth])), (a_md_burdens, .inl (cI, 448, .inl f_md_burdens))] H → va_D A [(a_md, .inr (5, [.int v_md_length, .ref a_md_text, .int v_md_laws, .int v_md_sayers, .long v_md_there, .long v_md_question, .ref a_md_weight, .ref a_md_says, .ref a_md_cost, .int v_md_measure, .long v_md_trace, .int v_md_readLaws, .int v_md_readSayers, .long v_md_readThere, .ref a_md_readWeight, .ref a_md_readSays, .int v_md_begin, .int v_md_end, .int v_md_sort, .int v_md_open, .ref a_md_opened, .int v_md_level, .ref a_md_any, .ref a_md_all, .long v_md_said, .ref a_md_burdens, .ref a_md_best, .ref a_md_own, .ref a_md_truth])), (a_md_burdens, .inl (cI, 448, .inl f_md_burdens))] → va_S A s.heap H locs → lv_has ls 4 [(0, .ref a_md), (1, .int x0), (2, .int z4.1), (3, .int z4.2)] → W p l e R s m args below meth c H locs 0 0 Q (F0 m 32 ls [])) → W p l e R s m args below meth c H locs 0 0 Q (F0 m 4 ls []) := by
    intro n
    induction n with
    | zero => intro w1 w2 z4 H locs ls hf; exact absurd (show none = some z4 from hf) (by simp)
    | succ n ih =>
      intro w1 w2 z4 H locs ls hf hP hD hS hl hk
      rw [zl_X5_sumOf_4] at hf
      refine lv_iload_n hx hb dX5_sumOf_4 rfl (lv_at hl 3 rfl) ?_
      refine lv_aload_n hx hb dX5_sumOf_5 rfl (lv_at hl 0 rfl) ?_
      refine va_get (ci := 5) (v := .int v_md_sayers) (C := RX5) (T := TX5) (N := 29) hx hb hts inX5 hown hK hP 0 rfl rfl 3 (by decide) lk0 (fun _ h9 => h9) rfl dX5_sumOf_6 ?_
      refine lv_icmp_ge (tgt := 32) hx hb dX5_sumOf_9 (by decide) (fun c6 => ?_) (fun c6 => ?_)
      · have hf := zk_t c6 hf
        obtain rfl := Option.some.inj hf
        exact hk _ _ _ hP hD hS (lv_sub hl [0, 1, 2, 3] rfl)
      · have hf := zk_f c6 hf
        refine lv_iload_n hx hb dX5_sumOf_12 rfl (lv_at hl 2 rfl) ?_
        refine lv_aload_n hx hb dX5_sumOf_13 rfl (lv_at hl 0 rfl) ?_
        refine va_get (ci := 5) (v := .ref a_md_burdens) (C := RX5) (T := TX5) (N := 29) hx hb hts inX5 hown hK hP 0 rfl rfl 25 (by decide) lk2 (fun _ h9 => h9) rfl dX5_sumOf_14 ?_
        refine lv_bipush (v := (64 : Int32)) hx hb dX5_sumOf_17 (by decide) ?_
        refine lv_iload_n hx hb dX5_sumOf_19 rfl (lv_at hl 3 rfl) ?_
        refine lv_imul hx hb dX5_sumOf_20 ?_
        refine lv_iload_n hx hb dX5_sumOf_21 rfl (lv_at hl 1 rfl) ?_
        refine lv_iadd hx hb dX5_sumOf_22 ?_
        obtain ⟨g3, hf⟩ := zk_gd_s hf
        refine va_iald hx hb hK hP 1 0 rfl rfl (zk_in_s g3) dX5_sumOf_23 ?_
        refine lv_iadd hx hb dX5_sumOf_24 ?_
        obtain ⟨y4, ey4, hf⟩ := zk_lt_s hf
        refine zk_topi ey4 ?_
        refine lv_istore_n (lv' := [(2, .int y4), (0, .ref a_md), (1, .int x0), (3, .int w2)]) hx hb dX5_sumOf_25 rfl hl (by decide) rfl (fun ls hl => ?_)
        obtain ⟨y5, ey5, hf⟩ := zk_lt_s hf
        refine lv_iinc (v := y5) (lv' := [(3, .int y5), (2, .int y4), (0, .ref a_md), (1, .int x0)]) hx hb dX5_sumOf_26 hl (k := 3) rfl (by rw [ey5]; rfl) (by decide) rfl (fun ls hl => ?_)
        refine lv_goto (tgt := 4) hx hb dX5_sumOf_29 (by decide) ?_
        exact ih y4 y5 _ _ _ _ hf hP hD hS (lv_sub hl [2, 3, 1, 0] rfl) hk
  obtain ⟨v7, hv7, hf⟩ := zk_ob hf
  refine lp4 zk_F (0 : Int32) (0 : Int32) v7 _ _ _ hv7 hP hD hS (lv_sub hl [2, 3, 1, 0] rfl) ?_
  intro H locs ls hP hD hS hl
  refine lv_iload_n hx hb dX5_sumOf_32 rfl (lv_at hl 2 rfl) ?_
  obtain rfl := Option.some.inj hf
  exact hret trivial _ _ _ _ hP hD hS dX5_sumOf_33
def zl_X5_worstOf_4 (x0 : Int32) (v_md_sayers : Int32) (f_md_burdens : Nat → Int32) : Nat → (Int32) → (Int32) → Option (Int32 × Int32)
  | 0, _, _ => none
  | n + 1, w1, w2 =>
    if v_md_sayers ≤ w2 then
    some (w1, w2)
    else
    zk_gd (zk_in (((64 : Int32) * w2) + x0) 448)
    (if (f_md_burdens (((64 : Int32) * w2) + x0).toNatClampNeg) ≤ w1 then
    zk_lt (w2 + 1) (fun y4 =>
    zl_X5_worstOf_4 x0 v_md_sayers f_md_burdens n w1 y4)
    else
    zk_lt (f_md_burdens (((64 : Int32) * w2) + x0).toNatClampNeg) (fun y5 =>
    zk_lt (w2 + 1) (fun y6 =>
    zl_X5_worstOf_4 x0 v_md_sayers f_md_burdens n y5 y6)))
def zf_X5_worstOf (x0 : Int32) (v_md_sayers : Int32) (f_md_burdens : Nat → Int32) : Option (Int32) :=
  (zl_X5_worstOf_4 x0 v_md_sayers f_md_burdens zk_F (0 : Int32) (0 : Int32)).bind (fun v9 =>
  some v9.1)
theorem hd_X5_worstOf : yX5_worstOf.cls = RX5 ∧ yX5_worstOf.cls ≠ "java/lang/invoke/MethodHandle" ∧ yX5_worstOf.cls ≠ "java/lang/invoke/VarHandle" ∧ (parseMethodDescriptor yX5_worstOf.desc).map (fun d => d.parameters.length) = some 1 := by decide +kernel
set_option maxHeartbeats 4000000 in
set_option maxRecDepth 100000 in
theorem zc_X5_worstOf (l : Launch) (D : va_G) (tL tO : Nat) (cI cJ cB cQ : ClassId) (a_md a_md_text a_md_weight a_md_says a_md_cost a_md_readWeight a_md_readSays a_md_opened a_md_any a_md_all a_md_burdens a_md_best a_md_own a_md_truth : Nat) (x0 : Int32) (v_md_length : Int32) (v_md_laws : Int32) (v_md_sayers : Int32) (v_md_there : Int64) (v_md_question : Int64) (v_md_measure : Int32) (v_md_trace : Int64) (v_md_readLaws : Int32) (v_md_readSayers : Int32) (v_md_readThere : Int64) (v_md_begin : Int32) (v_md_end : Int32) (v_md_sort : Int32) (v_md_open : Int32) (v_md_level : Int32) (v_md_said : Int64) (f_md_burdens : Nat → Int32) (z : Int32) (hf : zf_X5_worstOf x0 v_md_sayers f_md_burdens = some z) : zk_CT l D tL tO (zk_ty cI cJ cB cQ) yX5_worstOf wsX5_worstOf 0 0 [.ref a_md, .int x0] (some (.int z)) [(a_md, .inr (5, [.int v_md_length, .ref a_md_text, .int v_md_laws, .int v_md_sayers, .long v_md_there, .long v_md_question, .ref a_md_weight, .ref a_md_says, .ref a_md_cost, .int v_md_measure, .long v_md_trace, .int v_md_readLaws, .int v_md_readSayers, .long v_md_readThere, .ref a_md_readWeight, .ref a_md_readSays, .int v_md_begin, .int v_md_end, .int v_md_sort, .int v_md_open, .ref a_md_opened, .int v_md_level, .ref a_md_any, .ref a_md_all, .long v_md_said, .ref a_md_burdens, .ref a_md_best, .ref a_md_own, .ref a_md_truth])), (a_md_burdens, .inl (cI, 448, .inl f_md_burdens))] [(a_md, .inr (5, [.int v_md_length, .ref a_md_text, .int v_md_laws, .int v_md_sayers, .long v_md_there, .long v_md_question, .ref a_md_weight, .ref a_md_says, .ref a_md_cost, .int v_md_measure, .long v_md_trace, .int v_md_readLaws, .int v_md_readSayers, .long v_md_readThere, .ref a_md_readWeight, .ref a_md_readSays, .int v_md_begin, .int v_md_end, .int v_md_sort, .int v_md_open, .ref a_md_opened, .int v_md_level, .ref a_md_any, .ref a_md_all, .long v_md_said, .ref a_md_burdens, .ref a_md_best, .ref a_md_own, .ref a_md_truth])), (a_md_burdens, .inl (cI, 448, .inl f_md_burdens))] := by
  refine zk_of_i (cc := cX5_worstOf) (maxL := 4) (by decide) rfl (Nat.le_of_ble_eq_true rfl) ?_
  intro p e R s m args below meth c A Q ls hx hb hml hRf hRl hts hown hP hK hD hA hS hG hl hret
  have hl : lv_has ls 4 [(0, .ref a_md), (1, .int x0)] := hl
  have hown : s.vm.findClass RX5 = some m.cls := hown
  have hcs : 0 ≤ R.cells ∧ 0 ≤ R.slots := ⟨Nat.zero_le _, Nat.zero_le _⟩
  have lk0 := hts (.fieldLink RX5 142 "SayingsMergedModel" "sayers" "I") (by decide +kernel)
  have inX5 : ∀ w ∈ wsX50, w ∈ wsX5_worstOf := by decide +kernel
  have lk2 := hts (.fieldLink RX5 48 "SayingsMergedModel" "burdens" "[I") (by decide +kernel)
  unfold zf_X5_worstOf at hf
  refine lv_iconst (v := (0 : Int32)) hx hb dX5_worstOf_0 (by decide) ?_
  refine lv_istore_n (lv' := [(2, .int (0 : Int32)), (0, .ref a_md), (1, .int x0)]) hx hb dX5_worstOf_1 rfl hl (by decide) rfl (fun ls hl => ?_)
  refine lv_iconst (v := (0 : Int32)) hx hb dX5_worstOf_2 (by decide) ?_
  refine lv_istore_n (lv' := [(3, .int (0 : Int32)), (2, .int (0 : Int32)), (0, .ref a_md), (1, .int x0)]) hx hb dX5_worstOf_3 rfl hl (by decide) rfl (fun ls hl => ?_)
  have lp4 : ∀ (n : Nat) (w1 : Int32) (w2 : Int32) (z4 : Int32 × Int32) (H : Heap) (locs : List Loc) (ls : Array Slot), zl_X5_worstOf_4 x0 v_md_sayers f_md_burdens n w1 w2 = some z4 → va_P D vwCl [(a_md, .inr (5, [.int v_md_length, .ref a_md_text, .int v_md_laws, .int v_md_sayers, .long v_md_there, .long v_md_question, .ref a_md_weight, .ref a_md_says, .ref a_md_cost, .int v_md_measure, .long v_md_trace, .int v_md_readLaws, .int v_md_readSayers, .long v_md_readThere, .ref a_md_readWeight, .ref a_md_readSays, .int v_md_begin, .int v_md_end, .int v_md_sort, .int v_md_open, .ref a_md_opened, .int v_md_level, .ref a_md_any, .ref a_md_all, .long v_md_said, .ref a_md_burdens, .ref a_md_best, .ref a_md_own, .ref a_md_truth])), (a_md_burdens, .inl (cI, 448, .inl f_md_burdens))] H → va_D A [(a_md, .inr (5, [.int v_md_length, .ref a_md_text, .int v_md_laws, .int v_md_sayers, .long v_md_there, .long v_md_question, .ref a_md_weight, .ref a_md_says, .ref a_md_cost, .int v_md_measure, .long v_md_trace, .int v_md_readLaws, .int v_md_readSayers, .long v_md_readThere, .ref a_md_readWeight, .ref a_md_readSays, .int v_md_begin, .int v_md_end, .int v_md_sort, .int v_md_open, .ref a_md_opened, .int v_md_level, .ref a_md_any, .ref a_md_all, .long v_md_said, .ref a_md_burdens, .ref a_md_best, .ref a_md_own, .ref a_md_truth])), (a_md_burdens, .inl (cI, 448, .inl f_md_burdens))] → va_S A s.heap H locs → lv_has ls 4 [(0, .ref a_md), (1, .int x0), (2, .int w1), (3, .int w2)] → (∀ (H : Heap) (locs : List Loc) (ls : Array Slot), va_P D vwCl [(a_md, .inr (5, [.int v_md_length, .ref a_md_text, .int v_md_laws, .int v_md_sayers, .long v_md_there, .long v_md_question, .ref a_md_weight, .ref a_md_says, .ref a_md_cost, .int v_md_measure, .long v_md_trace, .int v_md_readLaws, .int v_md_readSayers, .long v_md_readThere, .ref a_md_readWeight, .ref a_md_readSays, .int v_md_begin, .int v_md_end, .int v_md_sort, .int v_md_open, .ref a_md_opened, .int v_md_level, .ref a_md_any, .ref a_md_all, .long v_md_said, .ref a_md_burdens, .ref a_md_best, .ref a_md_own, .ref a_md_truth])), (a_md_burdens, .inl (cI, 448, .inl f_md_burdens))] H → va_D A [(a_md, .inr (5, [.int v_md_length, .ref a_md_text, .int v_md_laws, .int v_md_sayers, .long v_md_there, .long v_md_question, .ref a_md_weight, .ref a_md_says, .ref a_md_cost, .int v_md_measure, .long v_md_trace, .int v_md_readLaws, .int v_md_readSayers, .long v_md_readThere, .ref a_md_readWeight, .ref a_md_readSays, .int v_md_begin, .int v_md_end, .int v_md_sort, .int v_md_open, .ref a_md_opened, .int v_md_level, .ref a_md_any, .ref a_md_all, .long v_md_said, .ref a_md_burdens, .ref a_md_best, .ref a_md_own, .ref a_md_truth])), (a_md_burdens, .inl (cI, 448, .inl f_md_burdens))] → va_S A s.heap H locs → lv_has ls 4 [(0, .ref a_md), (1, .int x0), (2, .int z4.1), (3, .int z4.2)] → W p l e R s m args below meth c H locs 0 0 Q (F0 m 49 ls [])) → W p l e R s m args below meth c H locs 0 0 Q (F0 m 4 ls []) := by
    intro n
    induction n with
    | zero => intro w1 w2 z4 H locs ls hf; exact absurd (show none = some z4 from hf) (by simp)
    | succ n ih =>
      intro w1 w2 z4 H locs ls hf hP hD hS hl hk
      rw [zl_X5_worstOf_4] at hf
      refine lv_iload_n hx hb dX5_worstOf_4 rfl (lv_at hl 3 rfl) ?_
      refine lv_aload_n hx hb dX5_worstOf_5 rfl (lv_at hl 0 rfl) ?_
      refine va_get (ci := 5) (v := .int v_md_sayers) (C := RX5) (T := TX5) (N := 29) hx hb hts inX5 hown hK hP 0 rfl rfl 3 (by decide) lk0 (fun _ h9 => h9) rfl dX5_worstOf_6 ?_
      refine lv_icmp_ge (tgt := 49) hx hb dX5_worstOf_9 (by decide) (fun c8 => ?_) (fun c8 => ?_)
      · have hf := zk_t c8 hf
        obtain rfl := Option.some.inj hf
        exact hk _ _ _ hP hD hS (lv_sub hl [0, 1, 2, 3] rfl)
      · have hf := zk_f c8 hf
        refine lv_aload_n hx hb dX5_worstOf_12 rfl (lv_at hl 0 rfl) ?_
        refine va_get (ci := 5) (v := .ref a_md_burdens) (C := RX5) (T := TX5) (N := 29) hx hb hts inX5 hown hK hP 0 rfl rfl 25 (by decide) lk2 (fun _ h9 => h9) rfl dX5_worstOf_13 ?_
        refine lv_bipush (v := (64 : Int32)) hx hb dX5_worstOf_16 (by decide) ?_
        refine lv_iload_n hx hb dX5_worstOf_18 rfl (lv_at hl 3 rfl) ?_
        refine lv_imul hx hb dX5_worstOf_19 ?_
        refine lv_iload_n hx hb dX5_worstOf_20 rfl (lv_at hl 1 rfl) ?_
        refine lv_iadd hx hb dX5_worstOf_21 ?_
        obtain ⟨g3, hf⟩ := zk_gd_s hf
        refine va_iald hx hb hK hP 1 0 rfl rfl (zk_in_s g3) dX5_worstOf_22 ?_
        refine lv_iload_n hx hb dX5_worstOf_23 rfl (lv_at hl 2 rfl) ?_
        refine lv_icmp_le (tgt := 41) hx hb dX5_worstOf_24 (by decide) (fun c7 => ?_) (fun c7 => ?_)
        · have hf := zk_t c7 hf
          refine lv_iload_n hx hb dX5_worstOf_41 rfl (lv_at hl 2 rfl) ?_
          refine lv_istore_n (lv' := [(2, .int w1), (0, .ref a_md), (1, .int x0), (3, .int w2)]) hx hb dX5_worstOf_42 rfl hl (by decide) rfl (fun ls hl => ?_)
          obtain ⟨y4, ey4, hf⟩ := zk_lt_s hf
          refine lv_iinc (v := y4) (lv' := [(3, .int y4), (2, .int w1), (0, .ref a_md), (1, .int x0)]) hx hb dX5_worstOf_43 hl (k := 3) rfl (by rw [ey4]; rfl) (by decide) rfl (fun ls hl => ?_)
          refine lv_goto (tgt := 4) hx hb dX5_worstOf_46 (by decide) ?_
          exact ih w1 y4 _ _ _ _ hf hP hD hS (lv_sub hl [2, 3, 1, 0] rfl) hk
        · have hf := zk_f c7 hf
          refine lv_aload_n hx hb dX5_worstOf_27 rfl (lv_at hl 0 rfl) ?_
          refine va_get (ci := 5) (v := .ref a_md_burdens) (C := RX5) (T := TX5) (N := 29) hx hb hts inX5 hown hK hP 0 rfl rfl 25 (by decide) lk2 (fun _ h9 => h9) rfl dX5_worstOf_28 ?_
          refine lv_bipush (v := (64 : Int32)) hx hb dX5_worstOf_31 (by decide) ?_
          refine lv_iload_n hx hb dX5_worstOf_33 rfl (lv_at hl 3 rfl) ?_
          refine lv_imul hx hb dX5_worstOf_34 ?_
          refine lv_iload_n hx hb dX5_worstOf_35 rfl (lv_at hl 1 rfl) ?_
          refine lv_iadd hx hb dX5_worstOf_36 ?_
          refine va_iald hx hb hK hP 1 0 rfl rfl (zk_in_s g3) dX5_worstOf_37 ?_
          refine lv_goto (tgt := 42) hx hb dX5_worstOf_38 (by decide) ?_
          obtain ⟨y5, ey5, hf⟩ := zk_lt_s hf
          refine zk_topi ey5 ?_
          refine lv_istore_n (lv' := [(2, .int y5), (0, .ref a_md), (1, .int x0), (3, .int w2)]) hx hb dX5_worstOf_42 rfl hl (by decide) rfl (fun ls hl => ?_)
          obtain ⟨y6, ey6, hf⟩ := zk_lt_s hf
          refine lv_iinc (v := y6) (lv' := [(3, .int y6), (2, .int y5), (0, .ref a_md), (1, .int x0)]) hx hb dX5_worstOf_43 hl (k := 3) rfl (by rw [ey6]; rfl) (by decide) rfl (fun ls hl => ?_)
          refine lv_goto (tgt := 4) hx hb dX5_worstOf_46 (by decide) ?_
          exact ih y5 y6 _ _ _ _ hf hP hD hS (lv_sub hl [2, 3, 1, 0] rfl) hk
  obtain ⟨v9, hv9, hf⟩ := zk_ob hf
  refine lp4 zk_F (0 : Int32) (0 : Int32) v9 _ _ _ hv9 hP hD hS (lv_sub hl [2, 3, 1, 0] rfl) ?_
  intro H locs ls hP hD hS hl
  refine lv_iload_n hx hb dX5_worstOf_49 rfl (lv_at hl 2 rfl) ?_
  obtain rfl := Option.some.inj hf
  exact hret trivial _ _ _ _ hP hD hS dX5_worstOf_50
def zl_X5_rows_2 (x0 : Int32) (x1 : Int32) (v_md_sayers : Int32) (f_md_burdens : Nat → Int32) : Nat → (Int32) → (Nat → Int32) → Option (Int32 × (Nat → Int32))
  | 0, _, _ => none
  | n + 1, w1, w2 =>
    if (7 : Int32) ≤ w1 then
    some (w1, w2)
    else
    if x0 = (2 : Int32) then
    if v_md_sayers ≤ w1 then
    zk_gd (zk_in w1 7)
    (zk_lt (w1 + 1) (fun y6 =>
    zl_X5_rows_2 x0 x1 v_md_sayers f_md_burdens n y6 (upd w2 w1.toNatClampNeg (0 : Int32))))
    else
    zk_gd (zk_in (((64 : Int32) * w1) + x1) 448)
    (zk_gd (zk_in w1 7)
    (zk_lt (w1 + 1) (fun y9 =>
    zl_X5_rows_2 x0 x1 v_md_sayers f_md_burdens n y9 (upd w2 w1.toNatClampNeg (f_md_burdens (((64 : Int32) * w1) + x1).toNatClampNeg)))))
    else
    zk_gd (zk_in w1 7)
    (zk_lt (w1 + 1) (fun y4 =>
    zl_X5_rows_2 x0 x1 v_md_sayers f_md_burdens n y4 (upd w2 w1.toNatClampNeg (0 : Int32))))
def zl_X5_rows_87  : Nat → (Int32) → (Nat → Int32) → Option (Int32 × (Nat → Int32))
  | 0, _, _ => none
  | n + 1, w17, w18 =>
    if w17 ≤ 0 then
    some (w17, w18)
    else
    zk_gd (zk_in w17 7)
    (zk_gd (zk_in (w17 - (1 : Int32)) 7)
    (if (w18 w17.toNatClampNeg) ≤ (w18 (w17 - (1 : Int32)).toNatClampNeg) then
    some (w17, w18)
    else
    zk_lt (w18 w17.toNatClampNeg) (fun y21 =>
    zk_lt (w17 + (-1)) (fun y22 =>
    zl_X5_rows_87 n y22 (upd (upd w18 w17.toNatClampNeg (w18 (w17 - (1 : Int32)).toNatClampNeg)) (w17 - (1 : Int32)).toNatClampNeg y21)))))
def zl_X5_rows_78  : Nat → (Int32) → (Nat → Int32) → Option (Int32 × (Nat → Int32))
  | 0, _, _ => none
  | n + 1, w15, w16 =>
    if (7 : Int32) ≤ w15 then
    some (w15, w16)
    else
    (zl_X5_rows_87 zk_F w15 w16).bind (fun v25 =>
    zk_lt (w15 + 1) (fun y27 =>
    zl_X5_rows_78 n y27 v25.2))
def zf_X5_rows (x0 : Int32) (x1 : Int32) (v_md_sayers : Int32) (f_md_burdens : Nat → Int32) (f_md_own : Nat → Int32) : Option (Nat → Int32) :=
  (zl_X5_rows_2 x0 x1 v_md_sayers f_md_burdens zk_F (0 : Int32) f_md_own).bind (fun v13 =>
  (if (2 : Int32) ≤ x0 then
  some v13.2
  else
  if x0 = 0 then
  (zf_X5_sumOf x1 v_md_sayers f_md_burdens).bind (fun v32 =>
  zk_gd (zk_in (0 : Int32) 7)
  (some (upd v13.2 (0 : Int32).toNatClampNeg v32)))
  else
  (zf_X5_worstOf x1 v_md_sayers f_md_burdens).bind (fun v30 =>
  zk_gd (zk_in (0 : Int32) 7)
  (some (upd v13.2 (0 : Int32).toNatClampNeg v30)))).bind (fun v14 =>
  (zl_X5_rows_78 zk_F (1 : Int32) v14).bind (fun v29 =>
  some v29.2)))
theorem hd_X5_rows : yX5_rows.cls = RX5 ∧ yX5_rows.cls ≠ "java/lang/invoke/MethodHandle" ∧ yX5_rows.cls ≠ "java/lang/invoke/VarHandle" ∧ (parseMethodDescriptor yX5_rows.desc).map (fun d => d.parameters.length) = some 2 := by decide +kernel
set_option maxHeartbeats 4000000 in
set_option maxRecDepth 100000 in
theorem zc_X5_rows (l : Launch) (D : va_G) (tL tO : Nat) (cI cJ cB cQ : ClassId) (a_md a_md_text a_md_weight a_md_says a_md_cost a_md_readWeight a_md_readSays a_md_opened a_md_any a_md_all a_md_burdens a_md_best a_md_own a_md_truth : Nat) (x0 : Int32) (x1 : Int32) (v_md_length : Int32) (v_md_laws : Int32) (v_md_sayers : Int32) (v_md_there : Int64) (v_md_question : Int64) (v_md_measure : Int32) (v_md_trace : Int64) (v_md_readLaws : Int32) (v_md_readSayers : Int32) (v_md_readThere : Int64) (v_md_begin : Int32) (v_md_end : Int32) (v_md_sort : Int32) (v_md_open : Int32) (v_md_level : Int32) (v_md_said : Int64) (f_md_burdens : Nat → Int32) (f_md_own : Nat → Int32) (z : Nat → Int32) (hf : zf_X5_rows x0 x1 v_md_sayers f_md_burdens f_md_own = some z) : zk_CT l D tL tO (zk_ty cI cJ cB cQ) yX5_rows wsX5_rows 1 23 [.ref a_md, .int x0, .int x1] none [(a_md, .inr (5, [.int v_md_length, .ref a_md_text, .int v_md_laws, .int v_md_sayers, .long v_md_there, .long v_md_question, .ref a_md_weight, .ref a_md_says, .ref a_md_cost, .int v_md_measure, .long v_md_trace, .int v_md_readLaws, .int v_md_readSayers, .long v_md_readThere, .ref a_md_readWeight, .ref a_md_readSays, .int v_md_begin, .int v_md_end, .int v_md_sort, .int v_md_open, .ref a_md_opened, .int v_md_level, .ref a_md_any, .ref a_md_all, .long v_md_said, .ref a_md_burdens, .ref a_md_best, .ref a_md_own, .ref a_md_truth])), (a_md_burdens, .inl (cI, 448, .inl f_md_burdens)), (a_md_own, .inl (cI, 7, .inl f_md_own))] [(a_md, .inr (5, [.int v_md_length, .ref a_md_text, .int v_md_laws, .int v_md_sayers, .long v_md_there, .long v_md_question, .ref a_md_weight, .ref a_md_says, .ref a_md_cost, .int v_md_measure, .long v_md_trace, .int v_md_readLaws, .int v_md_readSayers, .long v_md_readThere, .ref a_md_readWeight, .ref a_md_readSays, .int v_md_begin, .int v_md_end, .int v_md_sort, .int v_md_open, .ref a_md_opened, .int v_md_level, .ref a_md_any, .ref a_md_all, .long v_md_said, .ref a_md_burdens, .ref a_md_best, .ref a_md_own, .ref a_md_truth])), (a_md_burdens, .inl (cI, 448, .inl f_md_burdens)), (a_md_own, .inl (cI, 7, .inl z))] := by
  refine zk_of_v (cc := cX5_rows) (maxL := 6) (by decide) rfl (Nat.le_of_ble_eq_true rfl) ?_
  intro p e R s m args below meth c A Q ls hx hb hml hRf hRl hts hown hP hK hD hA hS hG hl hret
  have hl : lv_has ls 6 [(0, .ref a_md), (1, .int x0), (2, .int x1)] := hl
  have hown : s.vm.findClass RX5 = some m.cls := hown
  have hcs : 0 ≤ R.cells ∧ 0 ≤ R.slots := ⟨Nat.zero_le _, Nat.zero_le _⟩
  have lk0 := hts (.fieldLink RX5 54 "SayingsMergedModel" "own" "[I") (by decide +kernel)
  have inX5 : ∀ w ∈ wsX50, w ∈ wsX5_rows := by decide +kernel
  have lk2 := hts (.fieldLink RX5 142 "SayingsMergedModel" "sayers" "I") (by decide +kernel)
  have lk3 := hts (.fieldLink RX5 48 "SayingsMergedModel" "burdens" "[I") (by decide +kernel)
  unfold zf_X5_rows at hf
  refine lv_iconst (v := (0 : Int32)) hx hb dX5_rows_0 (by decide) ?_
  refine lv_istore_n (lv' := [(3, .int (0 : Int32)), (0, .ref a_md), (1, .int x0), (2, .int x1)]) hx hb dX5_rows_1 rfl hl (by decide) rfl (fun ls hl => ?_)
  have lp2 : ∀ (n : Nat) (w1 : Int32) (w2 : Nat → Int32) (z2 : Int32 × (Nat → Int32)) (H : Heap) (locs : List Loc) (ls : Array Slot), zl_X5_rows_2 x0 x1 v_md_sayers f_md_burdens n w1 w2 = some z2 → va_P D vwCl [(a_md, .inr (5, [.int v_md_length, .ref a_md_text, .int v_md_laws, .int v_md_sayers, .long v_md_there, .long v_md_question, .ref a_md_weight, .ref a_md_says, .ref a_md_cost, .int v_md_measure, .long v_md_trace, .int v_md_readLaws, .int v_md_readSayers, .long v_md_readThere, .ref a_md_readWeight, .ref a_md_readSays, .int v_md_begin, .int v_md_end, .int v_md_sort, .int v_md_open, .ref a_md_opened, .int v_md_level, .ref a_md_any, .ref a_md_all, .long v_md_said, .ref a_md_burdens, .ref a_md_best, .ref a_md_own, .ref a_md_truth])), (a_md_burdens, .inl (cI, 448, .inl f_md_burdens)), (a_md_own, .inl (cI, 7, .inl w2))] H → va_D A [(a_md, .inr (5, [.int v_md_length, .ref a_md_text, .int v_md_laws, .int v_md_sayers, .long v_md_there, .long v_md_question, .ref a_md_weight, .ref a_md_says, .ref a_md_cost, .int v_md_measure, .long v_md_trace, .int v_md_readLaws, .int v_md_readSayers, .long v_md_readThere, .ref a_md_readWeight, .ref a_md_readSays, .int v_md_begin, .int v_md_end, .int v_md_sort, .int v_md_open, .ref a_md_opened, .int v_md_level, .ref a_md_any, .ref a_md_all, .long v_md_said, .ref a_md_burdens, .ref a_md_best, .ref a_md_own, .ref a_md_truth])), (a_md_burdens, .inl (cI, 448, .inl f_md_burdens)), (a_md_own, .inl (cI, 7, .inl w2))] → va_S A s.heap H locs → lv_has ls 6 [(0, .ref a_md), (1, .int x0), (2, .int x1), (3, .int w1)] → (∀ (H : Heap) (locs : List Loc) (ls : Array Slot), va_P D vwCl [(a_md, .inr (5, [.int v_md_length, .ref a_md_text, .int v_md_laws, .int v_md_sayers, .long v_md_there, .long v_md_question, .ref a_md_weight, .ref a_md_says, .ref a_md_cost, .int v_md_measure, .long v_md_trace, .int v_md_readLaws, .int v_md_readSayers, .long v_md_readThere, .ref a_md_readWeight, .ref a_md_readSays, .int v_md_begin, .int v_md_end, .int v_md_sort, .int v_md_open, .ref a_md_opened, .int v_md_level, .ref a_md_any, .ref a_md_all, .long v_md_said, .ref a_md_burdens, .ref a_md_best, .ref a_md_own, .ref a_md_truth])), (a_md_burdens, .inl (cI, 448, .inl f_md_burdens)), (a_md_own, .inl (cI, 7, .inl z2.2))] H → va_D A [(a_md, .inr (5, [.int v_md_length, .ref a_md_text, .int v_md_laws, .int v_md_sayers, .long v_md_there, .long v_md_question, .ref a_md_weight, .ref a_md_says, .ref a_md_cost, .int v_md_measure, .long v_md_trace, .int v_md_readLaws, .int v_md_readSayers, .long v_md_readThere, .ref a_md_readWeight, .ref a_md_readSays, .int v_md_begin, .int v_md_end, .int v_md_sort, .int v_md_open, .ref a_md_opened, .int v_md_level, .ref a_md_any, .ref a_md_all, .long v_md_said, .ref a_md_burdens, .ref a_md_best, .ref a_md_own, .ref a_md_truth])), (a_md_burdens, .inl (cI, 448, .inl f_md_burdens)), (a_md_own, .inl (cI, 7, .inl z2.2))] → va_S A s.heap H locs → lv_has ls 6 [(0, .ref a_md), (1, .int x0), (2, .int x1), (3, .int z2.1)] → W p l e R s m args below meth c H locs 0 0 Q (F0 m 48 ls [])) → W p l e R s m args below meth c H locs 0 0 Q (F0 m 2 ls []) := by
    intro n
    induction n with
    | zero => intro w1 w2 z2 H locs ls hf; exact absurd (show none = some z2 from hf) (by simp)
    | succ n ih =>
      intro w1 w2 z2 H locs ls hf hP hD hS hl hk
      rw [zl_X5_rows_2] at hf
      refine lv_iload_n hx hb dX5_rows_2 rfl (lv_at hl 3 rfl) ?_
      refine lv_bipush (v := (7 : Int32)) hx hb dX5_rows_3 (by decide) ?_
      refine lv_icmp_ge (tgt := 48) hx hb dX5_rows_5 (by decide) (fun c12 => ?_) (fun c12 => ?_)
      · have hf := zk_t c12 hf
        obtain rfl := Option.some.inj hf
        exact hk _ _ _ hP hD hS (lv_sub hl [0, 1, 2, 3] rfl)
      · have hf := zk_f c12 hf
        refine lv_aload_n hx hb dX5_rows_8 rfl (lv_at hl 0 rfl) ?_
        refine va_get (ci := 5) (v := .ref a_md_own) (C := RX5) (T := TX5) (N := 29) hx hb hts inX5 hown hK hP 0 rfl rfl 27 (by decide) lk0 (fun _ h9 => h9) rfl dX5_rows_9 ?_
        refine lv_iload_n hx hb dX5_rows_12 rfl (lv_at hl 3 rfl) ?_
        refine lv_iload_n hx hb dX5_rows_13 rfl (lv_at hl 1 rfl) ?_
        refine lv_iconst (v := (2 : Int32)) hx hb dX5_rows_14 (by decide) ?_
        refine lv_icmp_ne (tgt := 40) hx hb dX5_rows_15 (by decide) (fun c11 => ?_) (fun c11 => ?_)
        · have hf := zk_f c11 hf
          refine lv_iconst (v := (0 : Int32)) hx hb dX5_rows_40 (by decide) ?_
          obtain ⟨g3, hf⟩ := zk_gd_s hf
          refine va_iast hx hb hK hP hD hS 2 0 rfl rfl (zk_in_s g3) dX5_rows_41 (fun H locs hP hD hS => ?_)
          have hP : va_P D vwCl [(a_md, .inr (5, [.int v_md_length, .ref a_md_text, .int v_md_laws, .int v_md_sayers, .long v_md_there, .long v_md_question, .ref a_md_weight, .ref a_md_says, .ref a_md_cost, .int v_md_measure, .long v_md_trace, .int v_md_readLaws, .int v_md_readSayers, .long v_md_readThere, .ref a_md_readWeight, .ref a_md_readSays, .int v_md_begin, .int v_md_end, .int v_md_sort, .int v_md_open, .ref a_md_opened, .int v_md_level, .ref a_md_any, .ref a_md_all, .long v_md_said, .ref a_md_burdens, .ref a_md_best, .ref a_md_own, .ref a_md_truth])), (a_md_burdens, .inl (cI, 448, .inl f_md_burdens)), (a_md_own, .inl (cI, 7, .inl (upd w2 w1.toNatClampNeg (0 : Int32))))] H := hP
          have hD : va_D A [(a_md, .inr (5, [.int v_md_length, .ref a_md_text, .int v_md_laws, .int v_md_sayers, .long v_md_there, .long v_md_question, .ref a_md_weight, .ref a_md_says, .ref a_md_cost, .int v_md_measure, .long v_md_trace, .int v_md_readLaws, .int v_md_readSayers, .long v_md_readThere, .ref a_md_readWeight, .ref a_md_readSays, .int v_md_begin, .int v_md_end, .int v_md_sort, .int v_md_open, .ref a_md_opened, .int v_md_level, .ref a_md_any, .ref a_md_all, .long v_md_said, .ref a_md_burdens, .ref a_md_best, .ref a_md_own, .ref a_md_truth])), (a_md_burdens, .inl (cI, 448, .inl f_md_burdens)), (a_md_own, .inl (cI, 7, .inl (upd w2 w1.toNatClampNeg (0 : Int32))))] := hD
          obtain ⟨y4, ey4, hf⟩ := zk_lt_s hf
          refine lv_iinc (v := y4) (lv' := [(3, .int y4), (0, .ref a_md), (1, .int x0), (2, .int x1)]) hx hb dX5_rows_42 hl (k := 3) rfl (by rw [ey4]; rfl) (by decide) rfl (fun ls hl => ?_)
          refine lv_goto (tgt := 2) hx hb dX5_rows_45 (by decide) ?_
          exact ih y4 (upd w2 w1.toNatClampNeg (0 : Int32)) _ _ _ _ hf hP hD hS (lv_sub hl [1, 2, 3, 0] rfl) hk
        · have hf := zk_t c11 hf
          refine lv_iload_n hx hb dX5_rows_18 rfl (lv_at hl 3 rfl) ?_
          refine lv_aload_n hx hb dX5_rows_19 rfl (lv_at hl 0 rfl) ?_
          refine va_get (ci := 5) (v := .int v_md_sayers) (C := RX5) (T := TX5) (N := 29) hx hb hts inX5 hown hK hP 0 rfl rfl 3 (by decide) lk2 (fun _ h9 => h9) rfl dX5_rows_20 ?_
          refine lv_icmp_ge (tgt := 40) hx hb dX5_rows_23 (by decide) (fun c10 => ?_) (fun c10 => ?_)
          · have hf := zk_t c10 hf
            refine lv_iconst (v := (0 : Int32)) hx hb dX5_rows_40 (by decide) ?_
            obtain ⟨g5, hf⟩ := zk_gd_s hf
            refine va_iast hx hb hK hP hD hS 2 0 rfl rfl (zk_in_s g5) dX5_rows_41 (fun H locs hP hD hS => ?_)
            have hP : va_P D vwCl [(a_md, .inr (5, [.int v_md_length, .ref a_md_text, .int v_md_laws, .int v_md_sayers, .long v_md_there, .long v_md_question, .ref a_md_weight, .ref a_md_says, .ref a_md_cost, .int v_md_measure, .long v_md_trace, .int v_md_readLaws, .int v_md_readSayers, .long v_md_readThere, .ref a_md_readWeight, .ref a_md_readSays, .int v_md_begin, .int v_md_end, .int v_md_sort, .int v_md_open, .ref a_md_opened, .int v_md_level, .ref a_md_any, .ref a_md_all, .long v_md_said, .ref a_md_burdens, .ref a_md_best, .ref a_md_own, .ref a_md_truth])), (a_md_burdens, .inl (cI, 448, .inl f_md_burdens)), (a_md_own, .inl (cI, 7, .inl (upd w2 w1.toNatClampNeg (0 : Int32))))] H := hP
            have hD : va_D A [(a_md, .inr (5, [.int v_md_length, .ref a_md_text, .int v_md_laws, .int v_md_sayers, .long v_md_there, .long v_md_question, .ref a_md_weight, .ref a_md_says, .ref a_md_cost, .int v_md_measure, .long v_md_trace, .int v_md_readLaws, .int v_md_readSayers, .long v_md_readThere, .ref a_md_readWeight, .ref a_md_readSays, .int v_md_begin, .int v_md_end, .int v_md_sort, .int v_md_open, .ref a_md_opened, .int v_md_level, .ref a_md_any, .ref a_md_all, .long v_md_said, .ref a_md_burdens, .ref a_md_best, .ref a_md_own, .ref a_md_truth])), (a_md_burdens, .inl (cI, 448, .inl f_md_burdens)), (a_md_own, .inl (cI, 7, .inl (upd w2 w1.toNatClampNeg (0 : Int32))))] := hD
            obtain ⟨y6, ey6, hf⟩ := zk_lt_s hf
            refine lv_iinc (v := y6) (lv' := [(3, .int y6), (0, .ref a_md), (1, .int x0), (2, .int x1)]) hx hb dX5_rows_42 hl (k := 3) rfl (by rw [ey6]; rfl) (by decide) rfl (fun ls hl => ?_)
            refine lv_goto (tgt := 2) hx hb dX5_rows_45 (by decide) ?_
            exact ih y6 (upd w2 w1.toNatClampNeg (0 : Int32)) _ _ _ _ hf hP hD hS (lv_sub hl [1, 2, 3, 0] rfl) hk
          · have hf := zk_f c10 hf
            refine lv_aload_n hx hb dX5_rows_26 rfl (lv_at hl 0 rfl) ?_
            refine va_get (ci := 5) (v := .ref a_md_burdens) (C := RX5) (T := TX5) (N := 29) hx hb hts inX5 hown hK hP 0 rfl rfl 25 (by decide) lk3 (fun _ h9 => h9) rfl dX5_rows_27 ?_
            refine lv_bipush (v := (64 : Int32)) hx hb dX5_rows_30 (by decide) ?_
            refine lv_iload_n hx hb dX5_rows_32 rfl (lv_at hl 3 rfl) ?_
            refine lv_imul hx hb dX5_rows_33 ?_
            refine lv_iload_n hx hb dX5_rows_34 rfl (lv_at hl 2 rfl) ?_
            refine lv_iadd hx hb dX5_rows_35 ?_
            obtain ⟨g7, hf⟩ := zk_gd_s hf
            refine va_iald hx hb hK hP 1 0 rfl rfl (zk_in_s g7) dX5_rows_36 ?_
            refine lv_goto (tgt := 41) hx hb dX5_rows_37 (by decide) ?_
            obtain ⟨g8, hf⟩ := zk_gd_s hf
            refine va_iast hx hb hK hP hD hS 2 0 rfl rfl (zk_in_s g8) dX5_rows_41 (fun H locs hP hD hS => ?_)
            have hP : va_P D vwCl [(a_md, .inr (5, [.int v_md_length, .ref a_md_text, .int v_md_laws, .int v_md_sayers, .long v_md_there, .long v_md_question, .ref a_md_weight, .ref a_md_says, .ref a_md_cost, .int v_md_measure, .long v_md_trace, .int v_md_readLaws, .int v_md_readSayers, .long v_md_readThere, .ref a_md_readWeight, .ref a_md_readSays, .int v_md_begin, .int v_md_end, .int v_md_sort, .int v_md_open, .ref a_md_opened, .int v_md_level, .ref a_md_any, .ref a_md_all, .long v_md_said, .ref a_md_burdens, .ref a_md_best, .ref a_md_own, .ref a_md_truth])), (a_md_burdens, .inl (cI, 448, .inl f_md_burdens)), (a_md_own, .inl (cI, 7, .inl (upd w2 w1.toNatClampNeg (f_md_burdens (((64 : Int32) * w1) + x1).toNatClampNeg))))] H := hP
            have hD : va_D A [(a_md, .inr (5, [.int v_md_length, .ref a_md_text, .int v_md_laws, .int v_md_sayers, .long v_md_there, .long v_md_question, .ref a_md_weight, .ref a_md_says, .ref a_md_cost, .int v_md_measure, .long v_md_trace, .int v_md_readLaws, .int v_md_readSayers, .long v_md_readThere, .ref a_md_readWeight, .ref a_md_readSays, .int v_md_begin, .int v_md_end, .int v_md_sort, .int v_md_open, .ref a_md_opened, .int v_md_level, .ref a_md_any, .ref a_md_all, .long v_md_said, .ref a_md_burdens, .ref a_md_best, .ref a_md_own, .ref a_md_truth])), (a_md_burdens, .inl (cI, 448, .inl f_md_burdens)), (a_md_own, .inl (cI, 7, .inl (upd w2 w1.toNatClampNeg (f_md_burdens (((64 : Int32) * w1) + x1).toNatClampNeg))))] := hD
            obtain ⟨y9, ey9, hf⟩ := zk_lt_s hf
            refine lv_iinc (v := y9) (lv' := [(3, .int y9), (0, .ref a_md), (1, .int x0), (2, .int x1)]) hx hb dX5_rows_42 hl (k := 3) rfl (by rw [ey9]; rfl) (by decide) rfl (fun ls hl => ?_)
            refine lv_goto (tgt := 2) hx hb dX5_rows_45 (by decide) ?_
            exact ih y9 (upd w2 w1.toNatClampNeg (f_md_burdens (((64 : Int32) * w1) + x1).toNatClampNeg)) _ _ _ _ hf hP hD hS (lv_sub hl [1, 2, 3, 0] rfl) hk
  obtain ⟨v13, hv13, hf⟩ := zk_ob hf
  refine lp2 zk_F (0 : Int32) f_md_own v13 _ _ _ hv13 hP hD hS (lv_sub hl [1, 2, 3, 0] rfl) ?_
  intro H locs ls hP hD hS hl
  refine lv_iload_n hx hb dX5_rows_48 rfl (lv_at hl 1 rfl) ?_
  refine lv_iconst (v := (2 : Int32)) hx hb dX5_rows_49 (by decide) ?_
  obtain ⟨v14, hv14, hf⟩ := zk_ob hf
  have kv14 : ∀ (H : Heap) (locs : List Loc) (ls : Array Slot), va_P D vwCl [(a_md, .inr (5, [.int v_md_length, .ref a_md_text, .int v_md_laws, .int v_md_sayers, .long v_md_there, .long v_md_question, .ref a_md_weight, .ref a_md_says, .ref a_md_cost, .int v_md_measure, .long v_md_trace, .int v_md_readLaws, .int v_md_readSayers, .long v_md_readThere, .ref a_md_readWeight, .ref a_md_readSays, .int v_md_begin, .int v_md_end, .int v_md_sort, .int v_md_open, .ref a_md_opened, .int v_md_level, .ref a_md_any, .ref a_md_all, .long v_md_said, .ref a_md_burdens, .ref a_md_best, .ref a_md_own, .ref a_md_truth])), (a_md_burdens, .inl (cI, 448, .inl f_md_burdens)), (a_md_own, .inl (cI, 7, .inl v14))] H → va_D A [(a_md, .inr (5, [.int v_md_length, .ref a_md_text, .int v_md_laws, .int v_md_sayers, .long v_md_there, .long v_md_question, .ref a_md_weight, .ref a_md_says, .ref a_md_cost, .int v_md_measure, .long v_md_trace, .int v_md_readLaws, .int v_md_readSayers, .long v_md_readThere, .ref a_md_readWeight, .ref a_md_readSays, .int v_md_begin, .int v_md_end, .int v_md_sort, .int v_md_open, .ref a_md_opened, .int v_md_level, .ref a_md_any, .ref a_md_all, .long v_md_said, .ref a_md_burdens, .ref a_md_best, .ref a_md_own, .ref a_md_truth])), (a_md_burdens, .inl (cI, 448, .inl f_md_burdens)), (a_md_own, .inl (cI, 7, .inl v14))] → va_S A s.heap H locs → lv_has ls 6 [(0, .ref a_md), (1, .int x0), (2, .int x1), (3, .int v13.1)] → W p l e R s m args below meth c H locs 0 0 Q (F0 m 76 ls []) := by
    intro H locs ls hP hD hS hl
    refine lv_iconst (v := (1 : Int32)) hx hb dX5_rows_76 (by decide) ?_
    refine lv_istore_n (lv' := [(3, .int (1 : Int32)), (0, .ref a_md), (1, .int x0), (2, .int x1)]) hx hb dX5_rows_77 rfl hl (by decide) rfl (fun ls hl => ?_)
    have lp78 : ∀ (n : Nat) (w15 : Int32) (w16 : Nat → Int32) (z78 : Int32 × (Nat → Int32)) (H : Heap) (locs : List Loc) (ls : Array Slot), zl_X5_rows_78 n w15 w16 = some z78 → va_P D vwCl [(a_md, .inr (5, [.int v_md_length, .ref a_md_text, .int v_md_laws, .int v_md_sayers, .long v_md_there, .long v_md_question, .ref a_md_weight, .ref a_md_says, .ref a_md_cost, .int v_md_measure, .long v_md_trace, .int v_md_readLaws, .int v_md_readSayers, .long v_md_readThere, .ref a_md_readWeight, .ref a_md_readSays, .int v_md_begin, .int v_md_end, .int v_md_sort, .int v_md_open, .ref a_md_opened, .int v_md_level, .ref a_md_any, .ref a_md_all, .long v_md_said, .ref a_md_burdens, .ref a_md_best, .ref a_md_own, .ref a_md_truth])), (a_md_burdens, .inl (cI, 448, .inl f_md_burdens)), (a_md_own, .inl (cI, 7, .inl w16))] H → va_D A [(a_md, .inr (5, [.int v_md_length, .ref a_md_text, .int v_md_laws, .int v_md_sayers, .long v_md_there, .long v_md_question, .ref a_md_weight, .ref a_md_says, .ref a_md_cost, .int v_md_measure, .long v_md_trace, .int v_md_readLaws, .int v_md_readSayers, .long v_md_readThere, .ref a_md_readWeight, .ref a_md_readSays, .int v_md_begin, .int v_md_end, .int v_md_sort, .int v_md_open, .ref a_md_opened, .int v_md_level, .ref a_md_any, .ref a_md_all, .long v_md_said, .ref a_md_burdens, .ref a_md_best, .ref a_md_own, .ref a_md_truth])), (a_md_burdens, .inl (cI, 448, .inl f_md_burdens)), (a_md_own, .inl (cI, 7, .inl w16))] → va_S A s.heap H locs → lv_has ls 6 [(0, .ref a_md), (1, .int x0), (2, .int x1), (3, .int w15)] → (∀ (H : Heap) (locs : List Loc) (ls : Array Slot), va_P D vwCl [(a_md, .inr (5, [.int v_md_length, .ref a_md_text, .int v_md_laws, .int v_md_sayers, .long v_md_there, .long v_md_question, .ref a_md_weight, .ref a_md_says, .ref a_md_cost, .int v_md_measure, .long v_md_trace, .int v_md_readLaws, .int v_md_readSayers, .long v_md_readThere, .ref a_md_readWeight, .ref a_md_readSays, .int v_md_begin, .int v_md_end, .int v_md_sort, .int v_md_open, .ref a_md_opened, .int v_md_level, .ref a_md_any, .ref a_md_all, .long v_md_said, .ref a_md_burdens, .ref a_md_best, .ref a_md_own, .ref a_md_truth])), (a_md_burdens, .inl (cI, 448, .inl f_md_burdens)), (a_md_own, .inl (cI, 7, .inl z78.2))] H → va_D A [(a_md, .inr (5, [.int v_md_length, .ref a_md_text, .int v_md_laws, .int v_md_sayers, .long v_md_there, .long v_md_question, .ref a_md_weight, .ref a_md_says, .ref a_md_cost, .int v_md_measure, .long v_md_trace, .int v_md_readLaws, .int v_md_readSayers, .long v_md_readThere, .ref a_md_readWeight, .ref a_md_readSays, .int v_md_begin, .int v_md_end, .int v_md_sort, .int v_md_open, .ref a_md_opened, .int v_md_level, .ref a_md_any, .ref a_md_all, .long v_md_said, .ref a_md_burdens, .ref a_md_best, .ref a_md_own, .ref a_md_truth])), (a_md_burdens, .inl (cI, 448, .inl f_md_burdens)), (a_md_own, .inl (cI, 7, .inl z78.2))] → va_S A s.heap H locs → lv_has ls 6 [(0, .ref a_md), (1, .int x0), (2, .int x1), (3, .int z78.1)] → W p l e R s m args below meth c H locs 0 0 Q (F0 m 159 ls [])) → W p l e R s m args below meth c H locs 0 0 Q (F0 m 78 ls []) := by
      intro n
      induction n with
      | zero => intro w15 w16 z78 H locs ls hf; exact absurd (show none = some z78 from hf) (by simp)
      | succ n ih =>
        intro w15 w16 z78 H locs ls hf hP hD hS hl hk
        rw [zl_X5_rows_78] at hf
        refine lv_iload_n hx hb dX5_rows_78 rfl (lv_at hl 3 rfl) ?_
        refine lv_bipush (v := (7 : Int32)) hx hb dX5_rows_79 (by decide) ?_
        refine lv_icmp_ge (tgt := 159) hx hb dX5_rows_81 (by decide) (fun c28 => ?_) (fun c28 => ?_)
        · have hf := zk_t c28 hf
          obtain rfl := Option.some.inj hf
          exact hk _ _ _ hP hD hS (lv_sub hl [0, 1, 2, 3] rfl)
        · have hf := zk_f c28 hf
          refine lv_iload_n hx hb dX5_rows_84 rfl (lv_at hl 3 rfl) ?_
          refine lv_istore (lv' := [(4, .int w15), (0, .ref a_md), (1, .int x0), (2, .int x1), (3, .int w15)]) hx hb dX5_rows_85 hl (by decide) rfl (fun ls hl => ?_)
          have lp87_26 : ∀ (n : Nat) (w17 : Int32) (w18 : Nat → Int32) (z87 : Int32 × (Nat → Int32)) (H : Heap) (locs : List Loc) (ls : Array Slot), zl_X5_rows_87 n w17 w18 = some z87 → va_P D vwCl [(a_md, .inr (5, [.int v_md_length, .ref a_md_text, .int v_md_laws, .int v_md_sayers, .long v_md_there, .long v_md_question, .ref a_md_weight, .ref a_md_says, .ref a_md_cost, .int v_md_measure, .long v_md_trace, .int v_md_readLaws, .int v_md_readSayers, .long v_md_readThere, .ref a_md_readWeight, .ref a_md_readSays, .int v_md_begin, .int v_md_end, .int v_md_sort, .int v_md_open, .ref a_md_opened, .int v_md_level, .ref a_md_any, .ref a_md_all, .long v_md_said, .ref a_md_burdens, .ref a_md_best, .ref a_md_own, .ref a_md_truth])), (a_md_burdens, .inl (cI, 448, .inl f_md_burdens)), (a_md_own, .inl (cI, 7, .inl w18))] H → va_D A [(a_md, .inr (5, [.int v_md_length, .ref a_md_text, .int v_md_laws, .int v_md_sayers, .long v_md_there, .long v_md_question, .ref a_md_weight, .ref a_md_says, .ref a_md_cost, .int v_md_measure, .long v_md_trace, .int v_md_readLaws, .int v_md_readSayers, .long v_md_readThere, .ref a_md_readWeight, .ref a_md_readSays, .int v_md_begin, .int v_md_end, .int v_md_sort, .int v_md_open, .ref a_md_opened, .int v_md_level, .ref a_md_any, .ref a_md_all, .long v_md_said, .ref a_md_burdens, .ref a_md_best, .ref a_md_own, .ref a_md_truth])), (a_md_burdens, .inl (cI, 448, .inl f_md_burdens)), (a_md_own, .inl (cI, 7, .inl w18))] → va_S A s.heap H locs → lv_has ls 6 [(0, .ref a_md), (1, .int x0), (2, .int x1), (3, .int w15), (4, .int w17)] → (∀ (H : Heap) (locs : List Loc) (ls : Array Slot), va_P D vwCl [(a_md, .inr (5, [.int v_md_length, .ref a_md_text, .int v_md_laws, .int v_md_sayers, .long v_md_there, .long v_md_question, .ref a_md_weight, .ref a_md_says, .ref a_md_cost, .int v_md_measure, .long v_md_trace, .int v_md_readLaws, .int v_md_readSayers, .long v_md_readThere, .ref a_md_readWeight, .ref a_md_readSays, .int v_md_begin, .int v_md_end, .int v_md_sort, .int v_md_open, .ref a_md_opened, .int v_md_level, .ref a_md_any, .ref a_md_all, .long v_md_said, .ref a_md_burdens, .ref a_md_best, .ref a_md_own, .ref a_md_truth])), (a_md_burdens, .inl (cI, 448, .inl f_md_burdens)), (a_md_own, .inl (cI, 7, .inl z87.2))] H → va_D A [(a_md, .inr (5, [.int v_md_length, .ref a_md_text, .int v_md_laws, .int v_md_sayers, .long v_md_there, .long v_md_question, .ref a_md_weight, .ref a_md_says, .ref a_md_cost, .int v_md_measure, .long v_md_trace, .int v_md_readLaws, .int v_md_readSayers, .long v_md_readThere, .ref a_md_readWeight, .ref a_md_readSays, .int v_md_begin, .int v_md_end, .int v_md_sort, .int v_md_open, .ref a_md_opened, .int v_md_level, .ref a_md_any, .ref a_md_all, .long v_md_said, .ref a_md_burdens, .ref a_md_best, .ref a_md_own, .ref a_md_truth])), (a_md_burdens, .inl (cI, 448, .inl f_md_burdens)), (a_md_own, .inl (cI, 7, .inl z87.2))] → va_S A s.heap H locs → lv_has ls 6 [(0, .ref a_md), (1, .int x0), (2, .int x1), (3, .int w15), (4, .int z87.1)] → W p l e R s m args below meth c H locs 0 0 Q (F0 m 153 ls [])) → W p l e R s m args below meth c H locs 0 0 Q (F0 m 87 ls []) := by
            intro n
            induction n with
            | zero => intro w17 w18 z87 H locs ls hf; exact absurd (show none = some z87 from hf) (by simp)
            | succ n ih =>
              intro w17 w18 z87 H locs ls hf hP hD hS hl hk
              rw [zl_X5_rows_87] at hf
              refine lv_iload hx hb dX5_rows_87 (lv_at hl 4 rfl) ?_
              refine lv_if_le (tgt := 153) hx hb dX5_rows_89 (by decide) (fun c24 => ?_) (fun c24 => ?_)
              · have hf := zk_t c24 hf
                obtain rfl := Option.some.inj hf
                exact hk _ _ _ hP hD hS (lv_sub hl [0, 1, 2, 3, 4] rfl)
              · have hf := zk_f c24 hf
                refine lv_aload_n hx hb dX5_rows_92 rfl (lv_at hl 0 rfl) ?_
                refine va_get (ci := 5) (v := .ref a_md_own) (C := RX5) (T := TX5) (N := 29) hx hb hts inX5 hown hK hP 0 rfl rfl 27 (by decide) lk0 (fun _ h9 => h9) rfl dX5_rows_93 ?_
                refine lv_iload hx hb dX5_rows_96 (lv_at hl 4 rfl) ?_
                obtain ⟨g19, hf⟩ := zk_gd_s hf
                refine va_iald hx hb hK hP 2 0 rfl rfl (zk_in_s g19) dX5_rows_98 ?_
                refine lv_aload_n hx hb dX5_rows_99 rfl (lv_at hl 0 rfl) ?_
                refine va_get (ci := 5) (v := .ref a_md_own) (C := RX5) (T := TX5) (N := 29) hx hb hts inX5 hown hK hP 0 rfl rfl 27 (by decide) lk0 (fun _ h9 => h9) rfl dX5_rows_100 ?_
                refine lv_iload hx hb dX5_rows_103 (lv_at hl 4 rfl) ?_
                refine lv_iconst (v := (1 : Int32)) hx hb dX5_rows_105 (by decide) ?_
                refine lv_isub hx hb dX5_rows_106 ?_
                obtain ⟨g20, hf⟩ := zk_gd_s hf
                refine va_iald hx hb hK hP 2 0 rfl rfl (zk_in_s g20) dX5_rows_107 ?_
                refine lv_icmp_le (tgt := 153) hx hb dX5_rows_108 (by decide) (fun c23 => ?_) (fun c23 => ?_)
                · have hf := zk_t c23 hf
                  obtain rfl := Option.some.inj hf
                  exact hk _ _ _ hP hD hS (lv_sub hl [0, 1, 2, 3, 4] rfl)
                · have hf := zk_f c23 hf
                  refine lv_aload_n hx hb dX5_rows_111 rfl (lv_at hl 0 rfl) ?_
                  refine va_get (ci := 5) (v := .ref a_md_own) (C := RX5) (T := TX5) (N := 29) hx hb hts inX5 hown hK hP 0 rfl rfl 27 (by decide) lk0 (fun _ h9 => h9) rfl dX5_rows_112 ?_
                  refine lv_iload hx hb dX5_rows_115 (lv_at hl 4 rfl) ?_
                  refine va_iald hx hb hK hP 2 0 rfl rfl (zk_in_s g19) dX5_rows_117 ?_
                  obtain ⟨y21, ey21, hf⟩ := zk_lt_s hf
                  refine zk_topi ey21 ?_
                  refine lv_istore (lv' := [(5, .int y21), (0, .ref a_md), (1, .int x0), (2, .int x1), (3, .int w15), (4, .int w17)]) hx hb dX5_rows_118 hl (by decide) rfl (fun ls hl => ?_)
                  refine lv_aload_n hx hb dX5_rows_120 rfl (lv_at hl 1 rfl) ?_
                  refine va_get (ci := 5) (v := .ref a_md_own) (C := RX5) (T := TX5) (N := 29) hx hb hts inX5 hown hK hP 0 rfl rfl 27 (by decide) lk0 (fun _ h9 => h9) rfl dX5_rows_121 ?_
                  refine lv_iload hx hb dX5_rows_124 (lv_at hl 5 rfl) ?_
                  refine lv_aload_n hx hb dX5_rows_126 rfl (lv_at hl 1 rfl) ?_
                  refine va_get (ci := 5) (v := .ref a_md_own) (C := RX5) (T := TX5) (N := 29) hx hb hts inX5 hown hK hP 0 rfl rfl 27 (by decide) lk0 (fun _ h9 => h9) rfl dX5_rows_127 ?_
                  refine lv_iload hx hb dX5_rows_130 (lv_at hl 5 rfl) ?_
                  refine lv_iconst (v := (1 : Int32)) hx hb dX5_rows_132 (by decide) ?_
                  refine lv_isub hx hb dX5_rows_133 ?_
                  refine va_iald hx hb hK hP 2 0 rfl rfl (zk_in_s g20) dX5_rows_134 ?_
                  refine va_iast hx hb hK hP hD hS 2 0 rfl rfl (zk_in_s g19) dX5_rows_135 (fun H locs hP hD hS => ?_)
                  have hP : va_P D vwCl [(a_md, .inr (5, [.int v_md_length, .ref a_md_text, .int v_md_laws, .int v_md_sayers, .long v_md_there, .long v_md_question, .ref a_md_weight, .ref a_md_says, .ref a_md_cost, .int v_md_measure, .long v_md_trace, .int v_md_readLaws, .int v_md_readSayers, .long v_md_readThere, .ref a_md_readWeight, .ref a_md_readSays, .int v_md_begin, .int v_md_end, .int v_md_sort, .int v_md_open, .ref a_md_opened, .int v_md_level, .ref a_md_any, .ref a_md_all, .long v_md_said, .ref a_md_burdens, .ref a_md_best, .ref a_md_own, .ref a_md_truth])), (a_md_burdens, .inl (cI, 448, .inl f_md_burdens)), (a_md_own, .inl (cI, 7, .inl (upd w18 w17.toNatClampNeg (w18 (w17 - (1 : Int32)).toNatClampNeg))))] H := hP
                  have hD : va_D A [(a_md, .inr (5, [.int v_md_length, .ref a_md_text, .int v_md_laws, .int v_md_sayers, .long v_md_there, .long v_md_question, .ref a_md_weight, .ref a_md_says, .ref a_md_cost, .int v_md_measure, .long v_md_trace, .int v_md_readLaws, .int v_md_readSayers, .long v_md_readThere, .ref a_md_readWeight, .ref a_md_readSays, .int v_md_begin, .int v_md_end, .int v_md_sort, .int v_md_open, .ref a_md_opened, .int v_md_level, .ref a_md_any, .ref a_md_all, .long v_md_said, .ref a_md_burdens, .ref a_md_best, .ref a_md_own, .ref a_md_truth])), (a_md_burdens, .inl (cI, 448, .inl f_md_burdens)), (a_md_own, .inl (cI, 7, .inl (upd w18 w17.toNatClampNeg (w18 (w17 - (1 : Int32)).toNatClampNeg))))] := hD
                  refine lv_aload_n hx hb dX5_rows_136 rfl (lv_at hl 1 rfl) ?_
                  refine va_get (ci := 5) (v := .ref a_md_own) (C := RX5) (T := TX5) (N := 29) hx hb hts inX5 hown hK hP 0 rfl rfl 27 (by decide) lk0 (fun _ h9 => h9) rfl dX5_rows_137 ?_
                  refine lv_iload hx hb dX5_rows_140 (lv_at hl 5 rfl) ?_
                  refine lv_iconst (v := (1 : Int32)) hx hb dX5_rows_142 (by decide) ?_
                  refine lv_isub hx hb dX5_rows_143 ?_
                  refine lv_iload hx hb dX5_rows_144 (lv_at hl 0 rfl) ?_
                  refine va_iast hx hb hK hP hD hS 2 0 rfl rfl (zk_in_s g20) dX5_rows_146 (fun H locs hP hD hS => ?_)
                  have hP : va_P D vwCl [(a_md, .inr (5, [.int v_md_length, .ref a_md_text, .int v_md_laws, .int v_md_sayers, .long v_md_there, .long v_md_question, .ref a_md_weight, .ref a_md_says, .ref a_md_cost, .int v_md_measure, .long v_md_trace, .int v_md_readLaws, .int v_md_readSayers, .long v_md_readThere, .ref a_md_readWeight, .ref a_md_readSays, .int v_md_begin, .int v_md_end, .int v_md_sort, .int v_md_open, .ref a_md_opened, .int v_md_level, .ref a_md_any, .ref a_md_all, .long v_md_said, .ref a_md_burdens, .ref a_md_best, .ref a_md_own, .ref a_md_truth])), (a_md_burdens, .inl (cI, 448, .inl f_md_burdens)), (a_md_own, .inl (cI, 7, .inl (upd (upd w18 w17.toNatClampNeg (w18 (w17 - (1 : Int32)).toNatClampNeg)) (w17 - (1 : Int32)).toNatClampNeg y21)))] H := hP
                  have hD : va_D A [(a_md, .inr (5, [.int v_md_length, .ref a_md_text, .int v_md_laws, .int v_md_sayers, .long v_md_there, .long v_md_question, .ref a_md_weight, .ref a_md_says, .ref a_md_cost, .int v_md_measure, .long v_md_trace, .int v_md_readLaws, .int v_md_readSayers, .long v_md_readThere, .ref a_md_readWeight, .ref a_md_readSays, .int v_md_begin, .int v_md_end, .int v_md_sort, .int v_md_open, .ref a_md_opened, .int v_md_level, .ref a_md_any, .ref a_md_all, .long v_md_said, .ref a_md_burdens, .ref a_md_best, .ref a_md_own, .ref a_md_truth])), (a_md_burdens, .inl (cI, 448, .inl f_md_burdens)), (a_md_own, .inl (cI, 7, .inl (upd (upd w18 w17.toNatClampNeg (w18 (w17 - (1 : Int32)).toNatClampNeg)) (w17 - (1 : Int32)).toNatClampNeg y21)))] := hD
                  obtain ⟨y22, ey22, hf⟩ := zk_lt_s hf
                  refine lv_iinc (v := y22) (lv' := [(4, .int y22), (5, .int y21), (0, .ref a_md), (1, .int x0), (2, .int x1), (3, .int w15)]) hx hb dX5_rows_147 hl (k := 5) rfl (by rw [ey22]; rfl) (by decide) rfl (fun ls hl => ?_)
                  refine lv_goto (tgt := 87) hx hb dX5_rows_150 (by decide) ?_
                  exact ih y22 (upd (upd w18 w17.toNatClampNeg (w18 (w17 - (1 : Int32)).toNatClampNeg)) (w17 - (1 : Int32)).toNatClampNeg y21) _ _ _ _ hf hP hD hS (lv_sub hl [2, 3, 4, 5, 0] rfl) hk
          obtain ⟨v25, hv25, hf⟩ := zk_ob hf
          refine lp87_26 zk_F w15 w16 v25 _ _ _ hv25 hP hD hS (lv_sub hl [1, 2, 3, 4, 0] rfl) ?_
          intro H locs ls hP hD hS hl
          obtain ⟨y27, ey27, hf⟩ := zk_lt_s hf
          refine lv_iinc (v := y27) (lv' := [(3, .int y27), (0, .ref a_md), (1, .int x0), (2, .int x1), (4, .int v25.1)]) hx hb dX5_rows_153 hl (k := 3) rfl (by rw [ey27]; rfl) (by decide) rfl (fun ls hl => ?_)
          refine lv_goto (tgt := 78) hx hb dX5_rows_156 (by decide) ?_
          exact ih y27 v25.2 _ _ _ _ hf hP hD hS (lv_sub hl [1, 2, 3, 0] rfl) hk
    obtain ⟨v29, hv29, hf⟩ := zk_ob hf
    refine lp78 zk_F (1 : Int32) v14 v29 _ _ _ hv29 hP hD hS (lv_sub hl [1, 2, 3, 0] rfl) ?_
    intro H locs ls hP hD hS hl
    obtain rfl := Option.some.inj hf
    exact hret trivial _ _ _ _ hP hD hS dX5_rows_159
  replace hf := hv14
  refine lv_icmp_ge (tgt := 76) hx hb dX5_rows_50 (by decide) (fun c35 => ?_) (fun c35 => ?_)
  · have hf := zk_t c35 hf
    obtain rfl := Option.some.inj hf
    exact kv14 _ _ _ hP hD hS (lv_sub hl [0, 1, 2, 3] rfl)
  · have hf := zk_f c35 hf
    refine lv_aload_n hx hb dX5_rows_53 rfl (lv_at hl 0 rfl) ?_
    refine va_get (ci := 5) (v := .ref a_md_own) (C := RX5) (T := TX5) (N := 29) hx hb hts inX5 hown hK hP 0 rfl rfl 27 (by decide) lk0 (fun _ h9 => h9) rfl dX5_rows_54 ?_
    refine lv_iconst (v := (0 : Int32)) hx hb dX5_rows_57 (by decide) ?_
    refine lv_iload_n hx hb dX5_rows_58 rfl (lv_at hl 1 rfl) ?_
    refine lv_if_ne (tgt := 70) hx hb dX5_rows_59 (by decide) (fun c34 => ?_) (fun c34 => ?_)
    · have hf := zk_f c34 hf
      refine lv_aload_n hx hb dX5_rows_70 rfl (lv_at hl 0 rfl) ?_
      refine lv_iload_n hx hb dX5_rows_71 rfl (lv_at hl 2 rfl) ?_
      obtain ⟨v30, hv30, hf⟩ := zk_ob hf
      refine zk_goR (zk_V (As := [.int x1]) (rest := [.int (0 : Int32), .ref a_md_own]) hx hb hml hown hts hK hG hP hD hS hA gX5_rows_X5_worstOf rfl hd_X5_worstOf (Nat.le_trans (Nat.le_of_ble_eq_true rfl) hRf) (Nat.le_trans (Nat.le_of_ble_eq_true rfl) hRl) hcs (zc_X5_worstOf l D tL tO cI cJ cB cQ a_md a_md_text a_md_weight a_md_says a_md_cost a_md_readWeight a_md_readSays a_md_opened a_md_any a_md_all a_md_burdens a_md_best a_md_own a_md_truth x1 v_md_length v_md_laws v_md_sayers v_md_there v_md_question v_md_measure v_md_trace v_md_readLaws v_md_readSayers v_md_readThere v_md_begin v_md_end v_md_sort v_md_open v_md_level v_md_said f_md_burdens v30 hv30) rfl rfl 0 rfl hl.1 rfl rfl (Nat.le_of_ble_eq_true rfl) dX5_rows_72 [0, 1] rfl rfl) hP hD hS hA [0, 1] rfl (fun H locs hP hS => ?_)
      obtain ⟨g31, hf⟩ := zk_gd_s hf
      refine va_iast hx hb hK hP hD hS 2 0 rfl rfl (zk_in_s g31) dX5_rows_75 (fun H locs hP hD hS => ?_)
      have hP : va_P D vwCl [(a_md, .inr (5, [.int v_md_length, .ref a_md_text, .int v_md_laws, .int v_md_sayers, .long v_md_there, .long v_md_question, .ref a_md_weight, .ref a_md_says, .ref a_md_cost, .int v_md_measure, .long v_md_trace, .int v_md_readLaws, .int v_md_readSayers, .long v_md_readThere, .ref a_md_readWeight, .ref a_md_readSays, .int v_md_begin, .int v_md_end, .int v_md_sort, .int v_md_open, .ref a_md_opened, .int v_md_level, .ref a_md_any, .ref a_md_all, .long v_md_said, .ref a_md_burdens, .ref a_md_best, .ref a_md_own, .ref a_md_truth])), (a_md_burdens, .inl (cI, 448, .inl f_md_burdens)), (a_md_own, .inl (cI, 7, .inl (upd v13.2 (0 : Int32).toNatClampNeg v30)))] H := hP
      have hD : va_D A [(a_md, .inr (5, [.int v_md_length, .ref a_md_text, .int v_md_laws, .int v_md_sayers, .long v_md_there, .long v_md_question, .ref a_md_weight, .ref a_md_says, .ref a_md_cost, .int v_md_measure, .long v_md_trace, .int v_md_readLaws, .int v_md_readSayers, .long v_md_readThere, .ref a_md_readWeight, .ref a_md_readSays, .int v_md_begin, .int v_md_end, .int v_md_sort, .int v_md_open, .ref a_md_opened, .int v_md_level, .ref a_md_any, .ref a_md_all, .long v_md_said, .ref a_md_burdens, .ref a_md_best, .ref a_md_own, .ref a_md_truth])), (a_md_burdens, .inl (cI, 448, .inl f_md_burdens)), (a_md_own, .inl (cI, 7, .inl (upd v13.2 (0 : Int32).toNatClampNeg v30)))] := hD
      obtain rfl := Option.some.inj hf
      exact kv14 _ _ _ hP hD hS (lv_sub hl [0, 1, 2, 3] rfl)
    · have hf := zk_t c34 hf
      refine lv_aload_n hx hb dX5_rows_62 rfl (lv_at hl 0 rfl) ?_
      refine lv_iload_n hx hb dX5_rows_63 rfl (lv_at hl 2 rfl) ?_
      obtain ⟨v32, hv32, hf⟩ := zk_ob hf
      refine zk_goR (zk_V (As := [.int x1]) (rest := [.int (0 : Int32), .ref a_md_own]) hx hb hml hown hts hK hG hP hD hS hA gX5_rows_X5_sumOf rfl hd_X5_sumOf (Nat.le_trans (Nat.le_of_ble_eq_true rfl) hRf) (Nat.le_trans (Nat.le_of_ble_eq_true rfl) hRl) hcs (zc_X5_sumOf l D tL tO cI cJ cB cQ a_md a_md_text a_md_weight a_md_says a_md_cost a_md_readWeight a_md_readSays a_md_opened a_md_any a_md_all a_md_burdens a_md_best a_md_own a_md_truth x1 v_md_length v_md_laws v_md_sayers v_md_there v_md_question v_md_measure v_md_trace v_md_readLaws v_md_readSayers v_md_readThere v_md_begin v_md_end v_md_sort v_md_open v_md_level v_md_said f_md_burdens v32 hv32) rfl rfl 0 rfl hl.1 rfl rfl (Nat.le_of_ble_eq_true rfl) dX5_rows_64 [0, 1] rfl rfl) hP hD hS hA [0, 1] rfl (fun H locs hP hS => ?_)
      refine lv_goto (tgt := 75) hx hb dX5_rows_67 (by decide) ?_
      obtain ⟨g33, hf⟩ := zk_gd_s hf
      refine va_iast hx hb hK hP hD hS 2 0 rfl rfl (zk_in_s g33) dX5_rows_75 (fun H locs hP hD hS => ?_)
      have hP : va_P D vwCl [(a_md, .inr (5, [.int v_md_length, .ref a_md_text, .int v_md_laws, .int v_md_sayers, .long v_md_there, .long v_md_question, .ref a_md_weight, .ref a_md_says, .ref a_md_cost, .int v_md_measure, .long v_md_trace, .int v_md_readLaws, .int v_md_readSayers, .long v_md_readThere, .ref a_md_readWeight, .ref a_md_readSays, .int v_md_begin, .int v_md_end, .int v_md_sort, .int v_md_open, .ref a_md_opened, .int v_md_level, .ref a_md_any, .ref a_md_all, .long v_md_said, .ref a_md_burdens, .ref a_md_best, .ref a_md_own, .ref a_md_truth])), (a_md_burdens, .inl (cI, 448, .inl f_md_burdens)), (a_md_own, .inl (cI, 7, .inl (upd v13.2 (0 : Int32).toNatClampNeg v32)))] H := hP
      have hD : va_D A [(a_md, .inr (5, [.int v_md_length, .ref a_md_text, .int v_md_laws, .int v_md_sayers, .long v_md_there, .long v_md_question, .ref a_md_weight, .ref a_md_says, .ref a_md_cost, .int v_md_measure, .long v_md_trace, .int v_md_readLaws, .int v_md_readSayers, .long v_md_readThere, .ref a_md_readWeight, .ref a_md_readSays, .int v_md_begin, .int v_md_end, .int v_md_sort, .int v_md_open, .ref a_md_opened, .int v_md_level, .ref a_md_any, .ref a_md_all, .long v_md_said, .ref a_md_burdens, .ref a_md_best, .ref a_md_own, .ref a_md_truth])), (a_md_burdens, .inl (cI, 448, .inl f_md_burdens)), (a_md_own, .inl (cI, 7, .inl (upd v13.2 (0 : Int32).toNatClampNeg v32)))] := hD
      obtain rfl := Option.some.inj hf
      exact kv14 _ _ _ hP hD hS (lv_sub hl [0, 1, 2, 3] rfl)
def zl_X5_against_2 (f_md_best : Nat → Int32) (f_md_own : Nat → Int32) : Nat → (Int32) → Option ((Int32) ⊕ (Int32))
  | 0, _ => none
  | n + 1, w1 =>
    if (7 : Int32) ≤ w1 then
    some (Sum.inl w1)
    else
    zk_gd (zk_in w1 7)
    (if (f_md_own w1.toNatClampNeg) = (f_md_best w1.toNatClampNeg) then
    zk_lt (w1 + 1) (fun y3 =>
    zl_X5_against_2 f_md_best f_md_own n y3)
    else
    if (f_md_best w1.toNatClampNeg) ≤ (f_md_own w1.toNatClampNeg) then
    some (Sum.inr (1 : Int32))
    else
    some (Sum.inr (-1 : Int32)))
def zf_X5_against (f_md_best : Nat → Int32) (f_md_own : Nat → Int32) : Option (Int32) :=
  (zl_X5_against_2 f_md_best f_md_own zk_F (0 : Int32)).bind (fun v7 =>
  zk_su v7
  (fun u8 =>
  some (0 : Int32))
  (fun r9 => some r9))
theorem hd_X5_against : yX5_against.cls = RX5 ∧ yX5_against.cls ≠ "java/lang/invoke/MethodHandle" ∧ yX5_against.cls ≠ "java/lang/invoke/VarHandle" ∧ (parseMethodDescriptor yX5_against.desc).map (fun d => d.parameters.length) = some 0 := by decide +kernel
set_option maxHeartbeats 4000000 in
set_option maxRecDepth 100000 in
theorem zc_X5_against (l : Launch) (D : va_G) (tL tO : Nat) (cI cJ cB cQ : ClassId) (a_md a_md_text a_md_weight a_md_says a_md_cost a_md_readWeight a_md_readSays a_md_opened a_md_any a_md_all a_md_burdens a_md_best a_md_own a_md_truth : Nat) (v_md_length : Int32) (v_md_laws : Int32) (v_md_sayers : Int32) (v_md_there : Int64) (v_md_question : Int64) (v_md_measure : Int32) (v_md_trace : Int64) (v_md_readLaws : Int32) (v_md_readSayers : Int32) (v_md_readThere : Int64) (v_md_begin : Int32) (v_md_end : Int32) (v_md_sort : Int32) (v_md_open : Int32) (v_md_level : Int32) (v_md_said : Int64) (f_md_best : Nat → Int32) (f_md_own : Nat → Int32) (z : Int32) (hf : zf_X5_against f_md_best f_md_own = some z) : zk_CT l D tL tO (zk_ty cI cJ cB cQ) yX5_against wsX5_against 0 0 [.ref a_md] (some (.int z)) [(a_md, .inr (5, [.int v_md_length, .ref a_md_text, .int v_md_laws, .int v_md_sayers, .long v_md_there, .long v_md_question, .ref a_md_weight, .ref a_md_says, .ref a_md_cost, .int v_md_measure, .long v_md_trace, .int v_md_readLaws, .int v_md_readSayers, .long v_md_readThere, .ref a_md_readWeight, .ref a_md_readSays, .int v_md_begin, .int v_md_end, .int v_md_sort, .int v_md_open, .ref a_md_opened, .int v_md_level, .ref a_md_any, .ref a_md_all, .long v_md_said, .ref a_md_burdens, .ref a_md_best, .ref a_md_own, .ref a_md_truth])), (a_md_best, .inl (cI, 7, .inl f_md_best)), (a_md_own, .inl (cI, 7, .inl f_md_own))] [(a_md, .inr (5, [.int v_md_length, .ref a_md_text, .int v_md_laws, .int v_md_sayers, .long v_md_there, .long v_md_question, .ref a_md_weight, .ref a_md_says, .ref a_md_cost, .int v_md_measure, .long v_md_trace, .int v_md_readLaws, .int v_md_readSayers, .long v_md_readThere, .ref a_md_readWeight, .ref a_md_readSays, .int v_md_begin, .int v_md_end, .int v_md_sort, .int v_md_open, .ref a_md_opened, .int v_md_level, .ref a_md_any, .ref a_md_all, .long v_md_said, .ref a_md_burdens, .ref a_md_best, .ref a_md_own, .ref a_md_truth])), (a_md_best, .inl (cI, 7, .inl f_md_best)), (a_md_own, .inl (cI, 7, .inl f_md_own))] := by
  refine zk_of_i (cc := cX5_against) (maxL := 2) (by decide) rfl (Nat.le_of_ble_eq_true rfl) ?_
  intro p e R s m args below meth c A Q ls hx hb hml hRf hRl hts hown hP hK hD hA hS hG hl hret
  have hl : lv_has ls 2 [(0, .ref a_md)] := hl
  have hown : s.vm.findClass RX5 = some m.cls := hown
  have hcs : 0 ≤ R.cells ∧ 0 ≤ R.slots := ⟨Nat.zero_le _, Nat.zero_le _⟩
  have lk0 := hts (.fieldLink RX5 54 "SayingsMergedModel" "own" "[I") (by decide +kernel)
  have inX5 : ∀ w ∈ wsX50, w ∈ wsX5_against := by decide +kernel
  have lk2 := hts (.fieldLink RX5 51 "SayingsMergedModel" "best" "[I") (by decide +kernel)
  unfold zf_X5_against at hf
  refine lv_iconst (v := (0 : Int32)) hx hb dX5_against_0 (by decide) ?_
  refine lv_istore_n (lv' := [(1, .int (0 : Int32)), (0, .ref a_md)]) hx hb dX5_against_1 rfl hl (by decide) rfl (fun ls hl => ?_)
  have lp2 : ∀ (n : Nat) (w1 : Int32) (z2 : (Int32) ⊕ (Int32)) (H : Heap) (locs : List Loc) (ls : Array Slot), zl_X5_against_2 f_md_best f_md_own n w1 = some z2 → va_P D vwCl [(a_md, .inr (5, [.int v_md_length, .ref a_md_text, .int v_md_laws, .int v_md_sayers, .long v_md_there, .long v_md_question, .ref a_md_weight, .ref a_md_says, .ref a_md_cost, .int v_md_measure, .long v_md_trace, .int v_md_readLaws, .int v_md_readSayers, .long v_md_readThere, .ref a_md_readWeight, .ref a_md_readSays, .int v_md_begin, .int v_md_end, .int v_md_sort, .int v_md_open, .ref a_md_opened, .int v_md_level, .ref a_md_any, .ref a_md_all, .long v_md_said, .ref a_md_burdens, .ref a_md_best, .ref a_md_own, .ref a_md_truth])), (a_md_best, .inl (cI, 7, .inl f_md_best)), (a_md_own, .inl (cI, 7, .inl f_md_own))] H → va_D A [(a_md, .inr (5, [.int v_md_length, .ref a_md_text, .int v_md_laws, .int v_md_sayers, .long v_md_there, .long v_md_question, .ref a_md_weight, .ref a_md_says, .ref a_md_cost, .int v_md_measure, .long v_md_trace, .int v_md_readLaws, .int v_md_readSayers, .long v_md_readThere, .ref a_md_readWeight, .ref a_md_readSays, .int v_md_begin, .int v_md_end, .int v_md_sort, .int v_md_open, .ref a_md_opened, .int v_md_level, .ref a_md_any, .ref a_md_all, .long v_md_said, .ref a_md_burdens, .ref a_md_best, .ref a_md_own, .ref a_md_truth])), (a_md_best, .inl (cI, 7, .inl f_md_best)), (a_md_own, .inl (cI, 7, .inl f_md_own))] → va_S A s.heap H locs → lv_has ls 2 [(0, .ref a_md), (1, .int w1)] → (∀ u : Int32, z2 = Sum.inl u → ∀ (H : Heap) (locs : List Loc) (ls : Array Slot), va_P D vwCl [(a_md, .inr (5, [.int v_md_length, .ref a_md_text, .int v_md_laws, .int v_md_sayers, .long v_md_there, .long v_md_question, .ref a_md_weight, .ref a_md_says, .ref a_md_cost, .int v_md_measure, .long v_md_trace, .int v_md_readLaws, .int v_md_readSayers, .long v_md_readThere, .ref a_md_readWeight, .ref a_md_readSays, .int v_md_begin, .int v_md_end, .int v_md_sort, .int v_md_open, .ref a_md_opened, .int v_md_level, .ref a_md_any, .ref a_md_all, .long v_md_said, .ref a_md_burdens, .ref a_md_best, .ref a_md_own, .ref a_md_truth])), (a_md_best, .inl (cI, 7, .inl f_md_best)), (a_md_own, .inl (cI, 7, .inl f_md_own))] H → va_D A [(a_md, .inr (5, [.int v_md_length, .ref a_md_text, .int v_md_laws, .int v_md_sayers, .long v_md_there, .long v_md_question, .ref a_md_weight, .ref a_md_says, .ref a_md_cost, .int v_md_measure, .long v_md_trace, .int v_md_readLaws, .int v_md_readSayers, .long v_md_readThere, .ref a_md_readWeight, .ref a_md_readSays, .int v_md_begin, .int v_md_end, .int v_md_sort, .int v_md_open, .ref a_md_opened, .int v_md_level, .ref a_md_any, .ref a_md_all, .long v_md_said, .ref a_md_burdens, .ref a_md_best, .ref a_md_own, .ref a_md_truth])), (a_md_best, .inl (cI, 7, .inl f_md_best)), (a_md_own, .inl (cI, 7, .inl f_md_own))] → va_S A s.heap H locs → lv_has ls 2 [(0, .ref a_md), (1, .int u)] → W p l e R s m args below meth c H locs 0 0 Q (F0 m 50 ls [])) → (∀ r : Int32, z2 = Sum.inr r → r = z) → W p l e R s m args below meth c H locs 0 0 Q (F0 m 2 ls []) := by
    intro n
    induction n with
    | zero => intro w1 z2 H locs ls hf; exact absurd (show none = some z2 from hf) (by simp)
    | succ n ih =>
      intro w1 z2 H locs ls hf hP hD hS hl hk hkr
      rw [zl_X5_against_2] at hf
      refine lv_iload_n hx hb dX5_against_2 rfl (lv_at hl 1 rfl) ?_
      refine lv_bipush (v := (7 : Int32)) hx hb dX5_against_3 (by decide) ?_
      refine lv_icmp_ge (tgt := 50) hx hb dX5_against_5 (by decide) (fun c6 => ?_) (fun c6 => ?_)
      · have hf := zk_t c6 hf
        exact hk _ (Option.some.inj hf).symm _ _ _ hP hD hS (lv_sub hl [0, 1] rfl)
      · have hf := zk_f c6 hf
        refine lv_aload_n hx hb dX5_against_8 rfl (lv_at hl 0 rfl) ?_
        refine va_get (ci := 5) (v := .ref a_md_own) (C := RX5) (T := TX5) (N := 29) hx hb hts inX5 hown hK hP 0 rfl rfl 27 (by decide) lk0 (fun _ h9 => h9) rfl dX5_against_9 ?_
        refine lv_iload_n hx hb dX5_against_12 rfl (lv_at hl 1 rfl) ?_
        obtain ⟨g2, hf⟩ := zk_gd_s hf
        refine va_iald hx hb hK hP 2 0 rfl rfl (zk_in_s g2) dX5_against_13 ?_
        refine lv_aload_n hx hb dX5_against_14 rfl (lv_at hl 0 rfl) ?_
        refine va_get (ci := 5) (v := .ref a_md_best) (C := RX5) (T := TX5) (N := 29) hx hb hts inX5 hown hK hP 0 rfl rfl 26 (by decide) lk2 (fun _ h9 => h9) rfl dX5_against_15 ?_
        refine lv_iload_n hx hb dX5_against_18 rfl (lv_at hl 1 rfl) ?_
        refine va_iald hx hb hK hP 1 0 rfl rfl (zk_in_s g2) dX5_against_19 ?_
        refine lv_icmp_eq (tgt := 44) hx hb dX5_against_20 (by decide) (fun c5 => ?_) (fun c5 => ?_)
        · have hf := zk_t c5 hf
          obtain ⟨y3, ey3, hf⟩ := zk_lt_s hf
          refine lv_iinc (v := y3) (lv' := [(1, .int y3), (0, .ref a_md)]) hx hb dX5_against_44 hl (k := 1) rfl (by rw [ey3]; rfl) (by decide) rfl (fun ls hl => ?_)
          refine lv_goto (tgt := 2) hx hb dX5_against_47 (by decide) ?_
          exact ih y3 _ _ _ _ hf hP hD hS (lv_sub hl [1, 0] rfl) hk hkr
        · have hf := zk_f c5 hf
          refine lv_aload_n hx hb dX5_against_23 rfl (lv_at hl 0 rfl) ?_
          refine va_get (ci := 5) (v := .ref a_md_own) (C := RX5) (T := TX5) (N := 29) hx hb hts inX5 hown hK hP 0 rfl rfl 27 (by decide) lk0 (fun _ h9 => h9) rfl dX5_against_24 ?_
          refine lv_iload_n hx hb dX5_against_27 rfl (lv_at hl 1 rfl) ?_
          refine va_iald hx hb hK hP 2 0 rfl rfl (zk_in_s g2) dX5_against_28 ?_
          refine lv_aload_n hx hb dX5_against_29 rfl (lv_at hl 0 rfl) ?_
          refine va_get (ci := 5) (v := .ref a_md_best) (C := RX5) (T := TX5) (N := 29) hx hb hts inX5 hown hK hP 0 rfl rfl 26 (by decide) lk2 (fun _ h9 => h9) rfl dX5_against_30 ?_
          refine lv_iload_n hx hb dX5_against_33 rfl (lv_at hl 1 rfl) ?_
          refine va_iald hx hb hK hP 1 0 rfl rfl (zk_in_s g2) dX5_against_34 ?_
          refine lv_icmp_ge (tgt := 42) hx hb dX5_against_35 (by decide) (fun c4 => ?_) (fun c4 => ?_)
          · have hf := zk_t c4 hf
            refine lv_iconst (v := (1 : Int32)) hx hb dX5_against_42 (by decide) ?_
            obtain rfl := hkr _ (Option.some.inj hf).symm
            exact hret trivial _ _ _ _ hP hD hS dX5_against_43
          · have hf := zk_f c4 hf
            refine lv_iconst (v := (-1 : Int32)) hx hb dX5_against_38 (by decide) ?_
            refine lv_goto (tgt := 43) hx hb dX5_against_39 (by decide) ?_
            obtain rfl := hkr _ (Option.some.inj hf).symm
            exact hret trivial _ _ _ _ hP hD hS dX5_against_43
  obtain ⟨v7, hv7, hf⟩ := zk_ob hf
  refine lp2 zk_F (0 : Int32) v7 _ _ _ hv7 hP hD hS (lv_sub hl [1, 0] rfl) ?_ ?_
  · intro u8 hu8 H locs ls hP hD hS hl
    subst hu8
    have hf := zk_su_l hf
    refine lv_iconst (v := (0 : Int32)) hx hb dX5_against_50 (by decide) ?_
    obtain rfl := Option.some.inj hf
    exact hret trivial _ _ _ _ hP hD hS dX5_against_51
  · intro r9 hr9
    subst hr9
    have hf := zk_su_r hf
    exact Option.some.inj hf
def zl_X5_mergedBy_60 (v6 : Nat → Int32) : Nat → (Int32) → (Nat → Int32) → Option (Int32 × (Nat → Int32))
  | 0, _, _ => none
  | n + 1, w14, w15 =>
    if (7 : Int32) ≤ w14 then
    some (w14, w15)
    else
    zk_gd (zk_in w14 7)
    (zk_lt (w14 + 1) (fun y17 =>
    zl_X5_mergedBy_60 v6 n y17 (upd w15 w14.toNatClampNeg (v6 w14.toNatClampNeg))))
def zl_X5_mergedBy_5 (x0 : Int32) (v_md_sayers : Int32) (v_md_there : Int64) (f_md_burdens : Nat → Int32) : Nat → (Int64) → (Int32) → (Nat → Int32) → (Nat → Int32) → Option (Int64 × Int32 × (Nat → Int32) × (Nat → Int32))
  | 0, _, _, _, _ => none
  | n + 1, w1, w2, w3, w4 =>
    if (64 : Int32) ≤ w2 then
    some (w1, w2, w3, w4)
    else
    (zf_X5_has v_md_there w2).bind (fun v5 =>
    if v5 = 0 then
    zk_lt (w2 + 1) (fun y24 =>
    zl_X5_mergedBy_5 x0 v_md_sayers v_md_there f_md_burdens n w1 y24 w3 w4)
    else
    (zf_X5_rows x0 w2 v_md_sayers f_md_burdens w4).bind (fun v6 =>
    (if (lg_cmp w1 (0 : Int64)) = 0 then
    some (-1 : Int32)
    else
    (zf_X5_against w3 v6).bind (fun v22 =>
    some v22)).bind (fun v7 =>
    (if 0 ≤ v7 then
    some (w1, w3)
    else
    (zl_X5_mergedBy_60 v6 zk_F (0 : Int32) w3).bind (fun v19 =>
    some ((0 : Int64), v19.2))).bind (fun v8 =>
    if 0 < v7 then
    zk_lt (v8.1 ||| (0 : Int64)) (fun y9 =>
    zk_lt (w2 + 1) (fun y10 =>
    zl_X5_mergedBy_5 x0 v_md_sayers v_md_there f_md_burdens n y9 y10 v8.2 v6))
    else
    zk_lt (v8.1 ||| ((1 : Int64) <<< (w2.toInt64 &&& 63))) (fun y11 =>
    zk_lt (w2 + 1) (fun y12 =>
    zl_X5_mergedBy_5 x0 v_md_sayers v_md_there f_md_burdens n y11 y12 v8.2 v6))))))
def zf_X5_mergedBy (x0 : Int32) (v_md_sayers : Int32) (v_md_there : Int64) (f_md_burdens : Nat → Int32) (f_md_best : Nat → Int32) (f_md_own : Nat → Int32) : Option (Int64 × (Nat → Int32) × (Nat → Int32)) :=
  (zl_X5_mergedBy_5 x0 v_md_sayers v_md_there f_md_burdens zk_F (0 : Int64) (0 : Int32) f_md_best f_md_own).bind (fun v27 =>
  some (v27.1, v27.2.2.1, v27.2.2.2))
theorem hd_X5_mergedBy : yX5_mergedBy.cls = RX5 ∧ yX5_mergedBy.cls ≠ "java/lang/invoke/MethodHandle" ∧ yX5_mergedBy.cls ≠ "java/lang/invoke/VarHandle" ∧ (parseMethodDescriptor yX5_mergedBy.desc).map (fun d => d.parameters.length) = some 1 := by decide +kernel
set_option maxHeartbeats 4000000 in
set_option maxRecDepth 100000 in
theorem zc_X5_mergedBy (l : Launch) (D : va_G) (tL tO : Nat) (cI cJ cB cQ : ClassId) (a_md a_md_text a_md_weight a_md_says a_md_cost a_md_readWeight a_md_readSays a_md_opened a_md_any a_md_all a_md_burdens a_md_best a_md_own a_md_truth : Nat) (x0 : Int32) (v_md_length : Int32) (v_md_laws : Int32) (v_md_sayers : Int32) (v_md_there : Int64) (v_md_question : Int64) (v_md_measure : Int32) (v_md_trace : Int64) (v_md_readLaws : Int32) (v_md_readSayers : Int32) (v_md_readThere : Int64) (v_md_begin : Int32) (v_md_end : Int32) (v_md_sort : Int32) (v_md_open : Int32) (v_md_level : Int32) (v_md_said : Int64) (f_md_burdens : Nat → Int32) (f_md_best : Nat → Int32) (f_md_own : Nat → Int32) (z : Int64 × (Nat → Int32) × (Nat → Int32)) (hf : zf_X5_mergedBy x0 v_md_sayers v_md_there f_md_burdens f_md_best f_md_own = some z) : zk_CT l D tL tO (zk_ty cI cJ cB cQ) yX5_mergedBy wsX5_mergedBy 2 48 [.ref a_md, .int x0] (some (.long z.1)) [(a_md, .inr (5, [.int v_md_length, .ref a_md_text, .int v_md_laws, .int v_md_sayers, .long v_md_there, .long v_md_question, .ref a_md_weight, .ref a_md_says, .ref a_md_cost, .int v_md_measure, .long v_md_trace, .int v_md_readLaws, .int v_md_readSayers, .long v_md_readThere, .ref a_md_readWeight, .ref a_md_readSays, .int v_md_begin, .int v_md_end, .int v_md_sort, .int v_md_open, .ref a_md_opened, .int v_md_level, .ref a_md_any, .ref a_md_all, .long v_md_said, .ref a_md_burdens, .ref a_md_best, .ref a_md_own, .ref a_md_truth])), (a_md_burdens, .inl (cI, 448, .inl f_md_burdens)), (a_md_best, .inl (cI, 7, .inl f_md_best)), (a_md_own, .inl (cI, 7, .inl f_md_own))] [(a_md, .inr (5, [.int v_md_length, .ref a_md_text, .int v_md_laws, .int v_md_sayers, .long v_md_there, .long v_md_question, .ref a_md_weight, .ref a_md_says, .ref a_md_cost, .int v_md_measure, .long v_md_trace, .int v_md_readLaws, .int v_md_readSayers, .long v_md_readThere, .ref a_md_readWeight, .ref a_md_readSays, .int v_md_begin, .int v_md_end, .int v_md_sort, .int v_md_open, .ref a_md_opened, .int v_md_level, .ref a_md_any, .ref a_md_all, .long v_md_said, .ref a_md_burdens, .ref a_md_best, .ref a_md_own, .ref a_md_truth])), (a_md_burdens, .inl (cI, 448, .inl f_md_burdens)), (a_md_best, .inl (cI, 7, .inl z.2.1)), (a_md_own, .inl (cI, 7, .inl z.2.2))] := by
  refine zk_of_l (cc := cX5_mergedBy) (maxL := 7) (by decide) rfl (Nat.le_of_ble_eq_true rfl) ?_
  intro p e R s m args below meth c A Q ls hx hb hml hRf hRl hts hown hP hK hD hA hS hG hl hret
  have hl : lv_has ls 7 [(0, .ref a_md), (1, .int x0)] := hl
  have hown : s.vm.findClass RX5 = some m.cls := hown
  have hcs : 0 ≤ R.cells ∧ 0 ≤ R.slots := ⟨Nat.zero_le _, Nat.zero_le _⟩
  have lk0 := hts (.fieldLink RX5 15 "SayingsMergedModel" "there" "J") (by decide +kernel)
  have inX5 : ∀ w ∈ wsX50, w ∈ wsX5_mergedBy := by decide +kernel
  have lk2 := hts (.fieldLink RX5 51 "SayingsMergedModel" "best" "[I") (by decide +kernel)
  have lk3 := hts (.fieldLink RX5 54 "SayingsMergedModel" "own" "[I") (by decide +kernel)
  unfold zf_X5_mergedBy at hf
  refine lv_lconst (v := (0 : Int64)) hx hb dX5_mergedBy_0 (by decide) ?_
  refine lv_lstore_n (lv' := [(2, .long (0 : Int64)), (0, .ref a_md), (1, .int x0)]) hx hb dX5_mergedBy_1 rfl hl (by decide) rfl (fun ls hl => ?_)
  refine lv_iconst (v := (0 : Int32)) hx hb dX5_mergedBy_2 (by decide) ?_
  refine lv_istore (lv' := [(4, .int (0 : Int32)), (2, .long (0 : Int64)), (0, .ref a_md), (1, .int x0)]) hx hb dX5_mergedBy_3 hl (by decide) rfl (fun ls hl => ?_)
  have lp5 : ∀ (n : Nat) (w1 : Int64) (w2 : Int32) (w3 : Nat → Int32) (w4 : Nat → Int32) (z5 : Int64 × Int32 × (Nat → Int32) × (Nat → Int32)) (H : Heap) (locs : List Loc) (ls : Array Slot), zl_X5_mergedBy_5 x0 v_md_sayers v_md_there f_md_burdens n w1 w2 w3 w4 = some z5 → va_P D vwCl [(a_md, .inr (5, [.int v_md_length, .ref a_md_text, .int v_md_laws, .int v_md_sayers, .long v_md_there, .long v_md_question, .ref a_md_weight, .ref a_md_says, .ref a_md_cost, .int v_md_measure, .long v_md_trace, .int v_md_readLaws, .int v_md_readSayers, .long v_md_readThere, .ref a_md_readWeight, .ref a_md_readSays, .int v_md_begin, .int v_md_end, .int v_md_sort, .int v_md_open, .ref a_md_opened, .int v_md_level, .ref a_md_any, .ref a_md_all, .long v_md_said, .ref a_md_burdens, .ref a_md_best, .ref a_md_own, .ref a_md_truth])), (a_md_burdens, .inl (cI, 448, .inl f_md_burdens)), (a_md_best, .inl (cI, 7, .inl w3)), (a_md_own, .inl (cI, 7, .inl w4))] H → va_D A [(a_md, .inr (5, [.int v_md_length, .ref a_md_text, .int v_md_laws, .int v_md_sayers, .long v_md_there, .long v_md_question, .ref a_md_weight, .ref a_md_says, .ref a_md_cost, .int v_md_measure, .long v_md_trace, .int v_md_readLaws, .int v_md_readSayers, .long v_md_readThere, .ref a_md_readWeight, .ref a_md_readSays, .int v_md_begin, .int v_md_end, .int v_md_sort, .int v_md_open, .ref a_md_opened, .int v_md_level, .ref a_md_any, .ref a_md_all, .long v_md_said, .ref a_md_burdens, .ref a_md_best, .ref a_md_own, .ref a_md_truth])), (a_md_burdens, .inl (cI, 448, .inl f_md_burdens)), (a_md_best, .inl (cI, 7, .inl w3)), (a_md_own, .inl (cI, 7, .inl w4))] → va_S A s.heap H locs → lv_has ls 7 [(0, .ref a_md), (1, .int x0), (2, .long w1), (4, .int w2)] → (∀ (H : Heap) (locs : List Loc) (ls : Array Slot), va_P D vwCl [(a_md, .inr (5, [.int v_md_length, .ref a_md_text, .int v_md_laws, .int v_md_sayers, .long v_md_there, .long v_md_question, .ref a_md_weight, .ref a_md_says, .ref a_md_cost, .int v_md_measure, .long v_md_trace, .int v_md_readLaws, .int v_md_readSayers, .long v_md_readThere, .ref a_md_readWeight, .ref a_md_readSays, .int v_md_begin, .int v_md_end, .int v_md_sort, .int v_md_open, .ref a_md_opened, .int v_md_level, .ref a_md_any, .ref a_md_all, .long v_md_said, .ref a_md_burdens, .ref a_md_best, .ref a_md_own, .ref a_md_truth])), (a_md_burdens, .inl (cI, 448, .inl f_md_burdens)), (a_md_best, .inl (cI, 7, .inl z5.2.2.1)), (a_md_own, .inl (cI, 7, .inl z5.2.2.2))] H → va_D A [(a_md, .inr (5, [.int v_md_length, .ref a_md_text, .int v_md_laws, .int v_md_sayers, .long v_md_there, .long v_md_question, .ref a_md_weight, .ref a_md_says, .ref a_md_cost, .int v_md_measure, .long v_md_trace, .int v_md_readLaws, .int v_md_readSayers, .long v_md_readThere, .ref a_md_readWeight, .ref a_md_readSays, .int v_md_begin, .int v_md_end, .int v_md_sort, .int v_md_open, .ref a_md_opened, .int v_md_level, .ref a_md_any, .ref a_md_all, .long v_md_said, .ref a_md_burdens, .ref a_md_best, .ref a_md_own, .ref a_md_truth])), (a_md_burdens, .inl (cI, 448, .inl f_md_burdens)), (a_md_best, .inl (cI, 7, .inl z5.2.2.1)), (a_md_own, .inl (cI, 7, .inl z5.2.2.2))] → va_S A s.heap H locs → lv_has ls 7 [(0, .ref a_md), (1, .int x0), (2, .long z5.1), (4, .int z5.2.1)] → W p l e R s m args below meth c H locs 0 0 Q (F0 m 109 ls [])) → W p l e R s m args below meth c H locs 0 0 Q (F0 m 5 ls []) := by
    intro n
    induction n with
    | zero => intro w1 w2 w3 w4 z5 H locs ls hf; exact absurd (show none = some z5 from hf) (by simp)
    | succ n ih =>
      intro w1 w2 w3 w4 z5 H locs ls hf hP hD hS hl hk
      rw [zl_X5_mergedBy_5] at hf
      refine lv_iload hx hb dX5_mergedBy_5 (lv_at hl 3 rfl) ?_
      refine lv_bipush (v := (64 : Int32)) hx hb dX5_mergedBy_7 (by decide) ?_
      refine lv_icmp_ge (tgt := 109) hx hb dX5_mergedBy_9 (by decide) (fun c26 => ?_) (fun c26 => ?_)
      · have hf := zk_t c26 hf
        obtain rfl := Option.some.inj hf
        exact hk _ _ _ hP hD hS (lv_sub hl [0, 1, 2, 3] rfl)
      · have hf := zk_f c26 hf
        refine lv_aload_n hx hb dX5_mergedBy_12 rfl (lv_at hl 0 rfl) ?_
        refine va_get (ci := 5) (v := .long v_md_there) (C := RX5) (T := TX5) (N := 29) hx hb hts inX5 hown hK hP 0 rfl rfl 4 (by decide) lk0 (fun _ h9 => h9) rfl dX5_mergedBy_13 ?_
        refine lv_iload hx hb dX5_mergedBy_16 (lv_at hl 3 rfl) ?_
        obtain ⟨v5, hv5, hf⟩ := zk_ob hf
        refine zk_goR (zk_S (As := [.long v_md_there, .int w2]) (rest := []) hx hb hml hown hts hK hG hP hD hS hA gX5_mergedBy_X5_has rfl hd_X5_has (Nat.le_trans (Nat.le_of_ble_eq_true rfl) hRf) (Nat.le_trans (Nat.le_of_ble_eq_true rfl) hRl) hcs (zc_X5_has l D tL tO cI cJ cB cQ v_md_there w2 v5 hv5) hl.1 rfl rfl (Nat.le_of_ble_eq_true rfl) dX5_mergedBy_18 [] rfl rfl) hP hD hS hA [] rfl (fun H locs hP hS => ?_)
        refine lv_if_ne (tgt := 27) hx hb dX5_mergedBy_21 (by decide) (fun c25 => ?_) (fun c25 => ?_)
        · have hf := zk_f c25 hf
          refine lv_aload_n hx hb dX5_mergedBy_27 rfl (lv_at hl 0 rfl) ?_
          refine lv_iload_n hx hb dX5_mergedBy_28 rfl (lv_at hl 1 rfl) ?_
          refine lv_iload hx hb dX5_mergedBy_29 (lv_at hl 3 rfl) ?_
          obtain ⟨v6, hv6, hf⟩ := zk_ob hf
          refine zk_go (wr := [(a_md_best, .inl (cI, 7, .inl w3))]) (w2 := [(a_md, .inr (5, [.int v_md_length, .ref a_md_text, .int v_md_laws, .int v_md_sayers, .long v_md_there, .long v_md_question, .ref a_md_weight, .ref a_md_says, .ref a_md_cost, .int v_md_measure, .long v_md_trace, .int v_md_readLaws, .int v_md_readSayers, .long v_md_readThere, .ref a_md_readWeight, .ref a_md_readSays, .int v_md_begin, .int v_md_end, .int v_md_sort, .int v_md_open, .ref a_md_opened, .int v_md_level, .ref a_md_any, .ref a_md_all, .long v_md_said, .ref a_md_burdens, .ref a_md_best, .ref a_md_own, .ref a_md_truth])), (a_md_burdens, .inl (cI, 448, .inl f_md_burdens)), (a_md_best, .inl (cI, 7, .inl w3)), (a_md_own, .inl (cI, 7, .inl v6))]) (zk_V (As := [.int x0, .int w2]) (rest := []) hx hb hml hown hts hK hG hP hD hS hA gX5_mergedBy_X5_rows rfl hd_X5_rows (Nat.le_trans (Nat.le_of_ble_eq_true rfl) hRf) (Nat.le_trans (Nat.le_of_ble_eq_true rfl) hRl) hcs (zc_X5_rows l D tL tO cI cJ cB cQ a_md a_md_text a_md_weight a_md_says a_md_cost a_md_readWeight a_md_readSays a_md_opened a_md_any a_md_all a_md_burdens a_md_best a_md_own a_md_truth x0 w2 v_md_length v_md_laws v_md_sayers v_md_there v_md_question v_md_measure v_md_trace v_md_readLaws v_md_readSayers v_md_readThere v_md_begin v_md_end v_md_sort v_md_open v_md_level v_md_said f_md_burdens w4 v6 hv6) rfl rfl 0 rfl hl.1 rfl rfl (Nat.le_of_ble_eq_true rfl) dX5_mergedBy_31 [0, 1, 3] rfl rfl) hP hD hS hA [0, 1, 3] [2] [1, 2, 0, 3] rfl rfl rfl (by decide) rfl rfl (fun H locs hP hD hS => ?_)
          refine lv_lload_n hx hb dX5_mergedBy_34 rfl (lv_at hl 2 rfl) ?_
          refine lv_lconst (v := (0 : Int64)) hx hb dX5_mergedBy_35 (by decide) ?_
          refine W.lcmp hx hb dX5_mergedBy_36 ?_
          obtain ⟨v7, hv7, hf⟩ := zk_ob hf
          have kv7 : ∀ (H : Heap) (locs : List Loc) (ls : Array Slot), va_P D vwCl [(a_md, .inr (5, [.int v_md_length, .ref a_md_text, .int v_md_laws, .int v_md_sayers, .long v_md_there, .long v_md_question, .ref a_md_weight, .ref a_md_says, .ref a_md_cost, .int v_md_measure, .long v_md_trace, .int v_md_readLaws, .int v_md_readSayers, .long v_md_readThere, .ref a_md_readWeight, .ref a_md_readSays, .int v_md_begin, .int v_md_end, .int v_md_sort, .int v_md_open, .ref a_md_opened, .int v_md_level, .ref a_md_any, .ref a_md_all, .long v_md_said, .ref a_md_burdens, .ref a_md_best, .ref a_md_own, .ref a_md_truth])), (a_md_burdens, .inl (cI, 448, .inl f_md_burdens)), (a_md_best, .inl (cI, 7, .inl w3)), (a_md_own, .inl (cI, 7, .inl v6))] H → va_D A [(a_md, .inr (5, [.int v_md_length, .ref a_md_text, .int v_md_laws, .int v_md_sayers, .long v_md_there, .long v_md_question, .ref a_md_weight, .ref a_md_says, .ref a_md_cost, .int v_md_measure, .long v_md_trace, .int v_md_readLaws, .int v_md_readSayers, .long v_md_readThere, .ref a_md_readWeight, .ref a_md_readSays, .int v_md_begin, .int v_md_end, .int v_md_sort, .int v_md_open, .ref a_md_opened, .int v_md_level, .ref a_md_any, .ref a_md_all, .long v_md_said, .ref a_md_burdens, .ref a_md_best, .ref a_md_own, .ref a_md_truth])), (a_md_burdens, .inl (cI, 448, .inl f_md_burdens)), (a_md_best, .inl (cI, 7, .inl w3)), (a_md_own, .inl (cI, 7, .inl v6))] → va_S A s.heap H locs → lv_has ls 7 [(0, .ref a_md), (1, .int x0), (2, .long w1), (4, .int w2)] → W p l e R s m args below meth c H locs 0 0 Q (F0 m 48 ls [.int v7]) := by
            intro H locs ls hP hD hS hl
            refine lv_istore (lv' := [(5, .int v7), (0, .ref a_md), (1, .int x0), (2, .long w1), (4, .int w2)]) hx hb dX5_mergedBy_48 hl (by decide) rfl (fun ls hl => ?_)
            refine lv_iload hx hb dX5_mergedBy_50 (lv_at hl 0 rfl) ?_
            obtain ⟨v8, hv8, hf⟩ := zk_ob hf
            have kv8 : ∀ (H : Heap) (locs : List Loc) (ls : Array Slot), va_P D vwCl [(a_md, .inr (5, [.int v_md_length, .ref a_md_text, .int v_md_laws, .int v_md_sayers, .long v_md_there, .long v_md_question, .ref a_md_weight, .ref a_md_says, .ref a_md_cost, .int v_md_measure, .long v_md_trace, .int v_md_readLaws, .int v_md_readSayers, .long v_md_readThere, .ref a_md_readWeight, .ref a_md_readSays, .int v_md_begin, .int v_md_end, .int v_md_sort, .int v_md_open, .ref a_md_opened, .int v_md_level, .ref a_md_any, .ref a_md_all, .long v_md_said, .ref a_md_burdens, .ref a_md_best, .ref a_md_own, .ref a_md_truth])), (a_md_burdens, .inl (cI, 448, .inl f_md_burdens)), (a_md_best, .inl (cI, 7, .inl v8.2)), (a_md_own, .inl (cI, 7, .inl v6))] H → va_D A [(a_md, .inr (5, [.int v_md_length, .ref a_md_text, .int v_md_laws, .int v_md_sayers, .long v_md_there, .long v_md_question, .ref a_md_weight, .ref a_md_says, .ref a_md_cost, .int v_md_measure, .long v_md_trace, .int v_md_readLaws, .int v_md_readSayers, .long v_md_readThere, .ref a_md_readWeight, .ref a_md_readSays, .int v_md_begin, .int v_md_end, .int v_md_sort, .int v_md_open, .ref a_md_opened, .int v_md_level, .ref a_md_any, .ref a_md_all, .long v_md_said, .ref a_md_burdens, .ref a_md_best, .ref a_md_own, .ref a_md_truth])), (a_md_burdens, .inl (cI, 448, .inl f_md_burdens)), (a_md_best, .inl (cI, 7, .inl v8.2)), (a_md_own, .inl (cI, 7, .inl v6))] → va_S A s.heap H locs → lv_has ls 7 [(0, .ref a_md), (1, .int x0), (2, .long v8.1), (4, .int w2), (5, .int v7)] → W p l e R s m args below meth c H locs 0 0 Q (F0 m 87 ls []) := by
              intro H locs ls hP hD hS hl
              refine lv_lload_n hx hb dX5_mergedBy_87 rfl (lv_at hl 2 rfl) ?_
              refine lv_iload hx hb dX5_mergedBy_88 (lv_at hl 4 rfl) ?_
              refine lv_if_gt (tgt := 100) hx hb dX5_mergedBy_90 (by decide) (fun c13 => ?_) (fun c13 => ?_)
              · have hf := zk_t c13 hf
                refine lv_lconst (v := (0 : Int64)) hx hb dX5_mergedBy_100 (by decide) ?_
                refine lv_lor hx hb dX5_mergedBy_101 ?_
                obtain ⟨y9, ey9, hf⟩ := zk_lt_s hf
                refine zk_topl ey9 ?_
                refine lv_lstore_n (lv' := [(2, .long y9), (0, .ref a_md), (1, .int x0), (4, .int w2), (5, .int v7)]) hx hb dX5_mergedBy_102 rfl hl (by decide) rfl (fun ls hl => ?_)
                obtain ⟨y10, ey10, hf⟩ := zk_lt_s hf
                refine lv_iinc (v := y10) (lv' := [(4, .int y10), (2, .long y9), (0, .ref a_md), (1, .int x0), (5, .int v7)]) hx hb dX5_mergedBy_103 hl (k := 3) rfl (by rw [ey10]; rfl) (by decide) rfl (fun ls hl => ?_)
                refine lv_goto (tgt := 5) hx hb dX5_mergedBy_106 (by decide) ?_
                exact ih y9 y10 v8.2 v6 _ _ _ _ hf hP hD hS (lv_sub hl [2, 3, 1, 0] rfl) hk
              · have hf := zk_f c13 hf
                refine lv_lconst (v := (1 : Int64)) hx hb dX5_mergedBy_93 (by decide) ?_
                refine lv_iload hx hb dX5_mergedBy_94 (lv_at hl 3 rfl) ?_
                refine lv_lshl hx hb dX5_mergedBy_96 rfl ?_
                refine lv_goto (tgt := 101) hx hb dX5_mergedBy_97 (by decide) ?_
                refine lv_lor hx hb dX5_mergedBy_101 ?_
                obtain ⟨y11, ey11, hf⟩ := zk_lt_s hf
                refine zk_topl ey11 ?_
                refine lv_lstore_n (lv' := [(2, .long y11), (0, .ref a_md), (1, .int x0), (4, .int w2), (5, .int v7)]) hx hb dX5_mergedBy_102 rfl hl (by decide) rfl (fun ls hl => ?_)
                obtain ⟨y12, ey12, hf⟩ := zk_lt_s hf
                refine lv_iinc (v := y12) (lv' := [(4, .int y12), (2, .long y11), (0, .ref a_md), (1, .int x0), (5, .int v7)]) hx hb dX5_mergedBy_103 hl (k := 3) rfl (by rw [ey12]; rfl) (by decide) rfl (fun ls hl => ?_)
                refine lv_goto (tgt := 5) hx hb dX5_mergedBy_106 (by decide) ?_
                exact ih y11 y12 v8.2 v6 _ _ _ _ hf hP hD hS (lv_sub hl [2, 3, 1, 0] rfl) hk
            replace hf := hv8
            refine lv_if_ge (tgt := 87) hx hb dX5_mergedBy_52 (by decide) (fun c21 => ?_) (fun c21 => ?_)
            · have hf := zk_t c21 hf
              obtain rfl := Option.some.inj hf
              exact kv8 _ _ _ hP hD hS (lv_sub hl [1, 2, 3, 4, 0] rfl)
            · have hf := zk_f c21 hf
              refine lv_lconst (v := (0 : Int64)) hx hb dX5_mergedBy_55 (by decide) ?_
              refine lv_lstore_n (lv' := [(2, .long (0 : Int64)), (5, .int v7), (0, .ref a_md), (1, .int x0), (4, .int w2)]) hx hb dX5_mergedBy_56 rfl hl (by decide) rfl (fun ls hl => ?_)
              refine lv_iconst (v := (0 : Int32)) hx hb dX5_mergedBy_57 (by decide) ?_
              refine lv_istore (lv' := [(6, .int (0 : Int32)), (2, .long (0 : Int64)), (5, .int v7), (0, .ref a_md), (1, .int x0), (4, .int w2)]) hx hb dX5_mergedBy_58 hl (by decide) rfl (fun ls hl => ?_)
              have lp60_20 : ∀ (n : Nat) (w14 : Int32) (w15 : Nat → Int32) (z60 : Int32 × (Nat → Int32)) (H : Heap) (locs : List Loc) (ls : Array Slot), zl_X5_mergedBy_60 v6 n w14 w15 = some z60 → va_P D vwCl [(a_md, .inr (5, [.int v_md_length, .ref a_md_text, .int v_md_laws, .int v_md_sayers, .long v_md_there, .long v_md_question, .ref a_md_weight, .ref a_md_says, .ref a_md_cost, .int v_md_measure, .long v_md_trace, .int v_md_readLaws, .int v_md_readSayers, .long v_md_readThere, .ref a_md_readWeight, .ref a_md_readSays, .int v_md_begin, .int v_md_end, .int v_md_sort, .int v_md_open, .ref a_md_opened, .int v_md_level, .ref a_md_any, .ref a_md_all, .long v_md_said, .ref a_md_burdens, .ref a_md_best, .ref a_md_own, .ref a_md_truth])), (a_md_burdens, .inl (cI, 448, .inl f_md_burdens)), (a_md_best, .inl (cI, 7, .inl w15)), (a_md_own, .inl (cI, 7, .inl v6))] H → va_D A [(a_md, .inr (5, [.int v_md_length, .ref a_md_text, .int v_md_laws, .int v_md_sayers, .long v_md_there, .long v_md_question, .ref a_md_weight, .ref a_md_says, .ref a_md_cost, .int v_md_measure, .long v_md_trace, .int v_md_readLaws, .int v_md_readSayers, .long v_md_readThere, .ref a_md_readWeight, .ref a_md_readSays, .int v_md_begin, .int v_md_end, .int v_md_sort, .int v_md_open, .ref a_md_opened, .int v_md_level, .ref a_md_any, .ref a_md_all, .long v_md_said, .ref a_md_burdens, .ref a_md_best, .ref a_md_own, .ref a_md_truth])), (a_md_burdens, .inl (cI, 448, .inl f_md_burdens)), (a_md_best, .inl (cI, 7, .inl w15)), (a_md_own, .inl (cI, 7, .inl v6))] → va_S A s.heap H locs → lv_has ls 7 [(0, .ref a_md), (1, .int x0), (2, .long (0 : Int64)), (4, .int w2), (5, .int v7), (6, .int w14)] → (∀ (H : Heap) (locs : List Loc) (ls : Array Slot), va_P D vwCl [(a_md, .inr (5, [.int v_md_length, .ref a_md_text, .int v_md_laws, .int v_md_sayers, .long v_md_there, .long v_md_question, .ref a_md_weight, .ref a_md_says, .ref a_md_cost, .int v_md_measure, .long v_md_trace, .int v_md_readLaws, .int v_md_readSayers, .long v_md_readThere, .ref a_md_readWeight, .ref a_md_readSays, .int v_md_begin, .int v_md_end, .int v_md_sort, .int v_md_open, .ref a_md_opened, .int v_md_level, .ref a_md_any, .ref a_md_all, .long v_md_said, .ref a_md_burdens, .ref a_md_best, .ref a_md_own, .ref a_md_truth])), (a_md_burdens, .inl (cI, 448, .inl f_md_burdens)), (a_md_best, .inl (cI, 7, .inl z60.2)), (a_md_own, .inl (cI, 7, .inl v6))] H → va_D A [(a_md, .inr (5, [.int v_md_length, .ref a_md_text, .int v_md_laws, .int v_md_sayers, .long v_md_there, .long v_md_question, .ref a_md_weight, .ref a_md_says, .ref a_md_cost, .int v_md_measure, .long v_md_trace, .int v_md_readLaws, .int v_md_readSayers, .long v_md_readThere, .ref a_md_readWeight, .ref a_md_readSays, .int v_md_begin, .int v_md_end, .int v_md_sort, .int v_md_open, .ref a_md_opened, .int v_md_level, .ref a_md_any, .ref a_md_all, .long v_md_said, .ref a_md_burdens, .ref a_md_best, .ref a_md_own, .ref a_md_truth])), (a_md_burdens, .inl (cI, 448, .inl f_md_burdens)), (a_md_best, .inl (cI, 7, .inl z60.2)), (a_md_own, .inl (cI, 7, .inl v6))] → va_S A s.heap H locs → lv_has ls 7 [(0, .ref a_md), (1, .int x0), (2, .long (0 : Int64)), (4, .int w2), (5, .int v7), (6, .int z60.1)] → W p l e R s m args below meth c H locs 0 0 Q (F0 m 87 ls [])) → W p l e R s m args below meth c H locs 0 0 Q (F0 m 60 ls []) := by
                intro n
                induction n with
                | zero => intro w14 w15 z60 H locs ls hf; exact absurd (show none = some z60 from hf) (by simp)
                | succ n ih =>
                  intro w14 w15 z60 H locs ls hf hP hD hS hl hk
                  rw [zl_X5_mergedBy_60] at hf
                  refine lv_iload hx hb dX5_mergedBy_60 (lv_at hl 5 rfl) ?_
                  refine lv_bipush (v := (7 : Int32)) hx hb dX5_mergedBy_62 (by decide) ?_
                  refine lv_icmp_ge (tgt := 87) hx hb dX5_mergedBy_64 (by decide) (fun c18 => ?_) (fun c18 => ?_)
                  · have hf := zk_t c18 hf
                    obtain rfl := Option.some.inj hf
                    exact hk _ _ _ hP hD hS (lv_sub hl [0, 1, 2, 3, 4, 5] rfl)
                  · have hf := zk_f c18 hf
                    refine lv_aload_n hx hb dX5_mergedBy_67 rfl (lv_at hl 0 rfl) ?_
                    refine va_get (ci := 5) (v := .ref a_md_best) (C := RX5) (T := TX5) (N := 29) hx hb hts inX5 hown hK hP 0 rfl rfl 26 (by decide) lk2 (fun _ h9 => h9) rfl dX5_mergedBy_68 ?_
                    refine lv_iload hx hb dX5_mergedBy_71 (lv_at hl 5 rfl) ?_
                    refine lv_aload_n hx hb dX5_mergedBy_73 rfl (lv_at hl 0 rfl) ?_
                    refine va_get (ci := 5) (v := .ref a_md_own) (C := RX5) (T := TX5) (N := 29) hx hb hts inX5 hown hK hP 0 rfl rfl 27 (by decide) lk3 (fun _ h9 => h9) rfl dX5_mergedBy_74 ?_
                    refine lv_iload hx hb dX5_mergedBy_77 (lv_at hl 5 rfl) ?_
                    obtain ⟨g16, hf⟩ := zk_gd_s hf
                    refine va_iald hx hb hK hP 3 0 rfl rfl (zk_in_s g16) dX5_mergedBy_79 ?_
                    refine va_iast hx hb hK hP hD hS 2 0 rfl rfl (zk_in_s g16) dX5_mergedBy_80 (fun H locs hP hD hS => ?_)
                    have hP : va_P D vwCl [(a_md, .inr (5, [.int v_md_length, .ref a_md_text, .int v_md_laws, .int v_md_sayers, .long v_md_there, .long v_md_question, .ref a_md_weight, .ref a_md_says, .ref a_md_cost, .int v_md_measure, .long v_md_trace, .int v_md_readLaws, .int v_md_readSayers, .long v_md_readThere, .ref a_md_readWeight, .ref a_md_readSays, .int v_md_begin, .int v_md_end, .int v_md_sort, .int v_md_open, .ref a_md_opened, .int v_md_level, .ref a_md_any, .ref a_md_all, .long v_md_said, .ref a_md_burdens, .ref a_md_best, .ref a_md_own, .ref a_md_truth])), (a_md_burdens, .inl (cI, 448, .inl f_md_burdens)), (a_md_best, .inl (cI, 7, .inl (upd w15 w14.toNatClampNeg (v6 w14.toNatClampNeg)))), (a_md_own, .inl (cI, 7, .inl v6))] H := hP
                    have hD : va_D A [(a_md, .inr (5, [.int v_md_length, .ref a_md_text, .int v_md_laws, .int v_md_sayers, .long v_md_there, .long v_md_question, .ref a_md_weight, .ref a_md_says, .ref a_md_cost, .int v_md_measure, .long v_md_trace, .int v_md_readLaws, .int v_md_readSayers, .long v_md_readThere, .ref a_md_readWeight, .ref a_md_readSays, .int v_md_begin, .int v_md_end, .int v_md_sort, .int v_md_open, .ref a_md_opened, .int v_md_level, .ref a_md_any, .ref a_md_all, .long v_md_said, .ref a_md_burdens, .ref a_md_best, .ref a_md_own, .ref a_md_truth])), (a_md_burdens, .inl (cI, 448, .inl f_md_burdens)), (a_md_best, .inl (cI, 7, .inl (upd w15 w14.toNatClampNeg (v6 w14.toNatClampNeg)))), (a_md_own, .inl (cI, 7, .inl v6))] := hD
                    obtain ⟨y17, ey17, hf⟩ := zk_lt_s hf
                    refine lv_iinc (v := y17) (lv' := [(6, .int y17), (0, .ref a_md), (1, .int x0), (2, .long (0 : Int64)), (4, .int w2), (5, .int v7)]) hx hb dX5_mergedBy_81 hl (k := 5) rfl (by rw [ey17]; rfl) (by decide) rfl (fun ls hl => ?_)
                    refine lv_goto (tgt := 60) hx hb dX5_mergedBy_84 (by decide) ?_
                    exact ih y17 (upd w15 w14.toNatClampNeg (v6 w14.toNatClampNeg)) _ _ _ _ hf hP hD hS (lv_sub hl [1, 2, 3, 4, 5, 0] rfl) hk
              obtain ⟨v19, hv19, hf⟩ := zk_ob hf
              refine lp60_20 zk_F (0 : Int32) w3 v19 _ _ _ hv19 hP hD hS (lv_sub hl [3, 4, 1, 5, 2, 0] rfl) ?_
              intro H locs ls hP hD hS hl
              obtain rfl := Option.some.inj hf
              exact kv8 _ _ _ hP hD hS (lv_sub hl [0, 1, 2, 3, 4] rfl)
          replace hf := hv7
          refine lv_if_ne (tgt := 44) hx hb dX5_mergedBy_37 (by decide) (fun c23 => ?_) (fun c23 => ?_)
          · have hf := zk_f c23 hf
            refine lv_aload_n hx hb dX5_mergedBy_44 rfl (lv_at hl 0 rfl) ?_
            obtain ⟨v22, hv22, hf⟩ := zk_ob hf
            refine zk_goR (zk_V (As := []) (rest := []) hx hb hml hown hts hK hG hP hD hS hA gX5_mergedBy_X5_against rfl hd_X5_against (Nat.le_trans (Nat.le_of_ble_eq_true rfl) hRf) (Nat.le_trans (Nat.le_of_ble_eq_true rfl) hRl) hcs (zc_X5_against l D tL tO cI cJ cB cQ a_md a_md_text a_md_weight a_md_says a_md_cost a_md_readWeight a_md_readSays a_md_opened a_md_any a_md_all a_md_burdens a_md_best a_md_own a_md_truth v_md_length v_md_laws v_md_sayers v_md_there v_md_question v_md_measure v_md_trace v_md_readLaws v_md_readSayers v_md_readThere v_md_begin v_md_end v_md_sort v_md_open v_md_level v_md_said w3 v6 v22 hv22) rfl rfl 0 rfl hl.1 rfl rfl (Nat.le_of_ble_eq_true rfl) dX5_mergedBy_45 [0, 2, 3] rfl rfl) hP hD hS hA [0, 2, 3] rfl (fun H locs hP hS => ?_)
            obtain rfl := Option.some.inj hf
            exact kv7 _ _ _ hP hD hS (lv_sub hl [0, 1, 2, 3] rfl)
          · have hf := zk_t c23 hf
            refine lv_iconst (v := (-1 : Int32)) hx hb dX5_mergedBy_40 (by decide) ?_
            refine lv_goto (tgt := 48) hx hb dX5_mergedBy_41 (by decide) ?_
            obtain rfl := Option.some.inj hf
            exact kv7 _ _ _ hP hD hS (lv_sub hl [0, 1, 2, 3] rfl)
        · have hf := zk_t c25 hf
          refine lv_goto (tgt := 103) hx hb dX5_mergedBy_24 (by decide) ?_
          obtain ⟨y24, ey24, hf⟩ := zk_lt_s hf
          refine lv_iinc (v := y24) (lv' := [(4, .int y24), (0, .ref a_md), (1, .int x0), (2, .long w1)]) hx hb dX5_mergedBy_103 hl (k := 3) rfl (by rw [ey24]; rfl) (by decide) rfl (fun ls hl => ?_)
          refine lv_goto (tgt := 5) hx hb dX5_mergedBy_106 (by decide) ?_
          exact ih w1 y24 w3 w4 _ _ _ _ hf hP hD hS (lv_sub hl [1, 2, 3, 0] rfl) hk
  obtain ⟨v27, hv27, hf⟩ := zk_ob hf
  refine lp5 zk_F (0 : Int64) (0 : Int32) f_md_best f_md_own v27 _ _ _ hv27 hP hD hS (lv_sub hl [2, 3, 1, 0] rfl) ?_
  intro H locs ls hP hD hS hl
  refine lv_lload_n hx hb dX5_mergedBy_109 rfl (lv_at hl 2 rfl) ?_
  obtain rfl := Option.some.inj hf
  exact hret trivial _ _ _ _ hP hD hS dX5_mergedBy_110
def zf_X5_merged (x0 : Int32) (v_md_sayers : Int32) (v_md_there : Int64) (v_md_measure : Int32) (f_md_weight : Nat → Int32) (f_md_says : Nat → Int64) (f_md_cost : Nat → Int32) (f_md_burdens : Nat → Int32) (f_md_best : Nat → Int32) (f_md_own : Nat → Int32) : Option (Int64 × (Nat → Int32) × (Nat → Int32) × (Nat → Int32)) :=
  (zf_X5_in x0.toInt64 (0 : Int64) (2 : Int64)).bind (fun v1 =>
  if v1 = 0 then
  some ((0 : Int64), f_md_burdens, f_md_best, f_md_own)
  else
  (zf_X5_laysAll v_md_sayers v_md_measure f_md_weight f_md_says f_md_cost f_md_burdens).bind (fun v2 =>
  (zf_X5_mergedBy x0 v_md_sayers v_md_there v2 f_md_best f_md_own).bind (fun v3 =>
  some (v3.1, v2, v3.2.1, v3.2.2))))
theorem hd_X5_merged : yX5_merged.cls = RX5 ∧ yX5_merged.cls ≠ "java/lang/invoke/MethodHandle" ∧ yX5_merged.cls ≠ "java/lang/invoke/VarHandle" ∧ (parseMethodDescriptor yX5_merged.desc).map (fun d => d.parameters.length) = some 1 := by decide +kernel
set_option maxHeartbeats 4000000 in
set_option maxRecDepth 100000 in
theorem zc_X5_merged (l : Launch) (D : va_G) (tL tO : Nat) (cI cJ cB cQ : ClassId) (a_md a_md_text a_md_weight a_md_says a_md_cost a_md_readWeight a_md_readSays a_md_opened a_md_any a_md_all a_md_burdens a_md_best a_md_own a_md_truth : Nat) (x0 : Int32) (v_md_length : Int32) (v_md_laws : Int32) (v_md_sayers : Int32) (v_md_there : Int64) (v_md_question : Int64) (v_md_measure : Int32) (v_md_trace : Int64) (v_md_readLaws : Int32) (v_md_readSayers : Int32) (v_md_readThere : Int64) (v_md_begin : Int32) (v_md_end : Int32) (v_md_sort : Int32) (v_md_open : Int32) (v_md_level : Int32) (v_md_said : Int64) (f_md_weight : Nat → Int32) (f_md_says : Nat → Int64) (f_md_cost : Nat → Int32) (f_md_burdens : Nat → Int32) (f_md_best : Nat → Int32) (f_md_own : Nat → Int32) (z : Int64 × (Nat → Int32) × (Nat → Int32) × (Nat → Int32)) (hf : zf_X5_merged x0 v_md_sayers v_md_there v_md_measure f_md_weight f_md_says f_md_cost f_md_burdens f_md_best f_md_own = some z) : zk_CT l D tL tO (zk_ty cI cJ cB cQ) yX5_merged wsX5_merged 5 116 [.ref a_md, .int x0] (some (.long z.1)) [(a_md, .inr (5, [.int v_md_length, .ref a_md_text, .int v_md_laws, .int v_md_sayers, .long v_md_there, .long v_md_question, .ref a_md_weight, .ref a_md_says, .ref a_md_cost, .int v_md_measure, .long v_md_trace, .int v_md_readLaws, .int v_md_readSayers, .long v_md_readThere, .ref a_md_readWeight, .ref a_md_readSays, .int v_md_begin, .int v_md_end, .int v_md_sort, .int v_md_open, .ref a_md_opened, .int v_md_level, .ref a_md_any, .ref a_md_all, .long v_md_said, .ref a_md_burdens, .ref a_md_best, .ref a_md_own, .ref a_md_truth])), (a_md_weight, .inl (cI, 7, .inl f_md_weight)), (a_md_says, .inl (cJ, 7, .inr (.inl f_md_says))), (a_md_cost, .inl (cI, 6, .inl f_md_cost)), (a_md_burdens, .inl (cI, 448, .inl f_md_burdens)), (a_md_best, .inl (cI, 7, .inl f_md_best)), (a_md_own, .inl (cI, 7, .inl f_md_own))] [(a_md, .inr (5, [.int v_md_length, .ref a_md_text, .int v_md_laws, .int v_md_sayers, .long v_md_there, .long v_md_question, .ref a_md_weight, .ref a_md_says, .ref a_md_cost, .int v_md_measure, .long v_md_trace, .int v_md_readLaws, .int v_md_readSayers, .long v_md_readThere, .ref a_md_readWeight, .ref a_md_readSays, .int v_md_begin, .int v_md_end, .int v_md_sort, .int v_md_open, .ref a_md_opened, .int v_md_level, .ref a_md_any, .ref a_md_all, .long v_md_said, .ref a_md_burdens, .ref a_md_best, .ref a_md_own, .ref a_md_truth])), (a_md_weight, .inl (cI, 7, .inl f_md_weight)), (a_md_says, .inl (cJ, 7, .inr (.inl f_md_says))), (a_md_cost, .inl (cI, 6, .inl f_md_cost)), (a_md_burdens, .inl (cI, 448, .inl z.2.1)), (a_md_best, .inl (cI, 7, .inl z.2.2.1)), (a_md_own, .inl (cI, 7, .inl z.2.2.2))] := by
  refine zk_of_l (cc := cX5_merged) (maxL := 2) (by decide) rfl (Nat.le_of_ble_eq_true rfl) ?_
  intro p e R s m args below meth c A Q ls hx hb hml hRf hRl hts hown hP hK hD hA hS hG hl hret
  have hl : lv_has ls 2 [(0, .ref a_md), (1, .int x0)] := hl
  have hown : s.vm.findClass RX5 = some m.cls := hown
  have hcs : 0 ≤ R.cells ∧ 0 ≤ R.slots := ⟨Nat.zero_le _, Nat.zero_le _⟩
  have lk0 := hts (.constantLong RX5 186 (2)) (by decide +kernel)
  unfold zf_X5_merged at hf
  refine lv_iload_n hx hb dX5_merged_0 rfl (lv_at hl 1 rfl) ?_
  refine lv_i2l hx hb dX5_merged_1 rfl ?_
  refine lv_lconst (v := (0 : Int64)) hx hb dX5_merged_2 (by decide) ?_
  refine lv_ldc2 hx hb hown lk0 dX5_merged_3 ?_
  obtain ⟨v1, hv1, hf⟩ := zk_ob hf
  refine zk_goR (zk_S (As := [.long x0.toInt64, .long (0 : Int64), .long (2 : Int64)]) (rest := []) hx hb hml hown hts hK hG hP hD hS hA gX5_merged_X5_in rfl hd_X5_in (Nat.le_trans (Nat.le_of_ble_eq_true rfl) hRf) (Nat.le_trans (Nat.le_of_ble_eq_true rfl) hRl) hcs (zc_X5_in l D tL tO cI cJ cB cQ x0.toInt64 (0 : Int64) (2 : Int64) v1 hv1) hl.1 rfl rfl (Nat.le_of_ble_eq_true rfl) dX5_merged_6 [] rfl rfl) hP hD hS hA [] rfl (fun H locs hP hS => ?_)
  refine lv_if_ne (tgt := 14) hx hb dX5_merged_9 (by decide) (fun c4 => ?_) (fun c4 => ?_)
  · have hf := zk_f c4 hf
    refine lv_aload_n hx hb dX5_merged_14 rfl (lv_at hl 0 rfl) ?_
    obtain ⟨v2, hv2, hf⟩ := zk_ob hf
    refine zk_go (wr := [(a_md_best, .inl (cI, 7, .inl f_md_best)), (a_md_own, .inl (cI, 7, .inl f_md_own))]) (w2 := [(a_md, .inr (5, [.int v_md_length, .ref a_md_text, .int v_md_laws, .int v_md_sayers, .long v_md_there, .long v_md_question, .ref a_md_weight, .ref a_md_says, .ref a_md_cost, .int v_md_measure, .long v_md_trace, .int v_md_readLaws, .int v_md_readSayers, .long v_md_readThere, .ref a_md_readWeight, .ref a_md_readSays, .int v_md_begin, .int v_md_end, .int v_md_sort, .int v_md_open, .ref a_md_opened, .int v_md_level, .ref a_md_any, .ref a_md_all, .long v_md_said, .ref a_md_burdens, .ref a_md_best, .ref a_md_own, .ref a_md_truth])), (a_md_weight, .inl (cI, 7, .inl f_md_weight)), (a_md_says, .inl (cJ, 7, .inr (.inl f_md_says))), (a_md_cost, .inl (cI, 6, .inl f_md_cost)), (a_md_burdens, .inl (cI, 448, .inl v2)), (a_md_best, .inl (cI, 7, .inl f_md_best)), (a_md_own, .inl (cI, 7, .inl f_md_own))]) (zk_V (As := []) (rest := []) hx hb hml hown hts hK hG hP hD hS hA gX5_merged_X5_laysAll rfl hd_X5_laysAll (Nat.le_trans (Nat.le_of_ble_eq_true rfl) hRf) (Nat.le_trans (Nat.le_of_ble_eq_true rfl) hRl) hcs (zc_X5_laysAll l D tL tO cI cJ cB cQ a_md a_md_text a_md_weight a_md_says a_md_cost a_md_readWeight a_md_readSays a_md_opened a_md_any a_md_all a_md_burdens a_md_best a_md_own a_md_truth v_md_length v_md_laws v_md_sayers v_md_there v_md_question v_md_measure v_md_trace v_md_readLaws v_md_readSayers v_md_readThere v_md_begin v_md_end v_md_sort v_md_open v_md_level v_md_said f_md_weight f_md_says f_md_cost f_md_burdens v2 hv2) rfl rfl 0 rfl hl.1 rfl rfl (Nat.le_of_ble_eq_true rfl) dX5_merged_15 [0, 1, 2, 3, 4] rfl rfl) hP hD hS hA [0, 1, 2, 3, 4] [5, 6] [2, 3, 4, 5, 6, 0, 1] rfl rfl rfl (by decide) rfl rfl (fun H locs hP hD hS => ?_)
    refine lv_aload_n hx hb dX5_merged_18 rfl (lv_at hl 0 rfl) ?_
    refine lv_iload_n hx hb dX5_merged_19 rfl (lv_at hl 1 rfl) ?_
    obtain ⟨v3, hv3, hf⟩ := zk_ob hf
    refine zk_go (wr := [(a_md_weight, .inl (cI, 7, .inl f_md_weight)), (a_md_says, .inl (cJ, 7, .inr (.inl f_md_says))), (a_md_cost, .inl (cI, 6, .inl f_md_cost))]) (w2 := [(a_md, .inr (5, [.int v_md_length, .ref a_md_text, .int v_md_laws, .int v_md_sayers, .long v_md_there, .long v_md_question, .ref a_md_weight, .ref a_md_says, .ref a_md_cost, .int v_md_measure, .long v_md_trace, .int v_md_readLaws, .int v_md_readSayers, .long v_md_readThere, .ref a_md_readWeight, .ref a_md_readSays, .int v_md_begin, .int v_md_end, .int v_md_sort, .int v_md_open, .ref a_md_opened, .int v_md_level, .ref a_md_any, .ref a_md_all, .long v_md_said, .ref a_md_burdens, .ref a_md_best, .ref a_md_own, .ref a_md_truth])), (a_md_weight, .inl (cI, 7, .inl f_md_weight)), (a_md_says, .inl (cJ, 7, .inr (.inl f_md_says))), (a_md_cost, .inl (cI, 6, .inl f_md_cost)), (a_md_burdens, .inl (cI, 448, .inl v2)), (a_md_best, .inl (cI, 7, .inl v3.2.1)), (a_md_own, .inl (cI, 7, .inl v3.2.2))]) (zk_V (As := [.int x0]) (rest := []) hx hb hml hown hts hK hG hP hD hS hA gX5_merged_X5_mergedBy rfl hd_X5_mergedBy (Nat.le_trans (Nat.le_of_ble_eq_true rfl) hRf) (Nat.le_trans (Nat.le_of_ble_eq_true rfl) hRl) hcs (zc_X5_mergedBy l D tL tO cI cJ cB cQ a_md a_md_text a_md_weight a_md_says a_md_cost a_md_readWeight a_md_readSays a_md_opened a_md_any a_md_all a_md_burdens a_md_best a_md_own a_md_truth x0 v_md_length v_md_laws v_md_sayers v_md_there v_md_question v_md_measure v_md_trace v_md_readLaws v_md_readSayers v_md_readThere v_md_begin v_md_end v_md_sort v_md_open v_md_level v_md_said v2 f_md_best f_md_own v3 hv3) rfl rfl 0 rfl hl.1 rfl rfl (Nat.le_of_ble_eq_true rfl) dX5_merged_20 [0, 4, 5, 6] rfl rfl) hP hD hS hA [0, 4, 5, 6] [1, 2, 3] [3, 0, 1, 2, 4, 5, 6] rfl rfl rfl (by decide) rfl rfl (fun H locs hP hD hS => ?_)
    obtain rfl := Option.some.inj hf
    exact hret trivial _ _ _ _ hP hD hS dX5_merged_23
  · have hf := zk_t c4 hf
    refine lv_lconst (v := (0 : Int64)) hx hb dX5_merged_12 (by decide) ?_
    obtain rfl := Option.some.inj hf
    exact hret trivial _ _ _ _ hP hD hS dX5_merged_13
def zf_X5_value (x0 : Int32) (x1 : Int32) (v_md_sayers : Int32) (v_md_measure : Int32) (f_md_weight : Nat → Int32) (f_md_says : Nat → Int64) (f_md_cost : Nat → Int32) (f_md_burdens : Nat → Int32) : Option (Int32 × (Nat → Int32)) :=
  (zf_X5_in x0.toInt64 (0 : Int64) (1 : Int64)).bind (fun v1 =>
  if v1 = 0 then
  some ((-1 : Int32), f_md_burdens)
  else
  (zf_X5_isWorld x1).bind (fun v2 =>
  if v2 = 0 then
  some ((-1 : Int32), f_md_burdens)
  else
  (zf_X5_laysAll v_md_sayers v_md_measure f_md_weight f_md_says f_md_cost f_md_burdens).bind (fun v3 =>
  if x0 = 0 then
  (zf_X5_sumOf x1 v_md_sayers v3).bind (fun v5 =>
  some (v5, v3))
  else
  (zf_X5_worstOf x1 v_md_sayers v3).bind (fun v4 =>
  some (v4, v3)))))
theorem hd_X5_value : yX5_value.cls = RX5 ∧ yX5_value.cls ≠ "java/lang/invoke/MethodHandle" ∧ yX5_value.cls ≠ "java/lang/invoke/VarHandle" ∧ (parseMethodDescriptor yX5_value.desc).map (fun d => d.parameters.length) = some 2 := by decide +kernel
set_option maxHeartbeats 4000000 in
set_option maxRecDepth 100000 in
theorem zc_X5_value (l : Launch) (D : va_G) (tL tO : Nat) (cI cJ cB cQ : ClassId) (a_md a_md_text a_md_weight a_md_says a_md_cost a_md_readWeight a_md_readSays a_md_opened a_md_any a_md_all a_md_burdens a_md_best a_md_own a_md_truth : Nat) (x0 : Int32) (x1 : Int32) (v_md_length : Int32) (v_md_laws : Int32) (v_md_sayers : Int32) (v_md_there : Int64) (v_md_question : Int64) (v_md_measure : Int32) (v_md_trace : Int64) (v_md_readLaws : Int32) (v_md_readSayers : Int32) (v_md_readThere : Int64) (v_md_begin : Int32) (v_md_end : Int32) (v_md_sort : Int32) (v_md_open : Int32) (v_md_level : Int32) (v_md_said : Int64) (f_md_weight : Nat → Int32) (f_md_says : Nat → Int64) (f_md_cost : Nat → Int32) (f_md_burdens : Nat → Int32) (z : Int32 × (Nat → Int32)) (hf : zf_X5_value x0 x1 v_md_sayers v_md_measure f_md_weight f_md_says f_md_cost f_md_burdens = some z) : zk_CT l D tL tO (zk_ty cI cJ cB cQ) yX5_value wsX5_value 5 116 [.ref a_md, .int x0, .int x1] (some (.int z.1)) [(a_md, .inr (5, [.int v_md_length, .ref a_md_text, .int v_md_laws, .int v_md_sayers, .long v_md_there, .long v_md_question, .ref a_md_weight, .ref a_md_says, .ref a_md_cost, .int v_md_measure, .long v_md_trace, .int v_md_readLaws, .int v_md_readSayers, .long v_md_readThere, .ref a_md_readWeight, .ref a_md_readSays, .int v_md_begin, .int v_md_end, .int v_md_sort, .int v_md_open, .ref a_md_opened, .int v_md_level, .ref a_md_any, .ref a_md_all, .long v_md_said, .ref a_md_burdens, .ref a_md_best, .ref a_md_own, .ref a_md_truth])), (a_md_weight, .inl (cI, 7, .inl f_md_weight)), (a_md_says, .inl (cJ, 7, .inr (.inl f_md_says))), (a_md_cost, .inl (cI, 6, .inl f_md_cost)), (a_md_burdens, .inl (cI, 448, .inl f_md_burdens))] [(a_md, .inr (5, [.int v_md_length, .ref a_md_text, .int v_md_laws, .int v_md_sayers, .long v_md_there, .long v_md_question, .ref a_md_weight, .ref a_md_says, .ref a_md_cost, .int v_md_measure, .long v_md_trace, .int v_md_readLaws, .int v_md_readSayers, .long v_md_readThere, .ref a_md_readWeight, .ref a_md_readSays, .int v_md_begin, .int v_md_end, .int v_md_sort, .int v_md_open, .ref a_md_opened, .int v_md_level, .ref a_md_any, .ref a_md_all, .long v_md_said, .ref a_md_burdens, .ref a_md_best, .ref a_md_own, .ref a_md_truth])), (a_md_weight, .inl (cI, 7, .inl f_md_weight)), (a_md_says, .inl (cJ, 7, .inr (.inl f_md_says))), (a_md_cost, .inl (cI, 6, .inl f_md_cost)), (a_md_burdens, .inl (cI, 448, .inl z.2))] := by
  refine zk_of_i (cc := cX5_value) (maxL := 3) (by decide) rfl (Nat.le_of_ble_eq_true rfl) ?_
  intro p e R s m args below meth c A Q ls hx hb hml hRf hRl hts hown hP hK hD hA hS hG hl hret
  have hl : lv_has ls 3 [(0, .ref a_md), (1, .int x0), (2, .int x1)] := hl
  have hown : s.vm.findClass RX5 = some m.cls := hown
  have hcs : 0 ≤ R.cells ∧ 0 ≤ R.slots := ⟨Nat.zero_le _, Nat.zero_le _⟩
  unfold zf_X5_value at hf
  refine lv_iload_n hx hb dX5_value_0 rfl (lv_at hl 1 rfl) ?_
  refine lv_i2l hx hb dX5_value_1 rfl ?_
  refine lv_lconst (v := (0 : Int64)) hx hb dX5_value_2 (by decide) ?_
  refine lv_lconst (v := (1 : Int64)) hx hb dX5_value_3 (by decide) ?_
  obtain ⟨v1, hv1, hf⟩ := zk_ob hf
  refine zk_goR (zk_S (As := [.long x0.toInt64, .long (0 : Int64), .long (1 : Int64)]) (rest := []) hx hb hml hown hts hK hG hP hD hS hA gX5_value_X5_in rfl hd_X5_in (Nat.le_trans (Nat.le_of_ble_eq_true rfl) hRf) (Nat.le_trans (Nat.le_of_ble_eq_true rfl) hRl) hcs (zc_X5_in l D tL tO cI cJ cB cQ x0.toInt64 (0 : Int64) (1 : Int64) v1 hv1) hl.1 rfl rfl (Nat.le_of_ble_eq_true rfl) dX5_value_4 [] rfl rfl) hP hD hS hA [] rfl (fun H locs hP hS => ?_)
  refine lv_if_eq (tgt := 17) hx hb dX5_value_7 (by decide) (fun c8 => ?_) (fun c8 => ?_)
  · have hf := zk_t c8 hf
    refine lv_iconst (v := (-1 : Int32)) hx hb dX5_value_17 (by decide) ?_
    obtain rfl := Option.some.inj hf
    exact hret trivial _ _ _ _ hP hD hS dX5_value_18
  · have hf := zk_f c8 hf
    refine lv_iload_n hx hb dX5_value_10 rfl (lv_at hl 2 rfl) ?_
    obtain ⟨v2, hv2, hf⟩ := zk_ob hf
    refine zk_goR (zk_S (As := [.int x1]) (rest := []) hx hb hml hown hts hK hG hP hD hS hA gX5_value_X5_isWorld rfl hd_X5_isWorld (Nat.le_trans (Nat.le_of_ble_eq_true rfl) hRf) (Nat.le_trans (Nat.le_of_ble_eq_true rfl) hRl) hcs (zc_X5_isWorld l D tL tO cI cJ cB cQ x1 v2 hv2) hl.1 rfl rfl (Nat.le_of_ble_eq_true rfl) dX5_value_11 [] rfl rfl) hP hD hS hA [] rfl (fun H locs hP hS => ?_)
    refine lv_if_ne (tgt := 19) hx hb dX5_value_14 (by decide) (fun c7 => ?_) (fun c7 => ?_)
    · have hf := zk_f c7 hf
      refine lv_aload_n hx hb dX5_value_19 rfl (lv_at hl 0 rfl) ?_
      obtain ⟨v3, hv3, hf⟩ := zk_ob hf
      refine zk_go (wr := []) (w2 := [(a_md, .inr (5, [.int v_md_length, .ref a_md_text, .int v_md_laws, .int v_md_sayers, .long v_md_there, .long v_md_question, .ref a_md_weight, .ref a_md_says, .ref a_md_cost, .int v_md_measure, .long v_md_trace, .int v_md_readLaws, .int v_md_readSayers, .long v_md_readThere, .ref a_md_readWeight, .ref a_md_readSays, .int v_md_begin, .int v_md_end, .int v_md_sort, .int v_md_open, .ref a_md_opened, .int v_md_level, .ref a_md_any, .ref a_md_all, .long v_md_said, .ref a_md_burdens, .ref a_md_best, .ref a_md_own, .ref a_md_truth])), (a_md_weight, .inl (cI, 7, .inl f_md_weight)), (a_md_says, .inl (cJ, 7, .inr (.inl f_md_says))), (a_md_cost, .inl (cI, 6, .inl f_md_cost)), (a_md_burdens, .inl (cI, 448, .inl v3))]) (zk_V (As := []) (rest := []) hx hb hml hown hts hK hG hP hD hS hA gX5_value_X5_laysAll rfl hd_X5_laysAll (Nat.le_trans (Nat.le_of_ble_eq_true rfl) hRf) (Nat.le_trans (Nat.le_of_ble_eq_true rfl) hRl) hcs (zc_X5_laysAll l D tL tO cI cJ cB cQ a_md a_md_text a_md_weight a_md_says a_md_cost a_md_readWeight a_md_readSays a_md_opened a_md_any a_md_all a_md_burdens a_md_best a_md_own a_md_truth v_md_length v_md_laws v_md_sayers v_md_there v_md_question v_md_measure v_md_trace v_md_readLaws v_md_readSayers v_md_readThere v_md_begin v_md_end v_md_sort v_md_open v_md_level v_md_said f_md_weight f_md_says f_md_cost f_md_burdens v3 hv3) rfl rfl 0 rfl hl.1 rfl rfl (Nat.le_of_ble_eq_true rfl) dX5_value_20 [0, 1, 2, 3, 4] rfl rfl) hP hD hS hA [0, 1, 2, 3, 4] [] [0, 1, 2, 3, 4] rfl rfl rfl (by decide) rfl rfl (fun H locs hP hD hS => ?_)
      refine lv_iload_n hx hb dX5_value_23 rfl (lv_at hl 1 rfl) ?_
      refine lv_if_ne (tgt := 35) hx hb dX5_value_24 (by decide) (fun c6 => ?_) (fun c6 => ?_)
      · have hf := zk_f c6 hf
        refine lv_aload_n hx hb dX5_value_35 rfl (lv_at hl 0 rfl) ?_
        refine lv_iload_n hx hb dX5_value_36 rfl (lv_at hl 2 rfl) ?_
        obtain ⟨v4, hv4, hf⟩ := zk_ob hf
        refine zk_goR (zk_V (As := [.int x1]) (rest := []) hx hb hml hown hts hK hG hP hD hS hA gX5_value_X5_worstOf rfl hd_X5_worstOf (Nat.le_trans (Nat.le_of_ble_eq_true rfl) hRf) (Nat.le_trans (Nat.le_of_ble_eq_true rfl) hRl) hcs (zc_X5_worstOf l D tL tO cI cJ cB cQ a_md a_md_text a_md_weight a_md_says a_md_cost a_md_readWeight a_md_readSays a_md_opened a_md_any a_md_all a_md_burdens a_md_best a_md_own a_md_truth x1 v_md_length v_md_laws v_md_sayers v_md_there v_md_question v_md_measure v_md_trace v_md_readLaws v_md_readSayers v_md_readThere v_md_begin v_md_end v_md_sort v_md_open v_md_level v_md_said v3 v4 hv4) rfl rfl 0 rfl hl.1 rfl rfl (Nat.le_of_ble_eq_true rfl) dX5_value_37 [0, 4] rfl rfl) hP hD hS hA [0, 4] rfl (fun H locs hP hS => ?_)
        obtain rfl := Option.some.inj hf
        exact hret trivial _ _ _ _ hP hD hS dX5_value_40
      · have hf := zk_t c6 hf
        refine lv_aload_n hx hb dX5_value_27 rfl (lv_at hl 0 rfl) ?_
        refine lv_iload_n hx hb dX5_value_28 rfl (lv_at hl 2 rfl) ?_
        obtain ⟨v5, hv5, hf⟩ := zk_ob hf
        refine zk_goR (zk_V (As := [.int x1]) (rest := []) hx hb hml hown hts hK hG hP hD hS hA gX5_value_X5_sumOf rfl hd_X5_sumOf (Nat.le_trans (Nat.le_of_ble_eq_true rfl) hRf) (Nat.le_trans (Nat.le_of_ble_eq_true rfl) hRl) hcs (zc_X5_sumOf l D tL tO cI cJ cB cQ a_md a_md_text a_md_weight a_md_says a_md_cost a_md_readWeight a_md_readSays a_md_opened a_md_any a_md_all a_md_burdens a_md_best a_md_own a_md_truth x1 v_md_length v_md_laws v_md_sayers v_md_there v_md_question v_md_measure v_md_trace v_md_readLaws v_md_readSayers v_md_readThere v_md_begin v_md_end v_md_sort v_md_open v_md_level v_md_said v3 v5 hv5) rfl rfl 0 rfl hl.1 rfl rfl (Nat.le_of_ble_eq_true rfl) dX5_value_29 [0, 4] rfl rfl) hP hD hS hA [0, 4] rfl (fun H locs hP hS => ?_)
        refine lv_goto (tgt := 40) hx hb dX5_value_32 (by decide) ?_
        obtain rfl := Option.some.inj hf
        exact hret trivial _ _ _ _ hP hD hS dX5_value_40
    · have hf := zk_t c7 hf
      refine lv_iconst (v := (-1 : Int32)) hx hb dX5_value_17 (by decide) ?_
      obtain rfl := Option.some.inj hf
      exact hret trivial _ _ _ _ hP hD hS dX5_value_18
def zf_X5_held (x0 : Int32) (v_md_sayers : Int32) (v_md_there : Int64) (v_md_question : Int64) (v_md_measure : Int32) (f_md_weight : Nat → Int32) (f_md_says : Nat → Int64) (f_md_cost : Nat → Int32) (f_md_burdens : Nat → Int32) (f_md_best : Nat → Int32) (f_md_own : Nat → Int32) : Option (Int32 × (Nat → Int32) × (Nat → Int32) × (Nat → Int32)) :=
  (zf_X5_in x0.toInt64 (0 : Int64) (2 : Int64)).bind (fun v1 =>
  if v1 = 0 then
  some ((-1 : Int32), f_md_burdens, f_md_best, f_md_own)
  else
  (zf_X5_laysAll v_md_sayers v_md_measure f_md_weight f_md_says f_md_cost f_md_burdens).bind (fun v2 =>
  (zf_X5_mergedBy x0 v_md_sayers v_md_there v2 f_md_best f_md_own).bind (fun v3 =>
  if (lg_cmp (v3.1 &&& (v_md_question ^^^ (-1 : Int64))) (0 : Int64)) = 0 then
  some ((1 : Int32), v2, v3.2.1, v3.2.2)
  else
  some ((0 : Int32), v2, v3.2.1, v3.2.2))))
theorem hd_X5_held : yX5_held.cls = RX5 ∧ yX5_held.cls ≠ "java/lang/invoke/MethodHandle" ∧ yX5_held.cls ≠ "java/lang/invoke/VarHandle" ∧ (parseMethodDescriptor yX5_held.desc).map (fun d => d.parameters.length) = some 1 := by decide +kernel
set_option maxHeartbeats 4000000 in
set_option maxRecDepth 100000 in
theorem zc_X5_held (l : Launch) (D : va_G) (tL tO : Nat) (cI cJ cB cQ : ClassId) (a_md a_md_text a_md_weight a_md_says a_md_cost a_md_readWeight a_md_readSays a_md_opened a_md_any a_md_all a_md_burdens a_md_best a_md_own a_md_truth : Nat) (x0 : Int32) (v_md_length : Int32) (v_md_laws : Int32) (v_md_sayers : Int32) (v_md_there : Int64) (v_md_question : Int64) (v_md_measure : Int32) (v_md_trace : Int64) (v_md_readLaws : Int32) (v_md_readSayers : Int32) (v_md_readThere : Int64) (v_md_begin : Int32) (v_md_end : Int32) (v_md_sort : Int32) (v_md_open : Int32) (v_md_level : Int32) (v_md_said : Int64) (f_md_weight : Nat → Int32) (f_md_says : Nat → Int64) (f_md_cost : Nat → Int32) (f_md_burdens : Nat → Int32) (f_md_best : Nat → Int32) (f_md_own : Nat → Int32) (z : Int32 × (Nat → Int32) × (Nat → Int32) × (Nat → Int32)) (hf : zf_X5_held x0 v_md_sayers v_md_there v_md_question v_md_measure f_md_weight f_md_says f_md_cost f_md_burdens f_md_best f_md_own = some z) : zk_CT l D tL tO (zk_ty cI cJ cB cQ) yX5_held wsX5_held 5 116 [.ref a_md, .int x0] (some (.int z.1)) [(a_md, .inr (5, [.int v_md_length, .ref a_md_text, .int v_md_laws, .int v_md_sayers, .long v_md_there, .long v_md_question, .ref a_md_weight, .ref a_md_says, .ref a_md_cost, .int v_md_measure, .long v_md_trace, .int v_md_readLaws, .int v_md_readSayers, .long v_md_readThere, .ref a_md_readWeight, .ref a_md_readSays, .int v_md_begin, .int v_md_end, .int v_md_sort, .int v_md_open, .ref a_md_opened, .int v_md_level, .ref a_md_any, .ref a_md_all, .long v_md_said, .ref a_md_burdens, .ref a_md_best, .ref a_md_own, .ref a_md_truth])), (a_md_weight, .inl (cI, 7, .inl f_md_weight)), (a_md_says, .inl (cJ, 7, .inr (.inl f_md_says))), (a_md_cost, .inl (cI, 6, .inl f_md_cost)), (a_md_burdens, .inl (cI, 448, .inl f_md_burdens)), (a_md_best, .inl (cI, 7, .inl f_md_best)), (a_md_own, .inl (cI, 7, .inl f_md_own))] [(a_md, .inr (5, [.int v_md_length, .ref a_md_text, .int v_md_laws, .int v_md_sayers, .long v_md_there, .long v_md_question, .ref a_md_weight, .ref a_md_says, .ref a_md_cost, .int v_md_measure, .long v_md_trace, .int v_md_readLaws, .int v_md_readSayers, .long v_md_readThere, .ref a_md_readWeight, .ref a_md_readSays, .int v_md_begin, .int v_md_end, .int v_md_sort, .int v_md_open, .ref a_md_opened, .int v_md_level, .ref a_md_any, .ref a_md_all, .long v_md_said, .ref a_md_burdens, .ref a_md_best, .ref a_md_own, .ref a_md_truth])), (a_md_weight, .inl (cI, 7, .inl f_md_weight)), (a_md_says, .inl (cJ, 7, .inr (.inl f_md_says))), (a_md_cost, .inl (cI, 6, .inl f_md_cost)), (a_md_burdens, .inl (cI, 448, .inl z.2.1)), (a_md_best, .inl (cI, 7, .inl z.2.2.1)), (a_md_own, .inl (cI, 7, .inl z.2.2.2))] := by
  refine zk_of_i (cc := cX5_held) (maxL := 2) (by decide) rfl (Nat.le_of_ble_eq_true rfl) ?_
  intro p e R s m args below meth c A Q ls hx hb hml hRf hRl hts hown hP hK hD hA hS hG hl hret
  have hl : lv_has ls 2 [(0, .ref a_md), (1, .int x0)] := hl
  have hown : s.vm.findClass RX5 = some m.cls := hown
  have hcs : 0 ≤ R.cells ∧ 0 ≤ R.slots := ⟨Nat.zero_le _, Nat.zero_le _⟩
  have lk0 := hts (.constantLong RX5 186 (2)) (by decide +kernel)
  have lk1 := hts (.fieldLink RX5 19 "SayingsMergedModel" "question" "J") (by decide +kernel)
  have inX5 : ∀ w ∈ wsX50, w ∈ wsX5_held := by decide +kernel
  have lk3 := hts (.constantLong RX5 13 (-1)) (by decide +kernel)
  unfold zf_X5_held at hf
  refine lv_iload_n hx hb dX5_held_0 rfl (lv_at hl 1 rfl) ?_
  refine lv_i2l hx hb dX5_held_1 rfl ?_
  refine lv_lconst (v := (0 : Int64)) hx hb dX5_held_2 (by decide) ?_
  refine lv_ldc2 hx hb hown lk0 dX5_held_3 ?_
  obtain ⟨v1, hv1, hf⟩ := zk_ob hf
  refine zk_goR (zk_S (As := [.long x0.toInt64, .long (0 : Int64), .long (2 : Int64)]) (rest := []) hx hb hml hown hts hK hG hP hD hS hA gX5_held_X5_in rfl hd_X5_in (Nat.le_trans (Nat.le_of_ble_eq_true rfl) hRf) (Nat.le_trans (Nat.le_of_ble_eq_true rfl) hRl) hcs (zc_X5_in l D tL tO cI cJ cB cQ x0.toInt64 (0 : Int64) (2 : Int64) v1 hv1) hl.1 rfl rfl (Nat.le_of_ble_eq_true rfl) dX5_held_6 [] rfl rfl) hP hD hS hA [] rfl (fun H locs hP hS => ?_)
  refine lv_if_ne (tgt := 14) hx hb dX5_held_9 (by decide) (fun c5 => ?_) (fun c5 => ?_)
  · have hf := zk_f c5 hf
    refine lv_aload_n hx hb dX5_held_14 rfl (lv_at hl 0 rfl) ?_
    obtain ⟨v2, hv2, hf⟩ := zk_ob hf
    refine zk_go (wr := [(a_md_best, .inl (cI, 7, .inl f_md_best)), (a_md_own, .inl (cI, 7, .inl f_md_own))]) (w2 := [(a_md, .inr (5, [.int v_md_length, .ref a_md_text, .int v_md_laws, .int v_md_sayers, .long v_md_there, .long v_md_question, .ref a_md_weight, .ref a_md_says, .ref a_md_cost, .int v_md_measure, .long v_md_trace, .int v_md_readLaws, .int v_md_readSayers, .long v_md_readThere, .ref a_md_readWeight, .ref a_md_readSays, .int v_md_begin, .int v_md_end, .int v_md_sort, .int v_md_open, .ref a_md_opened, .int v_md_level, .ref a_md_any, .ref a_md_all, .long v_md_said, .ref a_md_burdens, .ref a_md_best, .ref a_md_own, .ref a_md_truth])), (a_md_weight, .inl (cI, 7, .inl f_md_weight)), (a_md_says, .inl (cJ, 7, .inr (.inl f_md_says))), (a_md_cost, .inl (cI, 6, .inl f_md_cost)), (a_md_burdens, .inl (cI, 448, .inl v2)), (a_md_best, .inl (cI, 7, .inl f_md_best)), (a_md_own, .inl (cI, 7, .inl f_md_own))]) (zk_V (As := []) (rest := []) hx hb hml hown hts hK hG hP hD hS hA gX5_held_X5_laysAll rfl hd_X5_laysAll (Nat.le_trans (Nat.le_of_ble_eq_true rfl) hRf) (Nat.le_trans (Nat.le_of_ble_eq_true rfl) hRl) hcs (zc_X5_laysAll l D tL tO cI cJ cB cQ a_md a_md_text a_md_weight a_md_says a_md_cost a_md_readWeight a_md_readSays a_md_opened a_md_any a_md_all a_md_burdens a_md_best a_md_own a_md_truth v_md_length v_md_laws v_md_sayers v_md_there v_md_question v_md_measure v_md_trace v_md_readLaws v_md_readSayers v_md_readThere v_md_begin v_md_end v_md_sort v_md_open v_md_level v_md_said f_md_weight f_md_says f_md_cost f_md_burdens v2 hv2) rfl rfl 0 rfl hl.1 rfl rfl (Nat.le_of_ble_eq_true rfl) dX5_held_15 [0, 1, 2, 3, 4] rfl rfl) hP hD hS hA [0, 1, 2, 3, 4] [5, 6] [2, 3, 4, 5, 6, 0, 1] rfl rfl rfl (by decide) rfl rfl (fun H locs hP hD hS => ?_)
    refine lv_aload_n hx hb dX5_held_18 rfl (lv_at hl 0 rfl) ?_
    refine lv_iload_n hx hb dX5_held_19 rfl (lv_at hl 1 rfl) ?_
    obtain ⟨v3, hv3, hf⟩ := zk_ob hf
    refine zk_go (wr := [(a_md_weight, .inl (cI, 7, .inl f_md_weight)), (a_md_says, .inl (cJ, 7, .inr (.inl f_md_says))), (a_md_cost, .inl (cI, 6, .inl f_md_cost))]) (w2 := [(a_md, .inr (5, [.int v_md_length, .ref a_md_text, .int v_md_laws, .int v_md_sayers, .long v_md_there, .long v_md_question, .ref a_md_weight, .ref a_md_says, .ref a_md_cost, .int v_md_measure, .long v_md_trace, .int v_md_readLaws, .int v_md_readSayers, .long v_md_readThere, .ref a_md_readWeight, .ref a_md_readSays, .int v_md_begin, .int v_md_end, .int v_md_sort, .int v_md_open, .ref a_md_opened, .int v_md_level, .ref a_md_any, .ref a_md_all, .long v_md_said, .ref a_md_burdens, .ref a_md_best, .ref a_md_own, .ref a_md_truth])), (a_md_weight, .inl (cI, 7, .inl f_md_weight)), (a_md_says, .inl (cJ, 7, .inr (.inl f_md_says))), (a_md_cost, .inl (cI, 6, .inl f_md_cost)), (a_md_burdens, .inl (cI, 448, .inl v2)), (a_md_best, .inl (cI, 7, .inl v3.2.1)), (a_md_own, .inl (cI, 7, .inl v3.2.2))]) (zk_V (As := [.int x0]) (rest := []) hx hb hml hown hts hK hG hP hD hS hA gX5_held_X5_mergedBy rfl hd_X5_mergedBy (Nat.le_trans (Nat.le_of_ble_eq_true rfl) hRf) (Nat.le_trans (Nat.le_of_ble_eq_true rfl) hRl) hcs (zc_X5_mergedBy l D tL tO cI cJ cB cQ a_md a_md_text a_md_weight a_md_says a_md_cost a_md_readWeight a_md_readSays a_md_opened a_md_any a_md_all a_md_burdens a_md_best a_md_own a_md_truth x0 v_md_length v_md_laws v_md_sayers v_md_there v_md_question v_md_measure v_md_trace v_md_readLaws v_md_readSayers v_md_readThere v_md_begin v_md_end v_md_sort v_md_open v_md_level v_md_said v2 f_md_best f_md_own v3 hv3) rfl rfl 0 rfl hl.1 rfl rfl (Nat.le_of_ble_eq_true rfl) dX5_held_20 [0, 4, 5, 6] rfl rfl) hP hD hS hA [0, 4, 5, 6] [1, 2, 3] [3, 0, 1, 2, 4, 5, 6] rfl rfl rfl (by decide) rfl rfl (fun H locs hP hD hS => ?_)
    refine lv_aload_n hx hb dX5_held_23 rfl (lv_at hl 0 rfl) ?_
    refine va_get (ci := 5) (v := .long v_md_question) (C := RX5) (T := TX5) (N := 29) hx hb hts inX5 hown hK hP 0 rfl rfl 5 (by decide) lk1 (fun _ h9 => h9) rfl dX5_held_24 ?_
    refine lv_ldc2 hx hb hown lk3 dX5_held_27 ?_
    refine lv_lxor hx hb dX5_held_30 ?_
    refine lv_land hx hb dX5_held_31 ?_
    refine lv_lconst (v := (0 : Int64)) hx hb dX5_held_32 (by decide) ?_
    refine W.lcmp hx hb dX5_held_33 ?_
    refine lv_if_ne (tgt := 41) hx hb dX5_held_34 (by decide) (fun c4 => ?_) (fun c4 => ?_)
    · have hf := zk_f c4 hf
      refine lv_iconst (v := (0 : Int32)) hx hb dX5_held_41 (by decide) ?_
      obtain rfl := Option.some.inj hf
      exact hret trivial _ _ _ _ hP hD hS dX5_held_42
    · have hf := zk_t c4 hf
      refine lv_iconst (v := (1 : Int32)) hx hb dX5_held_37 (by decide) ?_
      refine lv_goto (tgt := 42) hx hb dX5_held_38 (by decide) ?_
      obtain rfl := Option.some.inj hf
      exact hret trivial _ _ _ _ hP hD hS dX5_held_42
  · have hf := zk_t c5 hf
    refine lv_iconst (v := (-1 : Int32)) hx hb dX5_held_12 (by decide) ?_
    obtain rfl := Option.some.inj hf
    exact hret trivial _ _ _ _ hP hD hS dX5_held_13
